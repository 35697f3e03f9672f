/-! J6_bitCount_0f7a4 -/
theorem wJ6_bitCount_0f7a4_0 : Cond.constant RJ6 265 (1431655765) ∈ wsJ6_bitCount_0f7a4 := by decide +kernel
theorem wJ6_bitCount_0f7a4_1 : Cond.constant RJ6 266 (858993459) ∈ wsJ6_bitCount_0f7a4 := by decide +kernel
theorem wJ6_bitCount_0f7a4_2 : Cond.constant RJ6 267 (252645135) ∈ wsJ6_bitCount_0f7a4 := by decide +kernel
theorem kcJ6_bitCount_0f7a4 : yJ6_bitCount_0f7a4.cls ≠ "java/lang/invoke/MethodHandle" ∧ yJ6_bitCount_0f7a4.cls ≠ "java/lang/invoke/VarHandle" ∧ (parseMethodDescriptor yJ6_bitCount_0f7a4.desc).map (fun d => d.parameters.length) = some 1 := by decide +kernel
def pJ6_bitCount_0f7a4 (k n : Nat) (σ : fqS) (x0 : Int32) : Option Int32 :=
  some ((((((((x0 - ((((x0).toUInt32 >>> (((1 : Int32)).toUInt32 &&& Int32.toUInt32 31)).toInt32) &&& (1431655765 : Int32))) &&& (858993459 : Int32)) + (((((x0 - ((((x0).toUInt32 >>> (((1 : Int32)).toUInt32 &&& Int32.toUInt32 31)).toInt32) &&& (1431655765 : Int32)))).toUInt32 >>> (((2 : Int32)).toUInt32 &&& Int32.toUInt32 31)).toInt32) &&& (858993459 : Int32))) + ((((((x0 - ((((x0).toUInt32 >>> (((1 : Int32)).toUInt32 &&& Int32.toUInt32 31)).toInt32) &&& (1431655765 : Int32))) &&& (858993459 : Int32)) + (((((x0 - ((((x0).toUInt32 >>> (((1 : Int32)).toUInt32 &&& Int32.toUInt32 31)).toInt32) &&& (1431655765 : Int32)))).toUInt32 >>> (((2 : Int32)).toUInt32 &&& Int32.toUInt32 31)).toInt32) &&& (858993459 : Int32)))).toUInt32 >>> (((4 : Int32)).toUInt32 &&& Int32.toUInt32 31)).toInt32)) &&& (252645135 : Int32)) + ((((((((x0 - ((((x0).toUInt32 >>> (((1 : Int32)).toUInt32 &&& Int32.toUInt32 31)).toInt32) &&& (1431655765 : Int32))) &&& (858993459 : Int32)) + (((((x0 - ((((x0).toUInt32 >>> (((1 : Int32)).toUInt32 &&& Int32.toUInt32 31)).toInt32) &&& (1431655765 : Int32)))).toUInt32 >>> (((2 : Int32)).toUInt32 &&& Int32.toUInt32 31)).toInt32) &&& (858993459 : Int32))) + ((((((x0 - ((((x0).toUInt32 >>> (((1 : Int32)).toUInt32 &&& Int32.toUInt32 31)).toInt32) &&& (1431655765 : Int32))) &&& (858993459 : Int32)) + (((((x0 - ((((x0).toUInt32 >>> (((1 : Int32)).toUInt32 &&& Int32.toUInt32 31)).toInt32) &&& (1431655765 : Int32)))).toUInt32 >>> (((2 : Int32)).toUInt32 &&& Int32.toUInt32 31)).toInt32) &&& (858993459 : Int32)))).toUInt32 >>> (((4 : Int32)).toUInt32 &&& Int32.toUInt32 31)).toInt32)) &&& (252645135 : Int32))).toUInt32 >>> (((8 : Int32)).toUInt32 &&& Int32.toUInt32 31)).toInt32)) + (((((((((x0 - ((((x0).toUInt32 >>> (((1 : Int32)).toUInt32 &&& Int32.toUInt32 31)).toInt32) &&& (1431655765 : Int32))) &&& (858993459 : Int32)) + (((((x0 - ((((x0).toUInt32 >>> (((1 : Int32)).toUInt32 &&& Int32.toUInt32 31)).toInt32) &&& (1431655765 : Int32)))).toUInt32 >>> (((2 : Int32)).toUInt32 &&& Int32.toUInt32 31)).toInt32) &&& (858993459 : Int32))) + ((((((x0 - ((((x0).toUInt32 >>> (((1 : Int32)).toUInt32 &&& Int32.toUInt32 31)).toInt32) &&& (1431655765 : Int32))) &&& (858993459 : Int32)) + (((((x0 - ((((x0).toUInt32 >>> (((1 : Int32)).toUInt32 &&& Int32.toUInt32 31)).toInt32) &&& (1431655765 : Int32)))).toUInt32 >>> (((2 : Int32)).toUInt32 &&& Int32.toUInt32 31)).toInt32) &&& (858993459 : Int32)))).toUInt32 >>> (((4 : Int32)).toUInt32 &&& Int32.toUInt32 31)).toInt32)) &&& (252645135 : Int32)) + ((((((((x0 - ((((x0).toUInt32 >>> (((1 : Int32)).toUInt32 &&& Int32.toUInt32 31)).toInt32) &&& (1431655765 : Int32))) &&& (858993459 : Int32)) + (((((x0 - ((((x0).toUInt32 >>> (((1 : Int32)).toUInt32 &&& Int32.toUInt32 31)).toInt32) &&& (1431655765 : Int32)))).toUInt32 >>> (((2 : Int32)).toUInt32 &&& Int32.toUInt32 31)).toInt32) &&& (858993459 : Int32))) + ((((((x0 - ((((x0).toUInt32 >>> (((1 : Int32)).toUInt32 &&& Int32.toUInt32 31)).toInt32) &&& (1431655765 : Int32))) &&& (858993459 : Int32)) + (((((x0 - ((((x0).toUInt32 >>> (((1 : Int32)).toUInt32 &&& Int32.toUInt32 31)).toInt32) &&& (1431655765 : Int32)))).toUInt32 >>> (((2 : Int32)).toUInt32 &&& Int32.toUInt32 31)).toInt32) &&& (858993459 : Int32)))).toUInt32 >>> (((4 : Int32)).toUInt32 &&& Int32.toUInt32 31)).toInt32)) &&& (252645135 : Int32))).toUInt32 >>> (((8 : Int32)).toUInt32 &&& Int32.toUInt32 31)).toInt32))).toUInt32 >>> (((16 : Int32)).toUInt32 &&& Int32.toUInt32 31)).toInt32)) &&& (63 : Int32))
set_option maxRecDepth 100000 in
set_option maxHeartbeats 4000000 in
theorem qJ6_bitCount_0f7a4 (l : Launch) (D : va_G) (cy : Nat → ClassId) (ad : Nat → Nat) (sz n : Nat) (σ : fqS) (k : Nat) (x0 : Int32) {r : Int32} (hf : pJ6_bitCount_0f7a4 k n σ x0 = some r) : Met l yJ6_bitCount_0f7a4 wsJ6_bitCount_0f7a4 ({ frames := 0, cells := 0, slots := 0, locals := 0 } : Room) (fqPc (TX cy) ZX D cy ad sz n σ [.int x0]) (fqQi (TX cy) ZX D ad sz n σ r σ) 0 0 (fqA (TX cy) ZX ad sz n σ) := by
  refine fq_enter_i (cc := cJ6_bitCount_0f7a4) (maxL := 1) (own := RJ6) _ (by decide) rfl (Nat.le_of_ble_eq_true rfl) rfl (fun X E hret => ?_)
  unfold pJ6_bitCount_0f7a4 at hf
  show fqG X (TX cy) ZX ad n 1 0 0 σ 0 [(0, .int x0)] []
  refine g_iload_n (pc := 0) E dJ6_bitCount_0f7a4_0 0 rfl rfl ?_
  refine g_iload_n (pc := 1) E dJ6_bitCount_0f7a4_1 0 rfl rfl ?_
  refine g_iconst (pc := 2) E (1 : Int32) dJ6_bitCount_0f7a4_2 (by decide) ?_
  refine g_iushr (pc := 3) E dJ6_bitCount_0f7a4_3 ?_
  refine g_ldc_w (pc := 4) E dJ6_bitCount_0f7a4_4 wJ6_bitCount_0f7a4_0 ?_
  refine g_iand (pc := 7) E dJ6_bitCount_0f7a4_7 ?_
  refine g_isub (pc := 8) E dJ6_bitCount_0f7a4_8 ?_
  refine g_istore_n (pc := 9) E [(0, .int (x0 - ((((x0).toUInt32 >>> (((1 : Int32)).toUInt32 &&& Int32.toUInt32 31)).toInt32) &&& (1431655765 : Int32))))] dJ6_bitCount_0f7a4_9 rfl (by decide) rfl ?_
  refine g_iload_n (pc := 10) E dJ6_bitCount_0f7a4_10 0 rfl rfl ?_
  refine g_ldc_w (pc := 11) E dJ6_bitCount_0f7a4_11 wJ6_bitCount_0f7a4_1 ?_
  refine g_iand (pc := 14) E dJ6_bitCount_0f7a4_14 ?_
  refine g_iload_n (pc := 15) E dJ6_bitCount_0f7a4_15 0 rfl rfl ?_
  refine g_iconst (pc := 16) E (2 : Int32) dJ6_bitCount_0f7a4_16 (by decide) ?_
  refine g_iushr (pc := 17) E dJ6_bitCount_0f7a4_17 ?_
  refine g_ldc_w (pc := 18) E dJ6_bitCount_0f7a4_18 wJ6_bitCount_0f7a4_1 ?_
  refine g_iand (pc := 21) E dJ6_bitCount_0f7a4_21 ?_
  refine g_iadd (pc := 22) E dJ6_bitCount_0f7a4_22 ?_
  refine g_istore_n (pc := 23) E [(0, .int (((x0 - ((((x0).toUInt32 >>> (((1 : Int32)).toUInt32 &&& Int32.toUInt32 31)).toInt32) &&& (1431655765 : Int32))) &&& (858993459 : Int32)) + (((((x0 - ((((x0).toUInt32 >>> (((1 : Int32)).toUInt32 &&& Int32.toUInt32 31)).toInt32) &&& (1431655765 : Int32)))).toUInt32 >>> (((2 : Int32)).toUInt32 &&& Int32.toUInt32 31)).toInt32) &&& (858993459 : Int32))))] dJ6_bitCount_0f7a4_23 rfl (by decide) rfl ?_
  refine g_iload_n (pc := 24) E dJ6_bitCount_0f7a4_24 0 rfl rfl ?_
  refine g_iload_n (pc := 25) E dJ6_bitCount_0f7a4_25 0 rfl rfl ?_
  refine g_iconst (pc := 26) E (4 : Int32) dJ6_bitCount_0f7a4_26 (by decide) ?_
  refine g_iushr (pc := 27) E dJ6_bitCount_0f7a4_27 ?_
  refine g_iadd (pc := 28) E dJ6_bitCount_0f7a4_28 ?_
  refine g_ldc_w (pc := 29) E dJ6_bitCount_0f7a4_29 wJ6_bitCount_0f7a4_2 ?_
  refine g_iand (pc := 32) E dJ6_bitCount_0f7a4_32 ?_
  refine g_istore_n (pc := 33) E [(0, .int (((((x0 - ((((x0).toUInt32 >>> (((1 : Int32)).toUInt32 &&& Int32.toUInt32 31)).toInt32) &&& (1431655765 : Int32))) &&& (858993459 : Int32)) + (((((x0 - ((((x0).toUInt32 >>> (((1 : Int32)).toUInt32 &&& Int32.toUInt32 31)).toInt32) &&& (1431655765 : Int32)))).toUInt32 >>> (((2 : Int32)).toUInt32 &&& Int32.toUInt32 31)).toInt32) &&& (858993459 : Int32))) + ((((((x0 - ((((x0).toUInt32 >>> (((1 : Int32)).toUInt32 &&& Int32.toUInt32 31)).toInt32) &&& (1431655765 : Int32))) &&& (858993459 : Int32)) + (((((x0 - ((((x0).toUInt32 >>> (((1 : Int32)).toUInt32 &&& Int32.toUInt32 31)).toInt32) &&& (1431655765 : Int32)))).toUInt32 >>> (((2 : Int32)).toUInt32 &&& Int32.toUInt32 31)).toInt32) &&& (858993459 : Int32)))).toUInt32 >>> (((4 : Int32)).toUInt32 &&& Int32.toUInt32 31)).toInt32)) &&& (252645135 : Int32)))] dJ6_bitCount_0f7a4_33 rfl (by decide) rfl ?_
  refine g_iload_n (pc := 34) E dJ6_bitCount_0f7a4_34 0 rfl rfl ?_
  refine g_iload_n (pc := 35) E dJ6_bitCount_0f7a4_35 0 rfl rfl ?_
  refine g_bipush (pc := 36) E (8 : Int32) dJ6_bitCount_0f7a4_36 (by decide) ?_
  refine g_iushr (pc := 38) E dJ6_bitCount_0f7a4_38 ?_
  refine g_iadd (pc := 39) E dJ6_bitCount_0f7a4_39 ?_
  refine g_istore_n (pc := 40) E [(0, .int ((((((x0 - ((((x0).toUInt32 >>> (((1 : Int32)).toUInt32 &&& Int32.toUInt32 31)).toInt32) &&& (1431655765 : Int32))) &&& (858993459 : Int32)) + (((((x0 - ((((x0).toUInt32 >>> (((1 : Int32)).toUInt32 &&& Int32.toUInt32 31)).toInt32) &&& (1431655765 : Int32)))).toUInt32 >>> (((2 : Int32)).toUInt32 &&& Int32.toUInt32 31)).toInt32) &&& (858993459 : Int32))) + ((((((x0 - ((((x0).toUInt32 >>> (((1 : Int32)).toUInt32 &&& Int32.toUInt32 31)).toInt32) &&& (1431655765 : Int32))) &&& (858993459 : Int32)) + (((((x0 - ((((x0).toUInt32 >>> (((1 : Int32)).toUInt32 &&& Int32.toUInt32 31)).toInt32) &&& (1431655765 : Int32)))).toUInt32 >>> (((2 : Int32)).toUInt32 &&& Int32.toUInt32 31)).toInt32) &&& (858993459 : Int32)))).toUInt32 >>> (((4 : Int32)).toUInt32 &&& Int32.toUInt32 31)).toInt32)) &&& (252645135 : Int32)) + ((((((((x0 - ((((x0).toUInt32 >>> (((1 : Int32)).toUInt32 &&& Int32.toUInt32 31)).toInt32) &&& (1431655765 : Int32))) &&& (858993459 : Int32)) + (((((x0 - ((((x0).toUInt32 >>> (((1 : Int32)).toUInt32 &&& Int32.toUInt32 31)).toInt32) &&& (1431655765 : Int32)))).toUInt32 >>> (((2 : Int32)).toUInt32 &&& Int32.toUInt32 31)).toInt32) &&& (858993459 : Int32))) + ((((((x0 - ((((x0).toUInt32 >>> (((1 : Int32)).toUInt32 &&& Int32.toUInt32 31)).toInt32) &&& (1431655765 : Int32))) &&& (858993459 : Int32)) + (((((x0 - ((((x0).toUInt32 >>> (((1 : Int32)).toUInt32 &&& Int32.toUInt32 31)).toInt32) &&& (1431655765 : Int32)))).toUInt32 >>> (((2 : Int32)).toUInt32 &&& Int32.toUInt32 31)).toInt32) &&& (858993459 : Int32)))).toUInt32 >>> (((4 : Int32)).toUInt32 &&& Int32.toUInt32 31)).toInt32)) &&& (252645135 : Int32))).toUInt32 >>> (((8 : Int32)).toUInt32 &&& Int32.toUInt32 31)).toInt32)))] dJ6_bitCount_0f7a4_40 rfl (by decide) rfl ?_
  refine g_iload_n (pc := 41) E dJ6_bitCount_0f7a4_41 0 rfl rfl ?_
  refine g_iload_n (pc := 42) E dJ6_bitCount_0f7a4_42 0 rfl rfl ?_
  refine g_bipush (pc := 43) E (16 : Int32) dJ6_bitCount_0f7a4_43 (by decide) ?_
  refine g_iushr (pc := 45) E dJ6_bitCount_0f7a4_45 ?_
  refine g_iadd (pc := 46) E dJ6_bitCount_0f7a4_46 ?_
  refine g_istore_n (pc := 47) E [(0, .int (((((((x0 - ((((x0).toUInt32 >>> (((1 : Int32)).toUInt32 &&& Int32.toUInt32 31)).toInt32) &&& (1431655765 : Int32))) &&& (858993459 : Int32)) + (((((x0 - ((((x0).toUInt32 >>> (((1 : Int32)).toUInt32 &&& Int32.toUInt32 31)).toInt32) &&& (1431655765 : Int32)))).toUInt32 >>> (((2 : Int32)).toUInt32 &&& Int32.toUInt32 31)).toInt32) &&& (858993459 : Int32))) + ((((((x0 - ((((x0).toUInt32 >>> (((1 : Int32)).toUInt32 &&& Int32.toUInt32 31)).toInt32) &&& (1431655765 : Int32))) &&& (858993459 : Int32)) + (((((x0 - ((((x0).toUInt32 >>> (((1 : Int32)).toUInt32 &&& Int32.toUInt32 31)).toInt32) &&& (1431655765 : Int32)))).toUInt32 >>> (((2 : Int32)).toUInt32 &&& Int32.toUInt32 31)).toInt32) &&& (858993459 : Int32)))).toUInt32 >>> (((4 : Int32)).toUInt32 &&& Int32.toUInt32 31)).toInt32)) &&& (252645135 : Int32)) + ((((((((x0 - ((((x0).toUInt32 >>> (((1 : Int32)).toUInt32 &&& Int32.toUInt32 31)).toInt32) &&& (1431655765 : Int32))) &&& (858993459 : Int32)) + (((((x0 - ((((x0).toUInt32 >>> (((1 : Int32)).toUInt32 &&& Int32.toUInt32 31)).toInt32) &&& (1431655765 : Int32)))).toUInt32 >>> (((2 : Int32)).toUInt32 &&& Int32.toUInt32 31)).toInt32) &&& (858993459 : Int32))) + ((((((x0 - ((((x0).toUInt32 >>> (((1 : Int32)).toUInt32 &&& Int32.toUInt32 31)).toInt32) &&& (1431655765 : Int32))) &&& (858993459 : Int32)) + (((((x0 - ((((x0).toUInt32 >>> (((1 : Int32)).toUInt32 &&& Int32.toUInt32 31)).toInt32) &&& (1431655765 : Int32)))).toUInt32 >>> (((2 : Int32)).toUInt32 &&& Int32.toUInt32 31)).toInt32) &&& (858993459 : Int32)))).toUInt32 >>> (((4 : Int32)).toUInt32 &&& Int32.toUInt32 31)).toInt32)) &&& (252645135 : Int32))).toUInt32 >>> (((8 : Int32)).toUInt32 &&& Int32.toUInt32 31)).toInt32)) + (((((((((x0 - ((((x0).toUInt32 >>> (((1 : Int32)).toUInt32 &&& Int32.toUInt32 31)).toInt32) &&& (1431655765 : Int32))) &&& (858993459 : Int32)) + (((((x0 - ((((x0).toUInt32 >>> (((1 : Int32)).toUInt32 &&& Int32.toUInt32 31)).toInt32) &&& (1431655765 : Int32)))).toUInt32 >>> (((2 : Int32)).toUInt32 &&& Int32.toUInt32 31)).toInt32) &&& (858993459 : Int32))) + ((((((x0 - ((((x0).toUInt32 >>> (((1 : Int32)).toUInt32 &&& Int32.toUInt32 31)).toInt32) &&& (1431655765 : Int32))) &&& (858993459 : Int32)) + (((((x0 - ((((x0).toUInt32 >>> (((1 : Int32)).toUInt32 &&& Int32.toUInt32 31)).toInt32) &&& (1431655765 : Int32)))).toUInt32 >>> (((2 : Int32)).toUInt32 &&& Int32.toUInt32 31)).toInt32) &&& (858993459 : Int32)))).toUInt32 >>> (((4 : Int32)).toUInt32 &&& Int32.toUInt32 31)).toInt32)) &&& (252645135 : Int32)) + ((((((((x0 - ((((x0).toUInt32 >>> (((1 : Int32)).toUInt32 &&& Int32.toUInt32 31)).toInt32) &&& (1431655765 : Int32))) &&& (858993459 : Int32)) + (((((x0 - ((((x0).toUInt32 >>> (((1 : Int32)).toUInt32 &&& Int32.toUInt32 31)).toInt32) &&& (1431655765 : Int32)))).toUInt32 >>> (((2 : Int32)).toUInt32 &&& Int32.toUInt32 31)).toInt32) &&& (858993459 : Int32))) + ((((((x0 - ((((x0).toUInt32 >>> (((1 : Int32)).toUInt32 &&& Int32.toUInt32 31)).toInt32) &&& (1431655765 : Int32))) &&& (858993459 : Int32)) + (((((x0 - ((((x0).toUInt32 >>> (((1 : Int32)).toUInt32 &&& Int32.toUInt32 31)).toInt32) &&& (1431655765 : Int32)))).toUInt32 >>> (((2 : Int32)).toUInt32 &&& Int32.toUInt32 31)).toInt32) &&& (858993459 : Int32)))).toUInt32 >>> (((4 : Int32)).toUInt32 &&& Int32.toUInt32 31)).toInt32)) &&& (252645135 : Int32))).toUInt32 >>> (((8 : Int32)).toUInt32 &&& Int32.toUInt32 31)).toInt32))).toUInt32 >>> (((16 : Int32)).toUInt32 &&& Int32.toUInt32 31)).toInt32)))] dJ6_bitCount_0f7a4_47 rfl (by decide) rfl ?_
  refine g_iload_n (pc := 48) E dJ6_bitCount_0f7a4_48 0 rfl rfl ?_
  refine g_bipush (pc := 49) E (63 : Int32) dJ6_bitCount_0f7a4_49 (by decide) ?_
  refine g_iand (pc := 51) E dJ6_bitCount_0f7a4_51 ?_
  exact hret _ _ _ _ dJ6_bitCount_0f7a4_52 (congrArg (fun z => (z, σ)) (Option.some.inj hf))

/-! X0_behind -/
theorem wX0_behind_0 : Cond.fieldLink RX0 9 "FairQueue$Bounds" "base" "J" ∈ wsX0_behind := by decide +kernel
theorem uX0_behind_X0 : ∀ w ∈ u_ws RX0 TX0 3, w ∈ wsX0_behind := (fun _ h => List.mem_cons_of_mem _ (List.mem_append_right _ h))
theorem wX0_behind_2 : Cond.fieldLink RX0 17 "FairQueue$Bounds" "step" "J" ∈ wsX0_behind := by decide +kernel
theorem wX0_behind_3 : Cond.fieldLink RX0 22 "FairQueue$Bounds" "top" "J" ∈ wsX0_behind := by decide +kernel
theorem wX0_behind_4 : Cond.methodLink RX0 25 Lib.MathLoose.min_long.x ∈ wsX0_behind := by decide +kernel
theorem wX0_behind_5 : Cond.static Lib.MathLoose.min_long.x ∈ wsX0_behind := by decide +kernel
theorem wX0_behind_6 : Cond.initialized "java/lang/Math" ∈ wsX0_behind := by decide +kernel
theorem wX0_behind_7 : Cond.code Lib.MathLoose.min_long.x Lib.MathLoose.min_long.code 4 (some .long) ∈ wsX0_behind := by decide +kernel
theorem kcX0_behind : yX0_behind.cls = RX0 ∧ yX0_behind.cls ≠ "java/lang/invoke/MethodHandle" ∧ yX0_behind.cls ≠ "java/lang/invoke/VarHandle" ∧ (parseMethodDescriptor yX0_behind.desc).map (fun d => d.parameters.length) = some 1 := by decide +kernel
def pX0_behind (k n : Nat) (σ : fqS) (x1 : Int64) : Option Int64 :=
  some (if (fqJ σ 23 2) < ((fqJ σ 23 0) + ((fqJ σ 23 1) * x1)) then (fqJ σ 23 2) else ((fqJ σ 23 0) + ((fqJ σ 23 1) * x1)))
set_option maxRecDepth 100000 in
set_option maxHeartbeats 4000000 in
theorem qX0_behind (l : Launch) (D : va_G) (cy : Nat → ClassId) (ad : Nat → Nat) (sz n : Nat) (σ : fqS) (k : Nat) (x1 : Int64) {r : Int64} (hf : pX0_behind k n σ x1 = some r) : Met l yX0_behind wsX0_behind ({ frames := 1, cells := 0, slots := 0, locals := 23 } : Room) (fqPc (TX cy) ZX D cy ad sz n σ [.ref (ad 23), .long x1]) (fqQl (TX cy) ZX D ad sz n σ r σ) 0 0 (fqA (TX cy) ZX ad sz n σ) := by
  refine fq_enter_l (cc := cX0_behind) (maxL := 3) (own := RX0) _ (by decide) rfl (Nat.le_of_ble_eq_true rfl) rfl (fun X E hret => ?_)
  unfold pX0_behind at hf
  show fqG X (TX cy) ZX ad n 3 0 0 σ 0 [(0, .ref (ad 23)), (1, .long x1)] []
  refine g_aload_n (pc := 0) E dX0_behind_0 0 rfl rfl ?_
  refine g_getfield (pc := 1) E uX0_behind_X0 23 (zx_l (by decide)) (fun _ _ => rfl) rfl 0 (by decide) wX0_behind_0 (.long (fqJ σ 23 0)) rfl dX0_behind_1 ?_
  refine g_aload_n (pc := 4) E dX0_behind_4 0 rfl rfl ?_
  refine g_getfield (pc := 5) E uX0_behind_X0 23 (zx_l (by decide)) (fun _ _ => rfl) rfl 1 (by decide) wX0_behind_2 (.long (fqJ σ 23 1)) rfl dX0_behind_5 ?_
  refine g_lload_n (pc := 8) E dX0_behind_8 1 rfl rfl ?_
  refine g_lmul (pc := 9) E dX0_behind_9 ?_
  refine g_ladd (pc := 10) E dX0_behind_10 ?_
  refine g_aload_n (pc := 11) E dX0_behind_11 0 rfl rfl ?_
  refine g_getfield (pc := 12) E uX0_behind_X0 23 (zx_l (by decide)) (fun _ _ => rfl) rfl 2 (by decide) wX0_behind_3 (.long (fqJ σ 23 2)) rfl dX0_behind_12 ?_
  refine g_mminL (pc := 15) E wX0_behind_4 wX0_behind_5 wX0_behind_6 wX0_behind_7 (by decide) (Nat.le_of_ble_eq_true rfl) (by decide) dX0_behind_15 ?_
  exact hret _ _ _ _ dX0_behind_18 (congrArg (fun z => (z, σ)) (Option.some.inj hf))

/-! X1_clear -/
theorem wX1_clear_0 : Cond.fieldLink RX1 9 "FairQueue$Match" "first" "I" ∈ wsX1_clear := by decide +kernel
theorem uX1_clear_X1 : ∀ w ∈ u_ws RX1 TX1 4, w ∈ wsX1_clear := (fun _ h => List.mem_cons_of_mem _ (List.mem_append_right _ h))
theorem wX1_clear_2 : Cond.fieldLink RX1 15 "FairQueue$Match" "second" "I" ∈ wsX1_clear := by decide +kernel
theorem wX1_clear_3 : Cond.fieldLink RX1 18 "FairQueue$Match" "dropped" "I" ∈ wsX1_clear := by decide +kernel
theorem wX1_clear_4 : Cond.fieldLink RX1 21 "FairQueue$Match" "made" "J" ∈ wsX1_clear := by decide +kernel
theorem kcX1_clear : yX1_clear.cls = RX1 ∧ yX1_clear.cls ≠ "java/lang/invoke/MethodHandle" ∧ yX1_clear.cls ≠ "java/lang/invoke/VarHandle" ∧ (parseMethodDescriptor yX1_clear.desc).map (fun d => d.parameters.length) = some 0 := by decide +kernel
def pX1_clear (k n : Nat) (σ : fqS) (m : Nat) : Option fqS :=
  (fqN (fqPI σ (18 + m) 0 (0 : Int32)) (fun σ1 => (fqN (fqPI σ1 (18 + m) 1 (0 : Int32)) (fun σ3 => (fqN (fqPI σ3 (18 + m) 2 (0 : Int32)) (fun σ5 => (fqN (fqPJ σ5 (18 + m) 3 (0 : Int64)) (fun σ7 => some σ7))))))))
set_option maxRecDepth 100000 in
set_option maxHeartbeats 4000000 in
theorem qX1_clear (l : Launch) (D : va_G) (cy : Nat → ClassId) (ad : Nat → Nat) (sz n : Nat) (σ : fqS) (k : Nat) (m : Nat) (hm : m < 5) {σ' : fqS} (hf : pX1_clear k n σ m = some σ') : Met l yX1_clear wsX1_clear ({ frames := 0, cells := 0, slots := 0, locals := 0 } : Room) (fqPc (TX cy) ZX D cy ad sz n σ [.ref (ad (18 + m))]) (fqQv (TX cy) ZX D ad sz n σ σ') 0 0 (fqA (TX cy) ZX ad sz n σ) := by
  refine fq_enter_v (cc := cX1_clear) (maxL := 1) (own := RX1) _ (by decide) rfl (Nat.le_of_ble_eq_true rfl) rfl (fun X E hret => ?_)
  unfold pX1_clear at hf
  show fqG X (TX cy) ZX ad n 1 0 0 σ 0 [(0, .ref (ad (18 + m)))] []
  refine g_aload_n (pc := 0) E dX1_clear_0 0 rfl rfl ?_
  refine g_iconst (pc := 1) E (0 : Int32) dX1_clear_1 (by decide) ?_
  refine g_putI (pc := 2) E uX1_clear_X1 tyX1 tyX1_ok nmX1 (18 + m) (zx_m hm) (tx_m cy ad n hm) rfl 0 (by decide) wX1_clear_0 rfl rfl (Nat.le_of_ble_eq_true rfl) rfl dX1_clear_2 ?_
  obtain ⟨σ1, e2, hf⟩ := fq_n hf
  refine g_sg e2 ?_
  refine g_aload_n (pc := 5) E dX1_clear_5 0 rfl rfl ?_
  refine g_iconst (pc := 6) E (0 : Int32) dX1_clear_6 (by decide) ?_
  refine g_putI (pc := 7) E uX1_clear_X1 tyX1 tyX1_ok nmX1 (18 + m) (zx_m hm) (tx_m cy ad n hm) rfl 1 (by decide) wX1_clear_2 rfl rfl (Nat.le_of_ble_eq_true rfl) rfl dX1_clear_7 ?_
  obtain ⟨σ3, e4, hf⟩ := fq_n hf
  refine g_sg e4 ?_
  refine g_aload_n (pc := 10) E dX1_clear_10 0 rfl rfl ?_
  refine g_iconst (pc := 11) E (0 : Int32) dX1_clear_11 (by decide) ?_
  refine g_putI (pc := 12) E uX1_clear_X1 tyX1 tyX1_ok nmX1 (18 + m) (zx_m hm) (tx_m cy ad n hm) rfl 2 (by decide) wX1_clear_3 rfl rfl (Nat.le_of_ble_eq_true rfl) rfl dX1_clear_12 ?_
  obtain ⟨σ5, e6, hf⟩ := fq_n hf
  refine g_sg e6 ?_
  refine g_aload_n (pc := 15) E dX1_clear_15 0 rfl rfl ?_
  refine g_lconst (pc := 16) E (0 : Int64) dX1_clear_16 (by decide) ?_
  refine g_putJ (pc := 17) E uX1_clear_X1 tyX1 tyX1_ok nmX1 (18 + m) (zx_m hm) (tx_m cy ad n hm) rfl 3 (by decide) wX1_clear_4 rfl rfl (Nat.le_of_ble_eq_true rfl) rfl dX1_clear_17 ?_
  obtain ⟨σ7, e8, hf⟩ := fq_n hf
  refine g_sg e8 ?_
  exact hret _ _ _ dX1_clear_20 (Option.some.inj hf)

/-! X1_goesOn -/
theorem wX1_goesOn_0 : Cond.fieldLink RX1 9 "FairQueue$Match" "first" "I" ∈ wsX1_goesOn := by decide +kernel
theorem uX1_goesOn_X1 : ∀ w ∈ u_ws RX1 TX1 4, w ∈ wsX1_goesOn := (fun _ h => List.mem_cons_of_mem _ (List.mem_append_right _ h))
theorem kcX1_goesOn : yX1_goesOn.cls = RX1 ∧ yX1_goesOn.cls ≠ "java/lang/invoke/MethodHandle" ∧ yX1_goesOn.cls ≠ "java/lang/invoke/VarHandle" ∧ (parseMethodDescriptor yX1_goesOn.desc).map (fun d => d.parameters.length) = some 0 := by decide +kernel
def pX1_goesOn (k n : Nat) (σ : fqS) (m : Nat) : Option Int32 :=
  (if (fqI σ (18 + m) 0) = 0 then some (0 : Int32) else some (1 : Int32))
set_option maxRecDepth 100000 in
set_option maxHeartbeats 4000000 in
theorem qX1_goesOn (l : Launch) (D : va_G) (cy : Nat → ClassId) (ad : Nat → Nat) (sz n : Nat) (σ : fqS) (k : Nat) (m : Nat) (hm : m < 5) {r : Int32} (hf : pX1_goesOn k n σ m = some r) : Met l yX1_goesOn wsX1_goesOn ({ frames := 0, cells := 0, slots := 0, locals := 0 } : Room) (fqPc (TX cy) ZX D cy ad sz n σ [.ref (ad (18 + m))]) (fqQi (TX cy) ZX D ad sz n σ r σ) 0 0 (fqA (TX cy) ZX ad sz n σ) := by
  refine fq_enter_z (cc := cX1_goesOn) (maxL := 1) (own := RX1) _ (by decide) rfl (Nat.le_of_ble_eq_true rfl) rfl (fun X E hret => ?_)
  unfold pX1_goesOn at hf
  show fqG X (TX cy) ZX ad n 1 0 0 σ 0 [(0, .ref (ad (18 + m)))] []
  refine g_aload_n (pc := 0) E dX1_goesOn_0 0 rfl rfl ?_
  refine g_getfield (pc := 1) E uX1_goesOn_X1 (18 + m) (zx_m hm) (tx_m cy ad n hm) rfl 0 (by decide) wX1_goesOn_0 (.int (fqI σ (18 + m) 0)) rfl dX1_goesOn_1 ?_
  refine g_if_eq (pc := 4) E 11 dX1_goesOn_4 (by decide) (fun c1 => ?_) (fun c1 => ?_)
  · replace hf := fq_t c1 hf
    refine g_iconst (pc := 11) E (0 : Int32) dX1_goesOn_11 (by decide) ?_
    exact hret _ _ _ _ rfl dX1_goesOn_12 (congrArg (fun z => (z, σ)) (Option.some.inj hf))
  · replace hf := fq_f c1 hf
    refine g_iconst (pc := 7) E (1 : Int32) dX1_goesOn_7 (by decide) ?_
    refine g_goto (pc := 8) E 12 dX1_goesOn_8 (by decide) ?_
    exact hret _ _ _ _ rfl dX1_goesOn_12 (congrArg (fun z => (z, σ)) (Option.some.inj hf))

/-! X1_isDeserted -/
theorem wX1_isDeserted_0 : Cond.fieldLink RX1 9 "FairQueue$Match" "first" "I" ∈ wsX1_isDeserted := by decide +kernel
theorem uX1_isDeserted_X1 : ∀ w ∈ u_ws RX1 TX1 4, w ∈ wsX1_isDeserted := (fun _ h => List.mem_cons_of_mem _ (List.mem_append_right _ h))
theorem wX1_isDeserted_2 : Cond.fieldLink RX1 18 "FairQueue$Match" "dropped" "I" ∈ wsX1_isDeserted := by decide +kernel
theorem wX1_isDeserted_3 : Cond.fieldLink RX1 15 "FairQueue$Match" "second" "I" ∈ wsX1_isDeserted := by decide +kernel
theorem kcX1_isDeserted : yX1_isDeserted.cls = RX1 ∧ yX1_isDeserted.cls ≠ "java/lang/invoke/MethodHandle" ∧ yX1_isDeserted.cls ≠ "java/lang/invoke/VarHandle" ∧ (parseMethodDescriptor yX1_isDeserted.desc).map (fun d => d.parameters.length) = some 0 := by decide +kernel
def pX1_isDeserted (k n : Nat) (σ : fqS) (m : Nat) : Option Int32 :=
  (if ((fqI σ (18 + m) 0) &&& ((fqI σ (18 + m) 2) ^^^ (-1 : Int32))) = 0 then some (1 : Int32) else (if ((fqI σ (18 + m) 1) &&& ((fqI σ (18 + m) 2) ^^^ (-1 : Int32))) = 0 then some (1 : Int32) else some (0 : Int32)))
set_option maxRecDepth 100000 in
set_option maxHeartbeats 4000000 in
theorem qX1_isDeserted (l : Launch) (D : va_G) (cy : Nat → ClassId) (ad : Nat → Nat) (sz n : Nat) (σ : fqS) (k : Nat) (m : Nat) (hm : m < 5) {r : Int32} (hf : pX1_isDeserted k n σ m = some r) : Met l yX1_isDeserted wsX1_isDeserted ({ frames := 0, cells := 0, slots := 0, locals := 0 } : Room) (fqPc (TX cy) ZX D cy ad sz n σ [.ref (ad (18 + m))]) (fqQi (TX cy) ZX D ad sz n σ r σ) 0 0 (fqA (TX cy) ZX ad sz n σ) := by
  refine fq_enter_z (cc := cX1_isDeserted) (maxL := 1) (own := RX1) _ (by decide) rfl (Nat.le_of_ble_eq_true rfl) rfl (fun X E hret => ?_)
  unfold pX1_isDeserted at hf
  show fqG X (TX cy) ZX ad n 1 0 0 σ 0 [(0, .ref (ad (18 + m)))] []
  refine g_aload_n (pc := 0) E dX1_isDeserted_0 0 rfl rfl ?_
  refine g_getfield (pc := 1) E uX1_isDeserted_X1 (18 + m) (zx_m hm) (tx_m cy ad n hm) rfl 0 (by decide) wX1_isDeserted_0 (.int (fqI σ (18 + m) 0)) rfl dX1_isDeserted_1 ?_
  refine g_aload_n (pc := 4) E dX1_isDeserted_4 0 rfl rfl ?_
  refine g_getfield (pc := 5) E uX1_isDeserted_X1 (18 + m) (zx_m hm) (tx_m cy ad n hm) rfl 2 (by decide) wX1_isDeserted_2 (.int (fqI σ (18 + m) 2)) rfl dX1_isDeserted_5 ?_
  refine g_iconst (pc := 8) E (-1 : Int32) dX1_isDeserted_8 (by decide) ?_
  refine g_ixor (pc := 9) E dX1_isDeserted_9 ?_
  refine g_iand (pc := 10) E dX1_isDeserted_10 ?_
  refine g_if_eq (pc := 11) E 28 dX1_isDeserted_11 (by decide) (fun c1 => ?_) (fun c1 => ?_)
  · replace hf := fq_t c1 hf
    refine g_iconst (pc := 28) E (1 : Int32) dX1_isDeserted_28 (by decide) ?_
    refine g_goto (pc := 29) E 33 dX1_isDeserted_29 (by decide) ?_
    exact hret _ _ _ _ rfl dX1_isDeserted_33 (congrArg (fun z => (z, σ)) (Option.some.inj hf))
  · replace hf := fq_f c1 hf
    refine g_aload_n (pc := 14) E dX1_isDeserted_14 0 rfl rfl ?_
    refine g_getfield (pc := 15) E uX1_isDeserted_X1 (18 + m) (zx_m hm) (tx_m cy ad n hm) rfl 1 (by decide) wX1_isDeserted_3 (.int (fqI σ (18 + m) 1)) rfl dX1_isDeserted_15 ?_
    refine g_aload_n (pc := 18) E dX1_isDeserted_18 0 rfl rfl ?_
    refine g_getfield (pc := 19) E uX1_isDeserted_X1 (18 + m) (zx_m hm) (tx_m cy ad n hm) rfl 2 (by decide) wX1_isDeserted_2 (.int (fqI σ (18 + m) 2)) rfl dX1_isDeserted_19 ?_
    refine g_iconst (pc := 22) E (-1 : Int32) dX1_isDeserted_22 (by decide) ?_
    refine g_ixor (pc := 23) E dX1_isDeserted_23 ?_
    refine g_iand (pc := 24) E dX1_isDeserted_24 ?_
    refine g_if_ne (pc := 25) E 32 dX1_isDeserted_25 (by decide) (fun c2 => ?_) (fun c2 => ?_)
    · replace hf := fq_f c2 hf
      refine g_iconst (pc := 32) E (0 : Int32) dX1_isDeserted_32 (by decide) ?_
      exact hret _ _ _ _ rfl dX1_isDeserted_33 (congrArg (fun z => (z, σ)) (Option.some.inj hf))
    · replace hf := fq_t c2 hf
      refine g_iconst (pc := 28) E (1 : Int32) dX1_isDeserted_28 (by decide) ?_
      refine g_goto (pc := 29) E 33 dX1_isDeserted_29 (by decide) ?_
      exact hret _ _ _ _ rfl dX1_isDeserted_33 (congrArg (fun z => (z, σ)) (Option.some.inj hf))

/-! X1_playing -/
theorem wX1_playing_0 : Cond.fieldLink RX1 9 "FairQueue$Match" "first" "I" ∈ wsX1_playing := by decide +kernel
theorem uX1_playing_X1 : ∀ w ∈ u_ws RX1 TX1 4, w ∈ wsX1_playing := (fun _ h => List.mem_cons_of_mem _ (List.mem_append_right _ h))
theorem wX1_playing_2 : Cond.fieldLink RX1 15 "FairQueue$Match" "second" "I" ∈ wsX1_playing := by decide +kernel
theorem wX1_playing_3 : Cond.fieldLink RX1 18 "FairQueue$Match" "dropped" "I" ∈ wsX1_playing := by decide +kernel
theorem kcX1_playing : yX1_playing.cls = RX1 ∧ yX1_playing.cls ≠ "java/lang/invoke/MethodHandle" ∧ yX1_playing.cls ≠ "java/lang/invoke/VarHandle" ∧ (parseMethodDescriptor yX1_playing.desc).map (fun d => d.parameters.length) = some 0 := by decide +kernel
def pX1_playing (k n : Nat) (σ : fqS) (m : Nat) : Option Int32 :=
  some (((fqI σ (18 + m) 0) ||| (fqI σ (18 + m) 1)) &&& ((fqI σ (18 + m) 2) ^^^ (-1 : Int32)))
set_option maxRecDepth 100000 in
set_option maxHeartbeats 4000000 in
theorem qX1_playing (l : Launch) (D : va_G) (cy : Nat → ClassId) (ad : Nat → Nat) (sz n : Nat) (σ : fqS) (k : Nat) (m : Nat) (hm : m < 5) {r : Int32} (hf : pX1_playing k n σ m = some r) : Met l yX1_playing wsX1_playing ({ frames := 0, cells := 0, slots := 0, locals := 0 } : Room) (fqPc (TX cy) ZX D cy ad sz n σ [.ref (ad (18 + m))]) (fqQi (TX cy) ZX D ad sz n σ r σ) 0 0 (fqA (TX cy) ZX ad sz n σ) := by
  refine fq_enter_i (cc := cX1_playing) (maxL := 1) (own := RX1) _ (by decide) rfl (Nat.le_of_ble_eq_true rfl) rfl (fun X E hret => ?_)
  unfold pX1_playing at hf
  show fqG X (TX cy) ZX ad n 1 0 0 σ 0 [(0, .ref (ad (18 + m)))] []
  refine g_aload_n (pc := 0) E dX1_playing_0 0 rfl rfl ?_
  refine g_getfield (pc := 1) E uX1_playing_X1 (18 + m) (zx_m hm) (tx_m cy ad n hm) rfl 0 (by decide) wX1_playing_0 (.int (fqI σ (18 + m) 0)) rfl dX1_playing_1 ?_
  refine g_aload_n (pc := 4) E dX1_playing_4 0 rfl rfl ?_
  refine g_getfield (pc := 5) E uX1_playing_X1 (18 + m) (zx_m hm) (tx_m cy ad n hm) rfl 1 (by decide) wX1_playing_2 (.int (fqI σ (18 + m) 1)) rfl dX1_playing_5 ?_
  refine g_ior (pc := 8) E dX1_playing_8 ?_
  refine g_aload_n (pc := 9) E dX1_playing_9 0 rfl rfl ?_
  refine g_getfield (pc := 10) E uX1_playing_X1 (18 + m) (zx_m hm) (tx_m cy ad n hm) rfl 2 (by decide) wX1_playing_3 (.int (fqI σ (18 + m) 2)) rfl dX1_playing_10 ?_
  refine g_iconst (pc := 13) E (-1 : Int32) dX1_playing_13 (by decide) ?_
  refine g_ixor (pc := 14) E dX1_playing_14 ?_
  refine g_iand (pc := 15) E dX1_playing_15 ?_
  exact hret _ _ _ _ dX1_playing_16 (congrArg (fun z => (z, σ)) (Option.some.inj hf))

/-! X1_resultOfDeserted -/
theorem wX1_resultOfDeserted_0 : Cond.fieldLink RX1 9 "FairQueue$Match" "first" "I" ∈ wsX1_resultOfDeserted := by decide +kernel
theorem uX1_resultOfDeserted_X1 : ∀ w ∈ u_ws RX1 TX1 4, w ∈ wsX1_resultOfDeserted := (fun _ h => List.mem_cons_of_mem _ (List.mem_append_right _ h))
theorem wX1_resultOfDeserted_2 : Cond.fieldLink RX1 18 "FairQueue$Match" "dropped" "I" ∈ wsX1_resultOfDeserted := by decide +kernel
theorem kcX1_resultOfDeserted : yX1_resultOfDeserted.cls = RX1 ∧ yX1_resultOfDeserted.cls ≠ "java/lang/invoke/MethodHandle" ∧ yX1_resultOfDeserted.cls ≠ "java/lang/invoke/VarHandle" ∧ (parseMethodDescriptor yX1_resultOfDeserted.desc).map (fun d => d.parameters.length) = some 0 := by decide +kernel
def pX1_resultOfDeserted (k n : Nat) (σ : fqS) (m : Nat) : Option Int32 :=
  (if ((fqI σ (18 + m) 0) &&& ((fqI σ (18 + m) 2) ^^^ (-1 : Int32))) = 0 then some (0 : Int32) else some (2 : Int32))
set_option maxRecDepth 100000 in
set_option maxHeartbeats 4000000 in
theorem qX1_resultOfDeserted (l : Launch) (D : va_G) (cy : Nat → ClassId) (ad : Nat → Nat) (sz n : Nat) (σ : fqS) (k : Nat) (m : Nat) (hm : m < 5) {r : Int32} (hf : pX1_resultOfDeserted k n σ m = some r) : Met l yX1_resultOfDeserted wsX1_resultOfDeserted ({ frames := 0, cells := 0, slots := 0, locals := 0 } : Room) (fqPc (TX cy) ZX D cy ad sz n σ [.ref (ad (18 + m))]) (fqQi (TX cy) ZX D ad sz n σ r σ) 0 0 (fqA (TX cy) ZX ad sz n σ) := by
  refine fq_enter_i (cc := cX1_resultOfDeserted) (maxL := 1) (own := RX1) _ (by decide) rfl (Nat.le_of_ble_eq_true rfl) rfl (fun X E hret => ?_)
  unfold pX1_resultOfDeserted at hf
  show fqG X (TX cy) ZX ad n 1 0 0 σ 0 [(0, .ref (ad (18 + m)))] []
  refine g_aload_n (pc := 0) E dX1_resultOfDeserted_0 0 rfl rfl ?_
  refine g_getfield (pc := 1) E uX1_resultOfDeserted_X1 (18 + m) (zx_m hm) (tx_m cy ad n hm) rfl 0 (by decide) wX1_resultOfDeserted_0 (.int (fqI σ (18 + m) 0)) rfl dX1_resultOfDeserted_1 ?_
  refine g_aload_n (pc := 4) E dX1_resultOfDeserted_4 0 rfl rfl ?_
  refine g_getfield (pc := 5) E uX1_resultOfDeserted_X1 (18 + m) (zx_m hm) (tx_m cy ad n hm) rfl 2 (by decide) wX1_resultOfDeserted_2 (.int (fqI σ (18 + m) 2)) rfl dX1_resultOfDeserted_5 ?_
  refine g_iconst (pc := 8) E (-1 : Int32) dX1_resultOfDeserted_8 (by decide) ?_
  refine g_ixor (pc := 9) E dX1_resultOfDeserted_9 ?_
  refine g_iand (pc := 10) E dX1_resultOfDeserted_10 ?_
  refine g_if_ne (pc := 11) E 18 dX1_resultOfDeserted_11 (by decide) (fun c1 => ?_) (fun c1 => ?_)
  · replace hf := fq_f c1 hf
    refine g_iconst (pc := 18) E (2 : Int32) dX1_resultOfDeserted_18 (by decide) ?_
    exact hret _ _ _ _ dX1_resultOfDeserted_19 (congrArg (fun z => (z, σ)) (Option.some.inj hf))
  · replace hf := fq_t c1 hf
    refine g_iconst (pc := 14) E (0 : Int32) dX1_resultOfDeserted_14 (by decide) ?_
    refine g_goto (pc := 15) E 19 dX1_resultOfDeserted_15 (by decide) ?_
    exact hret _ _ _ _ dX1_resultOfDeserted_19 (congrArg (fun z => (z, σ)) (Option.some.inj hf))

/-! X1_rivalsOf -/
theorem wX1_rivalsOf_0 : Cond.fieldLink RX1 9 "FairQueue$Match" "first" "I" ∈ wsX1_rivalsOf := by decide +kernel
theorem uX1_rivalsOf_X1 : ∀ w ∈ u_ws RX1 TX1 4, w ∈ wsX1_rivalsOf := (fun _ h => List.mem_cons_of_mem _ (List.mem_append_right _ h))
theorem wX1_rivalsOf_2 : Cond.fieldLink RX1 15 "FairQueue$Match" "second" "I" ∈ wsX1_rivalsOf := by decide +kernel
theorem kcX1_rivalsOf : yX1_rivalsOf.cls = RX1 ∧ yX1_rivalsOf.cls ≠ "java/lang/invoke/MethodHandle" ∧ yX1_rivalsOf.cls ≠ "java/lang/invoke/VarHandle" ∧ (parseMethodDescriptor yX1_rivalsOf.desc).map (fun d => d.parameters.length) = some 1 := by decide +kernel
def pX1_rivalsOf (k n : Nat) (σ : fqS) (m : Nat) (x1 : Int32) : Option Int32 :=
  (if ((fqI σ (18 + m) 0) &&& x1) = 0 then some (fqI σ (18 + m) 0) else some (fqI σ (18 + m) 1))
set_option maxRecDepth 100000 in
set_option maxHeartbeats 4000000 in
theorem qX1_rivalsOf (l : Launch) (D : va_G) (cy : Nat → ClassId) (ad : Nat → Nat) (sz n : Nat) (σ : fqS) (k : Nat) (m : Nat) (x1 : Int32) (hm : m < 5) {r : Int32} (hf : pX1_rivalsOf k n σ m x1 = some r) : Met l yX1_rivalsOf wsX1_rivalsOf ({ frames := 0, cells := 0, slots := 0, locals := 0 } : Room) (fqPc (TX cy) ZX D cy ad sz n σ [.ref (ad (18 + m)), .int x1]) (fqQi (TX cy) ZX D ad sz n σ r σ) 0 0 (fqA (TX cy) ZX ad sz n σ) := by
  refine fq_enter_i (cc := cX1_rivalsOf) (maxL := 2) (own := RX1) _ (by decide) rfl (Nat.le_of_ble_eq_true rfl) rfl (fun X E hret => ?_)
  unfold pX1_rivalsOf at hf
  show fqG X (TX cy) ZX ad n 2 0 0 σ 0 [(0, .ref (ad (18 + m))), (1, .int x1)] []
  refine g_aload_n (pc := 0) E dX1_rivalsOf_0 0 rfl rfl ?_
  refine g_getfield (pc := 1) E uX1_rivalsOf_X1 (18 + m) (zx_m hm) (tx_m cy ad n hm) rfl 0 (by decide) wX1_rivalsOf_0 (.int (fqI σ (18 + m) 0)) rfl dX1_rivalsOf_1 ?_
  refine g_iload_n (pc := 4) E dX1_rivalsOf_4 1 rfl rfl ?_
  refine g_iand (pc := 5) E dX1_rivalsOf_5 ?_
  refine g_if_eq (pc := 6) E 16 dX1_rivalsOf_6 (by decide) (fun c1 => ?_) (fun c1 => ?_)
  · replace hf := fq_t c1 hf
    refine g_aload_n (pc := 16) E dX1_rivalsOf_16 0 rfl rfl ?_
    refine g_getfield (pc := 17) E uX1_rivalsOf_X1 (18 + m) (zx_m hm) (tx_m cy ad n hm) rfl 0 (by decide) wX1_rivalsOf_0 (.int (fqI σ (18 + m) 0)) rfl dX1_rivalsOf_17 ?_
    exact hret _ _ _ _ dX1_rivalsOf_20 (congrArg (fun z => (z, σ)) (Option.some.inj hf))
  · replace hf := fq_f c1 hf
    refine g_aload_n (pc := 9) E dX1_rivalsOf_9 0 rfl rfl ?_
    refine g_getfield (pc := 10) E uX1_rivalsOf_X1 (18 + m) (zx_m hm) (tx_m cy ad n hm) rfl 1 (by decide) wX1_rivalsOf_2 (.int (fqI σ (18 + m) 1)) rfl dX1_rivalsOf_10 ?_
    refine g_goto (pc := 13) E 20 dX1_rivalsOf_13 (by decide) ?_
    exact hret _ _ _ _ dX1_rivalsOf_20 (congrArg (fun z => (z, σ)) (Option.some.inj hf))

/-! X2_at -/
theorem wX2_at_0 : Cond.fieldLink RX2 11 "FairQueue$Matches" "row" "[LFairQueue$Match;" ∈ wsX2_at := by decide +kernel
theorem uX2_at_X2 : ∀ w ∈ u_ws RX2 TX2 2, w ∈ wsX2_at := (fun _ h => List.mem_cons_of_mem _ (List.mem_append_right _ h))
theorem kcX2_at : yX2_at.cls = RX2 ∧ yX2_at.cls ≠ "java/lang/invoke/MethodHandle" ∧ yX2_at.cls ≠ "java/lang/invoke/VarHandle" ∧ (parseMethodDescriptor yX2_at.desc).map (fun d => d.parameters.length) = some 1 := by decide +kernel
def pX2_at (k n : Nat) (σ : fqS) (x1 : Int32) : Option (Option Nat) :=
  (if x1 < 0 then some none else (if (5 : Int32) ≤ x1 then some none else (if x1 < 0 ∨ 5 ≤ Int32.toNatClampNeg x1 then none else some (some (Int32.toNatClampNeg x1)))))
set_option maxRecDepth 100000 in
set_option maxHeartbeats 4000000 in
theorem qX2_at (l : Launch) (D : va_G) (cy : Nat → ClassId) (ad : Nat → Nat) (sz n : Nat) (σ : fqS) (k : Nat) (x1 : Int32) {r : (Option Nat)} (hf : pX2_at k n σ x1 = some r) : Met l yX2_at wsX2_at ({ frames := 0, cells := 0, slots := 0, locals := 0 } : Room) (fqPc (TX cy) ZX D cy ad sz n σ [.ref (ad 16), .int x1]) (fqQq (TX cy) ZX D ad sz n σ (r.map (fun z => ad (18 + z))) σ) 0 0 (fqA (TX cy) ZX ad sz n σ) := by
  refine fq_enter_q (cc := cX2_at) (maxL := 2) (own := RX2) _ (by decide) rfl (Nat.le_of_ble_eq_true rfl) rfl (fun X E hret => ?_)
  unfold pX2_at at hf
  show fqG X (TX cy) ZX ad n 2 0 0 σ 0 [(0, .ref (ad 16)), (1, .int x1)] []
  refine g_iload_n (pc := 0) E dX2_at_0 1 rfl rfl ?_
  refine g_if_lt (pc := 1) E 22 dX2_at_1 (by decide) (fun c1 => ?_) (fun c1 => ?_)
  · replace hf := fq_t c1 hf
    refine g_null (pc := 22) E dX2_at_22 ?_
    refine g_st (st' := [va_rf none]) rfl ?_
    exact hret _ _ _ _ dX2_at_23 (by cases hf; rfl)
  · replace hf := fq_f c1 hf
    refine g_iload_n (pc := 4) E dX2_at_4 1 rfl rfl ?_
    refine g_aload_n (pc := 5) E dX2_at_5 0 rfl rfl ?_
    refine g_getfield (pc := 6) E uX2_at_X2 16 (zx_l (by decide)) (fun _ _ => rfl) rfl 0 (by decide) wX2_at_0 (.ref (ad 17)) rfl dX2_at_6 ?_
    refine g_alen (pc := 9) E 17 (zx_l (by decide)) 3 (fun _ _ => rfl) rfl (5 : Int32) (by rfl) dX2_at_9 ?_
    refine g_icmp_ge (pc := 10) E 22 dX2_at_10 (by decide) (fun c2 => ?_) (fun c2 => ?_)
    · replace hf := fq_t c2 hf
      refine g_null (pc := 22) E dX2_at_22 ?_
      refine g_st (st' := [va_rf none]) rfl ?_
      exact hret _ _ _ _ dX2_at_23 (by cases hf; rfl)
    · replace hf := fq_f c2 hf
      refine g_aload_n (pc := 13) E dX2_at_13 0 rfl rfl ?_
      refine g_getfield (pc := 14) E uX2_at_X2 16 (zx_l (by decide)) (fun _ _ => rfl) rfl 0 (by decide) wX2_at_0 (.ref (ad 17)) rfl dX2_at_14 ?_
      refine g_iload_n (pc := 17) E dX2_at_17 1 rfl rfl ?_
      obtain ⟨h3, hf⟩ := fq_in hf
      refine g_aaload (pc := 18) E 17 (zx_l (by decide)) 3 (fun _ _ => rfl) rfl h3 dX2_at_18 ?_
      refine g_st (st' := [.ref (ad (18 + (Int32.toNatClampNeg x1)))]) (fq_mrow (fq_lt h3)) ?_
      refine g_goto (pc := 19) E 23 dX2_at_19 (by decide) ?_
      refine g_st (st' := [va_rf (some (ad (18 + (Int32.toNatClampNeg x1))))]) rfl ?_
      exact hret _ _ _ _ dX2_at_23 (by cases hf; rfl)

/-! X2_begin -/
theorem wX2_begin_0 : Cond.fieldLink RX2 11 "FairQueue$Matches" "row" "[LFairQueue$Match;" ∈ wsX2_begin := by decide +kernel
theorem uX2_begin_X2 : ∀ w ∈ u_ws RX2 TX2 2, w ∈ wsX2_begin := (fun _ h => List.mem_cons_of_mem _ (List.mem_append_left _ (List.mem_append_right _ h)))
theorem wX2_begin_2 : Cond.fieldLink RX2 30 "FairQueue$Match" "first" "I" ∈ wsX2_begin := by decide +kernel
theorem uX2_begin_X1 : ∀ w ∈ u_ws RX1 TX1 4, w ∈ wsX2_begin := (fun _ h => List.mem_cons_of_mem _ (List.mem_append_right _ h))
theorem wX2_begin_4 : Cond.fieldLink RX2 34 "FairQueue$Match" "second" "I" ∈ wsX2_begin := by decide +kernel
theorem wX2_begin_5 : Cond.fieldLink RX2 37 "FairQueue$Match" "dropped" "I" ∈ wsX2_begin := by decide +kernel
theorem wX2_begin_6 : Cond.fieldLink RX2 40 "FairQueue$Match" "made" "J" ∈ wsX2_begin := by decide +kernel
theorem kcX2_begin : yX2_begin.cls = RX2 ∧ yX2_begin.cls ≠ "java/lang/invoke/MethodHandle" ∧ yX2_begin.cls ≠ "java/lang/invoke/VarHandle" ∧ (parseMethodDescriptor yX2_begin.desc).map (fun d => d.parameters.length) = some 3 := by decide +kernel
def pX2_begin_L3b (k n : Nat) (x1 : Int32) (x2 : Int32) (x3 : Int64) (rec : (Int32 × fqS) → Option fqS) (x5 : Int32) (σ : fqS) : Option fqS :=
  (if (5 : Int32) ≤ x5 then some σ else (if x5 < 0 ∨ 5 ≤ Int32.toNatClampNeg x5 then none else ((pX1_goesOn k n σ (Int32.toNatClampNeg x5)).bind (fun r4 => (if r4 = 0 then (fqN (fqPI σ (18 + (Int32.toNatClampNeg x5)) 0 x1) (fun σ6 => (fqN (fqPI σ6 (18 + (Int32.toNatClampNeg x5)) 1 x2) (fun σ8 => (fqN (fqPI σ8 (18 + (Int32.toNatClampNeg x5)) 2 (0 : Int32)) (fun σ10 => (fqN (fqPJ σ10 (18 + (Int32.toNatClampNeg x5)) 3 x3) (fun σ12 => some σ12)))))))) else (rec ((x5 + (1 : Int32)), σ)))))))
def pX2_begin_L3 (k n : Nat) (x1 : Int32) (x2 : Int32) (x3 : Int64) : (Int32 × fqS) → Option fqS := fqL (fun rec (s : (Int32 × fqS)) => pX2_begin_L3b k n x1 x2 x3 rec s.1 s.2) k
def pX2_begin (k n : Nat) (σ : fqS) (x1 : Int32) (x2 : Int32) (x3 : Int64) : Option fqS :=
  (pX2_begin_L3 k n x1 x2 x3 ((0 : Int32), σ))
set_option maxRecDepth 100000 in
set_option maxHeartbeats 4000000 in
theorem tX2_begin_L3 {k : Nat} {X : fqX} {cy : Nat → ClassId} {ad : Nat → Nat} {n : Nat} {σ' : fqS} {x1 : Int32} {x2 : Int32} {x3 : Int64} (E : fqE X ({ frames := 1, cells := 0, slots := 0, locals := 20 } : Room) cy cX2_begin 7 wsX2_begin RX2) (hret : fqR_v X (TX cy) ZX ad n 7 cX2_begin σ') : ∀ (s : (Int32 × fqS)), pX2_begin_L3 k n x1 x2 x3 s = some σ' → fqG X (TX cy) ZX ad n 7 0 0 (s.2) 3 [(0, .ref (ad 16)), (1, .int x1), (2, .int x2), (3, .long x3), (5, .int (s.1))] [] := by
  unfold pX2_begin_L3
  refine fqL_run (P := fun (s : (Int32 × fqS)) => fqG X (TX cy) ZX ad n 7 0 0 (s.2) 3 [(0, .ref (ad 16)), (1, .int x1), (2, .int x2), (3, .long x3), (5, .int (s.1))] []) (fun rec s hrec hf => ?_) k
  obtain ⟨x5, σ⟩ := s
  have hf : pX2_begin_L3b k n x1 x2 x3 rec x5 σ = some σ' := hf
  unfold pX2_begin_L3b at hf
  show fqG X (TX cy) ZX ad n 7 0 0 σ 3 [(0, .ref (ad 16)), (1, .int x1), (2, .int x2), (3, .long x3), (5, .int x5)] []
  refine g_iload (pc := 3) E dX2_begin_3 4 rfl ?_
  refine g_aload_n (pc := 5) E dX2_begin_5 0 rfl rfl ?_
  refine g_getfield (pc := 6) E uX2_begin_X2 16 (zx_l (by decide)) (fun _ _ => rfl) rfl 0 (by decide) wX2_begin_0 (.ref (ad 17)) rfl dX2_begin_6 ?_
  refine g_alen (pc := 9) E 17 (zx_l (by decide)) 3 (fun _ _ => rfl) rfl (5 : Int32) (by rfl) dX2_begin_9 ?_
  refine g_icmp_ge (pc := 10) E 66 dX2_begin_10 (by decide) (fun c1 => ?_) (fun c1 => ?_)
  · replace hf := fq_t c1 hf
    exact hret _ _ _ dX2_begin_66 (Option.some.inj hf)
  · replace hf := fq_f c1 hf
    refine g_aload_n (pc := 13) E dX2_begin_13 0 rfl rfl ?_
    refine g_getfield (pc := 14) E uX2_begin_X2 16 (zx_l (by decide)) (fun _ _ => rfl) rfl 0 (by decide) wX2_begin_0 (.ref (ad 17)) rfl dX2_begin_14 ?_
    refine g_iload (pc := 17) E dX2_begin_17 4 rfl ?_
    obtain ⟨h2, hf⟩ := fq_in hf
    refine g_aaload (pc := 19) E 17 (zx_l (by decide)) 3 (fun _ _ => rfl) rfl h2 dX2_begin_19 ?_
    refine g_st (st' := [.ref (ad (18 + (Int32.toNatClampNeg x5)))]) (fq_mrow (fq_lt h2)) ?_
    refine g_astore (pc := 20) E [(6, .ref (ad (18 + (Int32.toNatClampNeg x5)))), (0, .ref (ad 16)), (1, .int x1), (2, .int x2), (3, .long x3), (5, .int x5)] dX2_begin_20 (by decide) rfl ?_
    refine g_aload (pc := 22) E dX2_begin_22 0 rfl ?_
    refine g_ifnull (pc := 24) E dX2_begin_24 ?_
    refine g_aload (pc := 27) E dX2_begin_27 0 rfl ?_
    obtain ⟨r4, e3, hf⟩ := fq_b hf
    refine g_callVi (pc := 29) E (18 + (Int32.toNatClampNeg x5)) (zx_m (fq_lt h2)) (tx_m cy ad n (fq_lt h2)) rfl [] (fun l D sz => qX1_goesOn l D cy ad sz n σ k (Int32.toNatClampNeg x5) (fq_lt h2) e3) gX2_begin_X1_goesOn rfl rfl rfl kcX1_goesOn ⟨by decide, by decide⟩ rfl rfl (Nat.le_of_ble_eq_true rfl) dX2_begin_29 ⟨by decide, by decide⟩ ?_
    refine g_if_ne (pc := 32) E 60 dX2_begin_32 (by decide) (fun c5 => ?_) (fun c5 => ?_)
    · replace hf := fq_f c5 hf
      refine g_iinc (pc := 60) E (x5 + (1 : Int32)) [(5, .int (x5 + (1 : Int32))), (6, .ref (ad (18 + (Int32.toNatClampNeg x5)))), (0, .ref (ad 16)), (1, .int x1), (2, .int x2), (3, .long x3)] dX2_begin_60 5 rfl rfl (by decide) rfl ?_
      refine g_goto (pc := 63) E 3 dX2_begin_63 (by decide) ?_
      refine g_lv [2, 3, 4, 5, 0] rfl ?_
      exact hrec _ hf
    · replace hf := fq_t c5 hf
      refine g_aload (pc := 35) E dX2_begin_35 0 rfl ?_
      refine g_iload_n (pc := 37) E dX2_begin_37 2 rfl rfl ?_
      refine g_putI (pc := 38) E uX2_begin_X1 tyX1 tyX1_ok nmX1 (18 + (Int32.toNatClampNeg x5)) (zx_m (fq_lt h2)) (tx_m cy ad n (fq_lt h2)) rfl 0 (by decide) wX2_begin_2 rfl rfl (Nat.le_of_ble_eq_true rfl) rfl dX2_begin_38 ?_
      obtain ⟨σ6, e7, hf⟩ := fq_n hf
      refine g_sg e7 ?_
      refine g_aload (pc := 41) E dX2_begin_41 0 rfl ?_
      refine g_iload_n (pc := 43) E dX2_begin_43 3 rfl rfl ?_
      refine g_putI (pc := 44) E uX2_begin_X1 tyX1 tyX1_ok nmX1 (18 + (Int32.toNatClampNeg x5)) (zx_m (fq_lt h2)) (tx_m cy ad n (fq_lt h2)) rfl 1 (by decide) wX2_begin_4 rfl rfl (Nat.le_of_ble_eq_true rfl) rfl dX2_begin_44 ?_
      obtain ⟨σ8, e9, hf⟩ := fq_n hf
      refine g_sg e9 ?_
      refine g_aload (pc := 47) E dX2_begin_47 0 rfl ?_
      refine g_iconst (pc := 49) E (0 : Int32) dX2_begin_49 (by decide) ?_
      refine g_putI (pc := 50) E uX2_begin_X1 tyX1 tyX1_ok nmX1 (18 + (Int32.toNatClampNeg x5)) (zx_m (fq_lt h2)) (tx_m cy ad n (fq_lt h2)) rfl 2 (by decide) wX2_begin_5 rfl rfl (Nat.le_of_ble_eq_true rfl) rfl dX2_begin_50 ?_
      obtain ⟨σ10, e11, hf⟩ := fq_n hf
      refine g_sg e11 ?_
      refine g_aload (pc := 53) E dX2_begin_53 0 rfl ?_
      refine g_lload_n (pc := 55) E dX2_begin_55 4 rfl rfl ?_
      refine g_putJ (pc := 56) E uX2_begin_X1 tyX1 tyX1_ok nmX1 (18 + (Int32.toNatClampNeg x5)) (zx_m (fq_lt h2)) (tx_m cy ad n (fq_lt h2)) rfl 3 (by decide) wX2_begin_6 rfl rfl (Nat.le_of_ble_eq_true rfl) rfl dX2_begin_56 ?_
      obtain ⟨σ12, e13, hf⟩ := fq_n hf
      refine g_sg e13 ?_
      exact hret _ _ _ dX2_begin_59 (Option.some.inj hf)
set_option maxRecDepth 100000 in
set_option maxHeartbeats 4000000 in
theorem qX2_begin (l : Launch) (D : va_G) (cy : Nat → ClassId) (ad : Nat → Nat) (sz n : Nat) (σ : fqS) (k : Nat) (x1 : Int32) (x2 : Int32) (x3 : Int64) {σ' : fqS} (hf : pX2_begin k n σ x1 x2 x3 = some σ') : Met l yX2_begin wsX2_begin ({ frames := 1, cells := 0, slots := 0, locals := 20 } : Room) (fqPc (TX cy) ZX D cy ad sz n σ [.ref (ad 16), .int x1, .int x2, .long x3]) (fqQv (TX cy) ZX D ad sz n σ σ') 0 0 (fqA (TX cy) ZX ad sz n σ) := by
  refine fq_enter_v (cc := cX2_begin) (maxL := 7) (own := RX2) _ (by decide) rfl (Nat.le_of_ble_eq_true rfl) rfl (fun X E hret => ?_)
  unfold pX2_begin at hf
  show fqG X (TX cy) ZX ad n 7 0 0 σ 0 [(0, .ref (ad 16)), (1, .int x1), (2, .int x2), (3, .long x3)] []
  refine g_iconst (pc := 0) E (0 : Int32) dX2_begin_0 (by decide) ?_
  refine g_istore (pc := 1) E [(5, .int (0 : Int32)), (0, .ref (ad 16)), (1, .int x1), (2, .int x2), (3, .long x3)] dX2_begin_1 (by decide) rfl ?_
  refine g_lv [1, 2, 3, 4, 0] rfl ?_
  exact tX2_begin_L3 E hret _ hf

/-! X2_everybody -/
theorem wX2_everybody_0 : Cond.fieldLink RX2 11 "FairQueue$Matches" "row" "[LFairQueue$Match;" ∈ wsX2_everybody := by decide +kernel
theorem uX2_everybody_X2 : ∀ w ∈ u_ws RX2 TX2 2, w ∈ wsX2_everybody := (fun _ h => List.mem_cons_of_mem _ (List.mem_append_left _ (List.mem_append_right _ h)))
theorem kcX2_everybody : yX2_everybody.cls = RX2 ∧ yX2_everybody.cls ≠ "java/lang/invoke/MethodHandle" ∧ yX2_everybody.cls ≠ "java/lang/invoke/VarHandle" ∧ (parseMethodDescriptor yX2_everybody.desc).map (fun d => d.parameters.length) = some 0 := by decide +kernel
def pX2_everybody_L4b (k n : Nat) (σ : fqS) (rec : (Int32 × Int32) → Option Int32) (x1 : Int32) (x2 : Int32) : Option Int32 :=
  (if (5 : Int32) ≤ x2 then some x1 else (if x2 < 0 ∨ 5 ≤ Int32.toNatClampNeg x2 then none else ((pX1_playing k n σ (Int32.toNatClampNeg x2)).bind (fun r4 => (rec ((x1 ||| r4), (x2 + (1 : Int32))))))))
def pX2_everybody_L4 (k n : Nat) (σ : fqS) : (Int32 × Int32) → Option Int32 := fqL (fun rec (s : (Int32 × Int32)) => pX2_everybody_L4b k n σ rec s.1 s.2) k
def pX2_everybody (k n : Nat) (σ : fqS) : Option Int32 :=
  (pX2_everybody_L4 k n σ ((0 : Int32), (0 : Int32)))
set_option maxRecDepth 100000 in
set_option maxHeartbeats 4000000 in
theorem tX2_everybody_L4 {k : Nat} {X : fqX} {cy : Nat → ClassId} {ad : Nat → Nat} {n : Nat} {σ : fqS} {r : Int32} (E : fqE X ({ frames := 1, cells := 0, slots := 0, locals := 20 } : Room) cy cX2_everybody 4 wsX2_everybody RX2) (hret : fqR_i X (TX cy) ZX ad n 4 cX2_everybody r σ) : ∀ (s : (Int32 × Int32)), pX2_everybody_L4 k n σ s = some r → fqG X (TX cy) ZX ad n 4 0 0 σ 4 [(0, .ref (ad 16)), (1, .int (s.1)), (2, .int (s.2))] [] := by
  unfold pX2_everybody_L4
  refine fqL_run (P := fun (s : (Int32 × Int32)) => fqG X (TX cy) ZX ad n 4 0 0 σ 4 [(0, .ref (ad 16)), (1, .int (s.1)), (2, .int (s.2))] []) (fun rec s hrec hf => ?_) k
  obtain ⟨x1, x2⟩ := s
  have hf : pX2_everybody_L4b k n σ rec x1 x2 = some r := hf
  unfold pX2_everybody_L4b at hf
  show fqG X (TX cy) ZX ad n 4 0 0 σ 4 [(0, .ref (ad 16)), (1, .int x1), (2, .int x2)] []
  refine g_iload_n (pc := 4) E dX2_everybody_4 2 rfl rfl ?_
  refine g_aload_n (pc := 5) E dX2_everybody_5 0 rfl rfl ?_
  refine g_getfield (pc := 6) E uX2_everybody_X2 16 (zx_l (by decide)) (fun _ _ => rfl) rfl 0 (by decide) wX2_everybody_0 (.ref (ad 17)) rfl dX2_everybody_6 ?_
  refine g_alen (pc := 9) E 17 (zx_l (by decide)) 3 (fun _ _ => rfl) rfl (5 : Int32) (by rfl) dX2_everybody_9 ?_
  refine g_icmp_ge (pc := 10) E 37 dX2_everybody_10 (by decide) (fun c1 => ?_) (fun c1 => ?_)
  · replace hf := fq_t c1 hf
    refine g_iload_n (pc := 37) E dX2_everybody_37 1 rfl rfl ?_
    exact hret _ _ _ _ dX2_everybody_38 (congrArg (fun z => (z, σ)) (Option.some.inj hf))
  · replace hf := fq_f c1 hf
    refine g_aload_n (pc := 13) E dX2_everybody_13 0 rfl rfl ?_
    refine g_getfield (pc := 14) E uX2_everybody_X2 16 (zx_l (by decide)) (fun _ _ => rfl) rfl 0 (by decide) wX2_everybody_0 (.ref (ad 17)) rfl dX2_everybody_14 ?_
    refine g_iload_n (pc := 17) E dX2_everybody_17 2 rfl rfl ?_
    obtain ⟨h2, hf⟩ := fq_in hf
    refine g_aaload (pc := 18) E 17 (zx_l (by decide)) 3 (fun _ _ => rfl) rfl h2 dX2_everybody_18 ?_
    refine g_st (st' := [.ref (ad (18 + (Int32.toNatClampNeg x2)))]) (fq_mrow (fq_lt h2)) ?_
    refine g_astore_n (pc := 19) E [(3, .ref (ad (18 + (Int32.toNatClampNeg x2)))), (0, .ref (ad 16)), (1, .int x1), (2, .int x2)] dX2_everybody_19 rfl (by decide) rfl ?_
    refine g_aload_n (pc := 20) E dX2_everybody_20 0 rfl rfl ?_
    refine g_ifnull (pc := 21) E dX2_everybody_21 ?_
    refine g_iload_n (pc := 24) E dX2_everybody_24 2 rfl rfl ?_
    refine g_aload_n (pc := 25) E dX2_everybody_25 0 rfl rfl ?_
    obtain ⟨r4, e3, hf⟩ := fq_b hf
    refine g_callVi (pc := 26) E (18 + (Int32.toNatClampNeg x2)) (zx_m (fq_lt h2)) (tx_m cy ad n (fq_lt h2)) rfl [] (fun l D sz => qX1_playing l D cy ad sz n σ k (Int32.toNatClampNeg x2) (fq_lt h2) e3) gX2_everybody_X1_playing rfl rfl rfl kcX1_playing ⟨by decide, by decide⟩ rfl rfl (Nat.le_of_ble_eq_true rfl) dX2_everybody_26 ⟨by decide, by decide⟩ ?_
    refine g_ior (pc := 29) E dX2_everybody_29 ?_
    refine g_istore_n (pc := 30) E [(1, .int (x1 ||| r4)), (3, .ref (ad (18 + (Int32.toNatClampNeg x2)))), (0, .ref (ad 16)), (2, .int x2)] dX2_everybody_30 rfl (by decide) rfl ?_
    refine g_iinc (pc := 31) E (x2 + (1 : Int32)) [(2, .int (x2 + (1 : Int32))), (1, .int (x1 ||| r4)), (3, .ref (ad (18 + (Int32.toNatClampNeg x2)))), (0, .ref (ad 16))] dX2_everybody_31 3 rfl rfl (by decide) rfl ?_
    refine g_goto (pc := 34) E 4 dX2_everybody_34 (by decide) ?_
    refine g_lv [3, 1, 0] rfl ?_
    exact hrec _ hf
set_option maxRecDepth 100000 in
set_option maxHeartbeats 4000000 in
theorem qX2_everybody (l : Launch) (D : va_G) (cy : Nat → ClassId) (ad : Nat → Nat) (sz n : Nat) (σ : fqS) (k : Nat) {r : Int32} (hf : pX2_everybody k n σ = some r) : Met l yX2_everybody wsX2_everybody ({ frames := 1, cells := 0, slots := 0, locals := 20 } : Room) (fqPc (TX cy) ZX D cy ad sz n σ [.ref (ad 16)]) (fqQi (TX cy) ZX D ad sz n σ r σ) 0 0 (fqA (TX cy) ZX ad sz n σ) := by
  refine fq_enter_i (cc := cX2_everybody) (maxL := 4) (own := RX2) _ (by decide) rfl (Nat.le_of_ble_eq_true rfl) rfl (fun X E hret => ?_)
  unfold pX2_everybody at hf
  show fqG X (TX cy) ZX ad n 4 0 0 σ 0 [(0, .ref (ad 16))] []
  refine g_iconst (pc := 0) E (0 : Int32) dX2_everybody_0 (by decide) ?_
  refine g_istore_n (pc := 1) E [(1, .int (0 : Int32)), (0, .ref (ad 16))] dX2_everybody_1 rfl (by decide) rfl ?_
  refine g_iconst (pc := 2) E (0 : Int32) dX2_everybody_2 (by decide) ?_
  refine g_istore_n (pc := 3) E [(2, .int (0 : Int32)), (1, .int (0 : Int32)), (0, .ref (ad 16))] dX2_everybody_3 rfl (by decide) rfl ?_
  refine g_lv [2, 1, 0] rfl ?_
  exact tX2_everybody_L4 E hret _ hf

/-! X6_at -/
theorem wX6_at_0 : Cond.fieldLink RX6 21 "FairQueue$Players" "number" "I" ∈ wsX6_at := by decide +kernel
theorem uX6_at_X6 : ∀ w ∈ u_ws RX6 TX6 3, w ∈ wsX6_at := (fun _ h => List.mem_cons_of_mem _ (List.mem_append_right _ h))
theorem wX6_at_2 : Cond.fieldLink RX6 11 "FairQueue$Players" "row" "[LFairQueue$Player;" ∈ wsX6_at := by decide +kernel
theorem kcX6_at : yX6_at.cls = RX6 ∧ yX6_at.cls ≠ "java/lang/invoke/MethodHandle" ∧ yX6_at.cls ≠ "java/lang/invoke/VarHandle" ∧ (parseMethodDescriptor yX6_at.desc).map (fun d => d.parameters.length) = some 1 := by decide +kernel
def pX6_at (k n : Nat) (σ : fqS) (x1 : Int32) : Option (Option Nat) :=
  (if x1 < 0 then some none else (if (fqI σ 1 2) ≤ x1 then some none else (if x1 < (16 : Int32) then (if x1 < 0 ∨ 16 ≤ Int32.toNatClampNeg x1 then none else some (fqRow n (Int32.toNatClampNeg x1))) else some none)))
set_option maxRecDepth 100000 in
set_option maxHeartbeats 4000000 in
theorem qX6_at (l : Launch) (D : va_G) (cy : Nat → ClassId) (ad : Nat → Nat) (sz n : Nat) (σ : fqS) (k : Nat) (x1 : Int32) {r : (Option Nat)} (hf : pX6_at k n σ x1 = some r) : Met l yX6_at wsX6_at ({ frames := 0, cells := 0, slots := 0, locals := 0 } : Room) (fqPc (TX cy) ZX D cy ad sz n σ [.ref (ad 1), .int x1]) (fqQq (TX cy) ZX D ad sz n σ (r.map (fun z => ad (26 + 4 * z))) σ) 0 0 (fqA (TX cy) ZX ad sz n σ) := by
  refine fq_enter_q (cc := cX6_at) (maxL := 2) (own := RX6) _ (by decide) rfl (Nat.le_of_ble_eq_true rfl) rfl (fun X E hret => ?_)
  unfold pX6_at at hf
  show fqG X (TX cy) ZX ad n 2 0 0 σ 0 [(0, .ref (ad 1)), (1, .int x1)] []
  refine g_iload_n (pc := 0) E dX6_at_0 1 rfl rfl ?_
  refine g_if_lt (pc := 1) E 21 dX6_at_1 (by decide) (fun c1 => ?_) (fun c1 => ?_)
  · replace hf := fq_t c1 hf
    refine g_null (pc := 21) E dX6_at_21 ?_
    refine g_st (st' := [va_rf none]) rfl ?_
    exact hret _ _ _ _ dX6_at_22 (by cases hf; rfl)
  · replace hf := fq_f c1 hf
    refine g_iload_n (pc := 4) E dX6_at_4 1 rfl rfl ?_
    refine g_aload_n (pc := 5) E dX6_at_5 0 rfl rfl ?_
    refine g_getfield (pc := 6) E uX6_at_X6 1 (zx_l (by decide)) (fun _ _ => rfl) rfl 2 (by decide) wX6_at_0 (.int (fqI σ 1 2)) rfl dX6_at_6 ?_
    refine g_icmp_ge (pc := 9) E 21 dX6_at_9 (by decide) (fun c2 => ?_) (fun c2 => ?_)
    · replace hf := fq_t c2 hf
      refine g_null (pc := 21) E dX6_at_21 ?_
      refine g_st (st' := [va_rf none]) rfl ?_
      exact hret _ _ _ _ dX6_at_22 (by cases hf; rfl)
    · replace hf := fq_f c2 hf
      refine g_iload_n (pc := 12) E dX6_at_12 1 rfl rfl ?_
      refine g_aload_n (pc := 13) E dX6_at_13 0 rfl rfl ?_
      refine g_getfield (pc := 14) E uX6_at_X6 1 (zx_l (by decide)) (fun _ _ => rfl) rfl 0 (by decide) wX6_at_2 (.ref (ad 2)) rfl dX6_at_14 ?_
      refine g_alen (pc := 17) E 2 (zx_l (by decide)) 4 (fun _ _ => rfl) rfl (16 : Int32) (by rfl) dX6_at_17 ?_
      refine g_icmp_lt (pc := 18) E 23 dX6_at_18 (by decide) (fun c3 => ?_) (fun c3 => ?_)
      · replace hf := fq_t c3 hf
        refine g_aload_n (pc := 23) E dX6_at_23 0 rfl rfl ?_
        refine g_getfield (pc := 24) E uX6_at_X6 1 (zx_l (by decide)) (fun _ _ => rfl) rfl 0 (by decide) wX6_at_2 (.ref (ad 2)) rfl dX6_at_24 ?_
        refine g_iload_n (pc := 27) E dX6_at_27 1 rfl rfl ?_
        obtain ⟨h4, hf⟩ := fq_in hf
        refine g_aaload (pc := 28) E 2 (zx_l (by decide)) 4 (fun _ _ => rfl) rfl h4 dX6_at_28 ?_
        refine g_st (st' := [va_rf ((fqRow n (Int32.toNatClampNeg x1)).map (fun z => ad (26 + 4 * z)))]) rfl ?_
        exact hret _ _ _ _ dX6_at_29 (by cases hf; rfl)
      · replace hf := fq_f c3 hf
        refine g_null (pc := 21) E dX6_at_21 ?_
        refine g_st (st' := [va_rf none]) rfl ?_
        exact hret _ _ _ _ dX6_at_22 (by cases hf; rfl)

/-! X8_hasBit -/
theorem kcX8_hasBit : yX8_hasBit.cls ≠ "java/lang/invoke/MethodHandle" ∧ yX8_hasBit.cls ≠ "java/lang/invoke/VarHandle" ∧ (parseMethodDescriptor yX8_hasBit.desc).map (fun d => d.parameters.length) = some 2 := by decide +kernel
def pX8_hasBit (k n : Nat) (σ : fqS) (x0 : Int32) (x1 : Int32) : Option Int32 :=
  (if ((x0 >>> (x1 &&& 31)) &&& (1 : Int32)) = (1 : Int32) then some (1 : Int32) else some (0 : Int32))
set_option maxRecDepth 100000 in
set_option maxHeartbeats 4000000 in
theorem qX8_hasBit (l : Launch) (D : va_G) (cy : Nat → ClassId) (ad : Nat → Nat) (sz n : Nat) (σ : fqS) (k : Nat) (x0 : Int32) (x1 : Int32) {r : Int32} (hf : pX8_hasBit k n σ x0 x1 = some r) : Met l yX8_hasBit wsX8_hasBit ({ frames := 0, cells := 0, slots := 0, locals := 0 } : Room) (fqPc (TX cy) ZX D cy ad sz n σ [.int x0, .int x1]) (fqQi (TX cy) ZX D ad sz n σ r σ) 0 0 (fqA (TX cy) ZX ad sz n σ) := by
  refine fq_enter_z (cc := cX8_hasBit) (maxL := 2) (own := RX8) _ (by decide) rfl (Nat.le_of_ble_eq_true rfl) rfl (fun X E hret => ?_)
  unfold pX8_hasBit at hf
  show fqG X (TX cy) ZX ad n 2 0 0 σ 0 [(0, .int x0), (1, .int x1)] []
  refine g_iload_n (pc := 0) E dX8_hasBit_0 0 rfl rfl ?_
  refine g_iload_n (pc := 1) E dX8_hasBit_1 1 rfl rfl ?_
  refine g_ishr (pc := 2) E dX8_hasBit_2 ?_
  refine g_iconst (pc := 3) E (1 : Int32) dX8_hasBit_3 (by decide) ?_
  refine g_iand (pc := 4) E dX8_hasBit_4 ?_
  refine g_iconst (pc := 5) E (1 : Int32) dX8_hasBit_5 (by decide) ?_
  refine g_icmp_ne (pc := 6) E 13 dX8_hasBit_6 (by decide) (fun c1 => ?_) (fun c1 => ?_)
  · replace hf := fq_f c1 hf
    refine g_iconst (pc := 13) E (0 : Int32) dX8_hasBit_13 (by decide) ?_
    exact hret _ _ _ _ rfl dX8_hasBit_14 (congrArg (fun z => (z, σ)) (Option.some.inj hf))
  · replace hf := fq_t c1 hf
    refine g_iconst (pc := 9) E (1 : Int32) dX8_hasBit_9 (by decide) ?_
    refine g_goto (pc := 10) E 14 dX8_hasBit_10 (by decide) ?_
    exact hret _ _ _ _ rfl dX8_hasBit_14 (congrArg (fun z => (z, σ)) (Option.some.inj hf))

/-! X8_bitOf -/
theorem kcX8_bitOf : yX8_bitOf.cls ≠ "java/lang/invoke/MethodHandle" ∧ yX8_bitOf.cls ≠ "java/lang/invoke/VarHandle" ∧ (parseMethodDescriptor yX8_bitOf.desc).map (fun d => d.parameters.length) = some 1 := by decide +kernel
def pX8_bitOf (k n : Nat) (σ : fqS) (x0 : Int32) : Option Int32 :=
  some ((1 : Int32) <<< (x0 &&& 31))
set_option maxRecDepth 100000 in
set_option maxHeartbeats 4000000 in
theorem qX8_bitOf (l : Launch) (D : va_G) (cy : Nat → ClassId) (ad : Nat → Nat) (sz n : Nat) (σ : fqS) (k : Nat) (x0 : Int32) {r : Int32} (hf : pX8_bitOf k n σ x0 = some r) : Met l yX8_bitOf wsX8_bitOf ({ frames := 0, cells := 0, slots := 0, locals := 0 } : Room) (fqPc (TX cy) ZX D cy ad sz n σ [.int x0]) (fqQi (TX cy) ZX D ad sz n σ r σ) 0 0 (fqA (TX cy) ZX ad sz n σ) := by
  refine fq_enter_i (cc := cX8_bitOf) (maxL := 1) (own := RX8) _ (by decide) rfl (Nat.le_of_ble_eq_true rfl) rfl (fun X E hret => ?_)
  unfold pX8_bitOf at hf
  show fqG X (TX cy) ZX ad n 1 0 0 σ 0 [(0, .int x0)] []
  refine g_iconst (pc := 0) E (1 : Int32) dX8_bitOf_0 (by decide) ?_
  refine g_iload_n (pc := 1) E dX8_bitOf_1 0 rfl rfl ?_
  refine g_ishl (pc := 2) E dX8_bitOf_2 ?_
  exact hret _ _ _ _ dX8_bitOf_3 (congrArg (fun z => (z, σ)) (Option.some.inj hf))

/-! X6_undoubted -/
theorem wX6_undoubted_0 : Cond.fieldLink RX6 11 "FairQueue$Players" "row" "[LFairQueue$Player;" ∈ wsX6_undoubted := by decide +kernel
theorem uX6_undoubted_X6 : ∀ w ∈ u_ws RX6 TX6 3, w ∈ wsX6_undoubted := (fun _ h => List.mem_cons_of_mem _ (List.mem_append_left _ (List.mem_append_right _ h)))
theorem wX6_undoubted_2 : Cond.initialized RX8 ∈ wsX6_undoubted := by decide +kernel
theorem wX6_undoubted_3 : Cond.static yX8_hasBit ∈ wsX6_undoubted := by decide +kernel
theorem wX6_undoubted_4 : Cond.fieldLink RX6 43 "FairQueue$Player" "kind" "I" ∈ wsX6_undoubted := by decide +kernel
theorem uX6_undoubted_X5 : ∀ w ∈ u_ws RX5 TX5 5, w ∈ wsX6_undoubted := (fun _ h => List.mem_cons_of_mem _ (List.mem_append_right _ h))
theorem wX6_undoubted_6 : Cond.static yX8_bitOf ∈ wsX6_undoubted := by decide +kernel
theorem kcX6_undoubted : yX6_undoubted.cls = RX6 ∧ yX6_undoubted.cls ≠ "java/lang/invoke/MethodHandle" ∧ yX6_undoubted.cls ≠ "java/lang/invoke/VarHandle" ∧ (parseMethodDescriptor yX6_undoubted.desc).map (fun d => d.parameters.length) = some 1 := by decide +kernel
def pX6_undoubted_L4b (k n : Nat) (σ : fqS) (x1 : Int32) (rec : (Int32 × Int32) → Option Int32) (x2 : Int32) (x3 : Int32) : Option Int32 :=
  (if (16 : Int32) ≤ x3 then some x2 else ((pX6_at k n σ x3).bind (fun r3 => (fqM r3 ((rec (x2, (x3 + (1 : Int32))))) (fun z4 => (if z4 < n then ((pX8_hasBit k n σ x1 x3).bind (fun r7 => (if r7 = 0 then (rec (x2, (x3 + (1 : Int32)))) else (if (fqI σ (26 + 4 * z4) 0) = (2 : Int32) then (rec (x2, (x3 + (1 : Int32)))) else ((pX8_bitOf k n σ x3).bind (fun r11 => (rec ((x2 ||| r11), (x3 + (1 : Int32)))))))))) else none))))))
def pX6_undoubted_L4 (k n : Nat) (σ : fqS) (x1 : Int32) : (Int32 × Int32) → Option Int32 := fqL (fun rec (s : (Int32 × Int32)) => pX6_undoubted_L4b k n σ x1 rec s.1 s.2) k
def pX6_undoubted (k n : Nat) (σ : fqS) (x1 : Int32) : Option Int32 :=
  (pX6_undoubted_L4 k n σ x1 ((0 : Int32), (0 : Int32)))
set_option maxRecDepth 100000 in
set_option maxHeartbeats 4000000 in
theorem tX6_undoubted_L4 {k : Nat} {X : fqX} {cy : Nat → ClassId} {ad : Nat → Nat} {n : Nat} {σ : fqS} {r : Int32} {x1 : Int32} (E : fqE X ({ frames := 1, cells := 0, slots := 0, locals := 21 } : Room) cy cX6_undoubted 5 wsX6_undoubted RX6) (hret : fqR_i X (TX cy) ZX ad n 5 cX6_undoubted r σ) : ∀ (s : (Int32 × Int32)), pX6_undoubted_L4 k n σ x1 s = some r → fqG X (TX cy) ZX ad n 5 0 0 σ 4 [(0, .ref (ad 1)), (1, .int x1), (2, .int (s.1)), (3, .int (s.2))] [] := by
  unfold pX6_undoubted_L4
  refine fqL_run (P := fun (s : (Int32 × Int32)) => fqG X (TX cy) ZX ad n 5 0 0 σ 4 [(0, .ref (ad 1)), (1, .int x1), (2, .int (s.1)), (3, .int (s.2))] []) (fun rec s hrec hf => ?_) k
  obtain ⟨x2, x3⟩ := s
  have hf : pX6_undoubted_L4b k n σ x1 rec x2 x3 = some r := hf
  unfold pX6_undoubted_L4b at hf
  show fqG X (TX cy) ZX ad n 5 0 0 σ 4 [(0, .ref (ad 1)), (1, .int x1), (2, .int x2), (3, .int x3)] []
  refine g_iload_n (pc := 4) E dX6_undoubted_4 3 rfl rfl ?_
  refine g_aload_n (pc := 5) E dX6_undoubted_5 0 rfl rfl ?_
  refine g_getfield (pc := 6) E uX6_undoubted_X6 1 (zx_l (by decide)) (fun _ _ => rfl) rfl 0 (by decide) wX6_undoubted_0 (.ref (ad 2)) rfl dX6_undoubted_6 ?_
  refine g_alen (pc := 9) E 2 (zx_l (by decide)) 4 (fun _ _ => rfl) rfl (16 : Int32) (by rfl) dX6_undoubted_9 ?_
  refine g_icmp_ge (pc := 10) E 55 dX6_undoubted_10 (by decide) (fun c1 => ?_) (fun c1 => ?_)
  · replace hf := fq_t c1 hf
    refine g_iload_n (pc := 55) E dX6_undoubted_55 2 rfl rfl ?_
    exact hret _ _ _ _ dX6_undoubted_56 (congrArg (fun z => (z, σ)) (Option.some.inj hf))
  · replace hf := fq_f c1 hf
    refine g_aload_n (pc := 13) E dX6_undoubted_13 0 rfl rfl ?_
    refine g_iload_n (pc := 14) E dX6_undoubted_14 3 rfl rfl ?_
    obtain ⟨r3, e2, hf⟩ := fq_b hf
    refine g_callVq (pc := 15) E 1 (zx_l (by decide)) (fun _ _ => rfl) rfl [.int x3] (fun l D sz => qX6_at l D cy ad sz n σ k x3 e2) gX6_undoubted_X6_at rfl rfl rfl kcX6_at ⟨by decide, by decide⟩ rfl rfl (Nat.le_of_ble_eq_true rfl) dX6_undoubted_15 ⟨by decide, by decide⟩ ?_
    cases r3 with
    | none =>
      replace hf := fqM_n hf
      refine g_st (st' := [.null]) rfl ?_
      refine g_astoreN (pc := 18) E [(4, .null), (0, .ref (ad 1)), (1, .int x1), (2, .int x2), (3, .int x3)] dX6_undoubted_18 (by decide) rfl ?_
      refine g_aloadN (pc := 20) E dX6_undoubted_20 0 rfl ?_
      refine g_ifnullN (pc := 22) E 49 dX6_undoubted_22 (by decide) ?_
      refine g_iinc (pc := 49) E (x3 + (1 : Int32)) [(3, .int (x3 + (1 : Int32))), (4, .null), (0, .ref (ad 1)), (1, .int x1), (2, .int x2)] dX6_undoubted_49 4 rfl rfl (by decide) rfl ?_
      refine g_goto (pc := 52) E 4 dX6_undoubted_52 (by decide) ?_
      refine g_lv [2, 3, 4, 0] rfl ?_
      exact hrec _ hf
    | some z4 =>
      obtain ⟨h5, hf⟩ := fq_g (fqM_s hf)
      refine g_st (st' := [.ref (ad (26 + 4 * z4))]) rfl ?_
      refine g_astore (pc := 18) E [(4, .ref (ad (26 + 4 * z4))), (0, .ref (ad 1)), (1, .int x1), (2, .int x2), (3, .int x3)] dX6_undoubted_18 (by decide) rfl ?_
      refine g_aload (pc := 20) E dX6_undoubted_20 0 rfl ?_
      refine g_ifnull (pc := 22) E dX6_undoubted_22 ?_
      refine g_iload_n (pc := 25) E dX6_undoubted_25 2 rfl rfl ?_
      refine g_iload_n (pc := 26) E dX6_undoubted_26 4 rfl rfl ?_
      obtain ⟨r7, e6, hf⟩ := fq_b hf
      refine g_callNi (pc := 27) E [.int x1, .int x3] (fun l D sz => qX8_hasBit l D cy ad sz n σ k x1 x3 e6) gX6_undoubted_X8_hasBit_n35 rfl rfl rfl (fun U h => h.2.2.1) wX6_undoubted_2 wX6_undoubted_3 kcX8_hasBit ⟨by decide, by decide⟩ rfl rfl (Nat.le_of_ble_eq_true rfl) dX6_undoubted_27 ⟨by decide, by decide⟩ ?_
      refine g_if_eq (pc := 30) E 49 dX6_undoubted_30 (by decide) (fun c8 => ?_) (fun c8 => ?_)
      · replace hf := fq_t c8 hf
        refine g_iinc (pc := 49) E (x3 + (1 : Int32)) [(3, .int (x3 + (1 : Int32))), (4, .ref (ad (26 + 4 * z4))), (0, .ref (ad 1)), (1, .int x1), (2, .int x2)] dX6_undoubted_49 4 rfl rfl (by decide) rfl ?_
        refine g_goto (pc := 52) E 4 dX6_undoubted_52 (by decide) ?_
        refine g_lv [2, 3, 4, 0] rfl ?_
        exact hrec _ hf
      · replace hf := fq_f c8 hf
        refine g_aload (pc := 33) E dX6_undoubted_33 0 rfl ?_
        refine g_getfield (pc := 35) E uX6_undoubted_X5 (26 + 4 * z4) (zx_p0 h5) (tx_p cy ad n z4) rfl 0 (by decide) wX6_undoubted_4 (.int (fqI σ (26 + 4 * z4) 0)) rfl dX6_undoubted_35 ?_
        refine g_iconst (pc := 38) E (2 : Int32) dX6_undoubted_38 (by decide) ?_
        refine g_icmp_eq (pc := 39) E 49 dX6_undoubted_39 (by decide) (fun c9 => ?_) (fun c9 => ?_)
        · replace hf := fq_t c9 hf
          refine g_iinc (pc := 49) E (x3 + (1 : Int32)) [(3, .int (x3 + (1 : Int32))), (4, .ref (ad (26 + 4 * z4))), (0, .ref (ad 1)), (1, .int x1), (2, .int x2)] dX6_undoubted_49 4 rfl rfl (by decide) rfl ?_
          refine g_goto (pc := 52) E 4 dX6_undoubted_52 (by decide) ?_
          refine g_lv [2, 3, 4, 0] rfl ?_
          exact hrec _ hf
        · replace hf := fq_f c9 hf
          refine g_iload_n (pc := 42) E dX6_undoubted_42 3 rfl rfl ?_
          refine g_iload_n (pc := 43) E dX6_undoubted_43 4 rfl rfl ?_
          obtain ⟨r11, e10, hf⟩ := fq_b hf
          refine g_callNi (pc := 44) E [.int x3] (fun l D sz => qX8_bitOf l D cy ad sz n σ k x3 e10) gX6_undoubted_X8_bitOf_n46 rfl rfl rfl (fun U h => h.2.2.2.2.2) wX6_undoubted_2 wX6_undoubted_6 kcX8_bitOf ⟨by decide, by decide⟩ rfl rfl (Nat.le_of_ble_eq_true rfl) dX6_undoubted_44 ⟨by decide, by decide⟩ ?_
          refine g_ior (pc := 47) E dX6_undoubted_47 ?_
          refine g_istore_n (pc := 48) E [(2, .int (x2 ||| r11)), (4, .ref (ad (26 + 4 * z4))), (0, .ref (ad 1)), (1, .int x1), (3, .int x3)] dX6_undoubted_48 rfl (by decide) rfl ?_
          refine g_iinc (pc := 49) E (x3 + (1 : Int32)) [(3, .int (x3 + (1 : Int32))), (2, .int (x2 ||| r11)), (4, .ref (ad (26 + 4 * z4))), (0, .ref (ad 1)), (1, .int x1)] dX6_undoubted_49 4 rfl rfl (by decide) rfl ?_
          refine g_goto (pc := 52) E 4 dX6_undoubted_52 (by decide) ?_
          refine g_lv [3, 4, 1, 0] rfl ?_
          exact hrec _ hf
set_option maxRecDepth 100000 in
set_option maxHeartbeats 4000000 in
theorem qX6_undoubted (l : Launch) (D : va_G) (cy : Nat → ClassId) (ad : Nat → Nat) (sz n : Nat) (σ : fqS) (k : Nat) (x1 : Int32) {r : Int32} (hf : pX6_undoubted k n σ x1 = some r) : Met l yX6_undoubted wsX6_undoubted ({ frames := 1, cells := 0, slots := 0, locals := 21 } : Room) (fqPc (TX cy) ZX D cy ad sz n σ [.ref (ad 1), .int x1]) (fqQi (TX cy) ZX D ad sz n σ r σ) 0 0 (fqA (TX cy) ZX ad sz n σ) := by
  refine fq_enter_i (cc := cX6_undoubted) (maxL := 5) (own := RX6) _ (by decide) rfl (Nat.le_of_ble_eq_true rfl) rfl (fun X E hret => ?_)
  unfold pX6_undoubted at hf
  show fqG X (TX cy) ZX ad n 5 0 0 σ 0 [(0, .ref (ad 1)), (1, .int x1)] []
  refine g_iconst (pc := 0) E (0 : Int32) dX6_undoubted_0 (by decide) ?_
  refine g_istore_n (pc := 1) E [(2, .int (0 : Int32)), (0, .ref (ad 1)), (1, .int x1)] dX6_undoubted_1 rfl (by decide) rfl ?_
  refine g_iconst (pc := 2) E (0 : Int32) dX6_undoubted_2 (by decide) ?_
  refine g_istore_n (pc := 3) E [(3, .int (0 : Int32)), (2, .int (0 : Int32)), (0, .ref (ad 1)), (1, .int x1)] dX6_undoubted_3 rfl (by decide) rfl ?_
  refine g_lv [2, 3, 1, 0] rfl ?_
  exact tX6_undoubted_L4 E hret _ hf

/-! X6_oddsAgainst -/
theorem wX6_oddsAgainst_0 : Cond.fieldLink RX6 56 "FairQueue$Player" "shares" "[J" ∈ wsX6_oddsAgainst := by decide +kernel
theorem uX6_oddsAgainst_X5 : ∀ w ∈ u_ws RX5 TX5 5, w ∈ wsX6_oddsAgainst := (fun _ h => List.mem_cons_of_mem _ (List.mem_append_right _ h))
theorem wX6_oddsAgainst_2 : Cond.constantLong RX6 59 (500) ∈ wsX6_oddsAgainst := by decide +kernel
theorem wX6_oddsAgainst_3 : Cond.constantLong RX6 61 (70) ∈ wsX6_oddsAgainst := by decide +kernel
theorem kcX6_oddsAgainst : yX6_oddsAgainst.cls ≠ "java/lang/invoke/MethodHandle" ∧ yX6_oddsAgainst.cls ≠ "java/lang/invoke/VarHandle" ∧ (parseMethodDescriptor yX6_oddsAgainst.desc).map (fun d => d.parameters.length) = some 2 := by decide +kernel
def pX6_oddsAgainst_L5b (k n : Nat) (σ : fqS) (x0 : Int32) (p1 : Nat) (rec : (Int64 × Int32) → Option Int64) (x2 : Int64) (x4 : Int32) : Option Int64 :=
  (if (7 : Int32) ≤ x4 then some x2 else (if x4 < 0 ∨ 7 ≤ Int32.toNatClampNeg x4 then none else (rec ((x2 + ((fqJ σ (26 + 4 * p1 + 1) (Int32.toNatClampNeg x4)) * ((500 : Int64) + ((70 : Int64) * (Int32.toInt64 (x0 - x4)))))), (x4 + (1 : Int32))))))
def pX6_oddsAgainst_L5 (k n : Nat) (σ : fqS) (x0 : Int32) (p1 : Nat) : (Int64 × Int32) → Option Int64 := fqL (fun rec (s : (Int64 × Int32)) => pX6_oddsAgainst_L5b k n σ x0 p1 rec s.1 s.2) k
def pX6_oddsAgainst (k n : Nat) (σ : fqS) (x0 : Int32) (p1 : Nat) : Option Int64 :=
  (pX6_oddsAgainst_L5 k n σ x0 p1 ((0 : Int64), (0 : Int32)))
set_option maxRecDepth 100000 in
set_option maxHeartbeats 4000000 in
theorem tX6_oddsAgainst_L5 {k : Nat} {X : fqX} {cy : Nat → ClassId} {ad : Nat → Nat} {n : Nat} {σ : fqS} {r : Int64} {x0 : Int32} {p1 : Nat} (E : fqE X ({ frames := 0, cells := 0, slots := 0, locals := 0 } : Room) cy cX6_oddsAgainst 5 wsX6_oddsAgainst RX6) (hret : fqR_l X (TX cy) ZX ad n 5 cX6_oddsAgainst r σ) (hp1 : p1 < n) : ∀ (s : (Int64 × Int32)), pX6_oddsAgainst_L5 k n σ x0 p1 s = some r → fqG X (TX cy) ZX ad n 5 0 0 σ 5 [(0, .int x0), (1, .ref (ad (26 + 4 * p1))), (2, .long (s.1)), (4, .int (s.2))] [] := by
  unfold pX6_oddsAgainst_L5
  refine fqL_run (P := fun (s : (Int64 × Int32)) => fqG X (TX cy) ZX ad n 5 0 0 σ 5 [(0, .int x0), (1, .ref (ad (26 + 4 * p1))), (2, .long (s.1)), (4, .int (s.2))] []) (fun rec s hrec hf => ?_) k
  obtain ⟨x2, x4⟩ := s
  have hf : pX6_oddsAgainst_L5b k n σ x0 p1 rec x2 x4 = some r := hf
  unfold pX6_oddsAgainst_L5b at hf
  show fqG X (TX cy) ZX ad n 5 0 0 σ 5 [(0, .int x0), (1, .ref (ad (26 + 4 * p1))), (2, .long x2), (4, .int x4)] []
  refine g_iload (pc := 5) E dX6_oddsAgainst_5 3 rfl ?_
  refine g_aload_n (pc := 7) E dX6_oddsAgainst_7 1 rfl rfl ?_
  refine g_getfield (pc := 8) E uX6_oddsAgainst_X5 (26 + 4 * p1) (zx_p0 hp1) (tx_p cy ad n p1) rfl 1 (by decide) wX6_oddsAgainst_0 (.ref (ad (26 + 4 * p1 + 1))) rfl dX6_oddsAgainst_8 ?_
  refine g_alen (pc := 11) E (26 + 4 * p1 + 1) (zx_p hp1 (by decide)) 1 (tx_p1 cy ad n p1) rfl (7 : Int32) (by rfl) dX6_oddsAgainst_11 ?_
  refine g_icmp_ge (pc := 12) E 45 dX6_oddsAgainst_12 (by decide) (fun c1 => ?_) (fun c1 => ?_)
  · replace hf := fq_t c1 hf
    refine g_lload_n (pc := 45) E dX6_oddsAgainst_45 2 rfl rfl ?_
    exact hret _ _ _ _ dX6_oddsAgainst_46 (congrArg (fun z => (z, σ)) (Option.some.inj hf))
  · replace hf := fq_f c1 hf
    refine g_lload_n (pc := 15) E dX6_oddsAgainst_15 2 rfl rfl ?_
    refine g_aload_n (pc := 16) E dX6_oddsAgainst_16 1 rfl rfl ?_
    refine g_getfield (pc := 17) E uX6_oddsAgainst_X5 (26 + 4 * p1) (zx_p0 hp1) (tx_p cy ad n p1) rfl 1 (by decide) wX6_oddsAgainst_0 (.ref (ad (26 + 4 * p1 + 1))) rfl dX6_oddsAgainst_17 ?_
    refine g_iload (pc := 20) E dX6_oddsAgainst_20 3 rfl ?_
    obtain ⟨h2, hf⟩ := fq_in hf
    refine g_laload (pc := 22) E (26 + 4 * p1 + 1) (zx_p hp1 (by decide)) (tx_p1 cy ad n p1) h2 dX6_oddsAgainst_22 ?_
    refine g_ldc2_w (pc := 23) E dX6_oddsAgainst_23 wX6_oddsAgainst_2 ?_
    refine g_ldc2_w (pc := 26) E dX6_oddsAgainst_26 wX6_oddsAgainst_3 ?_
    refine g_iload_n (pc := 29) E dX6_oddsAgainst_29 0 rfl rfl ?_
    refine g_iload (pc := 30) E dX6_oddsAgainst_30 3 rfl ?_
    refine g_isub (pc := 32) E dX6_oddsAgainst_32 ?_
    refine g_i2l (pc := 33) E dX6_oddsAgainst_33 ?_
    refine g_lmul (pc := 34) E dX6_oddsAgainst_34 ?_
    refine g_ladd (pc := 35) E dX6_oddsAgainst_35 ?_
    refine g_lmul (pc := 36) E dX6_oddsAgainst_36 ?_
    refine g_ladd (pc := 37) E dX6_oddsAgainst_37 ?_
    refine g_lstore_n (pc := 38) E [(2, .long (x2 + ((fqJ σ (26 + 4 * p1 + 1) (Int32.toNatClampNeg x4)) * ((500 : Int64) + ((70 : Int64) * (Int32.toInt64 (x0 - x4))))))), (0, .int x0), (1, .ref (ad (26 + 4 * p1))), (4, .int x4)] dX6_oddsAgainst_38 rfl (by decide) rfl ?_
    refine g_iinc (pc := 39) E (x4 + (1 : Int32)) [(4, .int (x4 + (1 : Int32))), (2, .long (x2 + ((fqJ σ (26 + 4 * p1 + 1) (Int32.toNatClampNeg x4)) * ((500 : Int64) + ((70 : Int64) * (Int32.toInt64 (x0 - x4))))))), (0, .int x0), (1, .ref (ad (26 + 4 * p1)))] dX6_oddsAgainst_39 3 rfl rfl (by decide) rfl ?_
    refine g_goto (pc := 42) E 5 dX6_oddsAgainst_42 (by decide) ?_
    refine g_lv [2, 3, 1, 0] rfl ?_
    exact hrec _ hf
set_option maxRecDepth 100000 in
set_option maxHeartbeats 4000000 in
theorem qX6_oddsAgainst (l : Launch) (D : va_G) (cy : Nat → ClassId) (ad : Nat → Nat) (sz n : Nat) (σ : fqS) (k : Nat) (x0 : Int32) (p1 : Nat) (hp1 : p1 < n) {r : Int64} (hf : pX6_oddsAgainst k n σ x0 p1 = some r) : Met l yX6_oddsAgainst wsX6_oddsAgainst ({ frames := 0, cells := 0, slots := 0, locals := 0 } : Room) (fqPc (TX cy) ZX D cy ad sz n σ [.int x0, .ref (ad (26 + 4 * p1))]) (fqQl (TX cy) ZX D ad sz n σ r σ) 0 0 (fqA (TX cy) ZX ad sz n σ) := by
  refine fq_enter_l (cc := cX6_oddsAgainst) (maxL := 5) (own := RX6) _ (by decide) rfl (Nat.le_of_ble_eq_true rfl) rfl (fun X E hret => ?_)
  unfold pX6_oddsAgainst at hf
  show fqG X (TX cy) ZX ad n 5 0 0 σ 0 [(0, .int x0), (1, .ref (ad (26 + 4 * p1)))] []
  refine g_lconst (pc := 0) E (0 : Int64) dX6_oddsAgainst_0 (by decide) ?_
  refine g_lstore_n (pc := 1) E [(2, .long (0 : Int64)), (0, .int x0), (1, .ref (ad (26 + 4 * p1)))] dX6_oddsAgainst_1 rfl (by decide) rfl ?_
  refine g_iconst (pc := 2) E (0 : Int32) dX6_oddsAgainst_2 (by decide) ?_
  refine g_istore (pc := 3) E [(4, .int (0 : Int32)), (2, .long (0 : Int64)), (0, .int x0), (1, .ref (ad (26 + 4 * p1)))] dX6_oddsAgainst_3 (by decide) rfl ?_
  refine g_lv [2, 3, 1, 0] rfl ?_
  exact tX6_oddsAgainst_L5 E hret hp1 _ hf

/-! X6_chanceAt -/
theorem wX6_chanceAt_0 : Cond.fieldLink RX6 11 "FairQueue$Players" "row" "[LFairQueue$Player;" ∈ wsX6_chanceAt := by decide +kernel
theorem uX6_chanceAt_X6 : ∀ w ∈ u_ws RX6 TX6 3, w ∈ wsX6_chanceAt := (fun _ h => List.mem_cons_of_mem _ (List.mem_append_left _ (List.mem_append_right _ h)))
theorem wX6_chanceAt_2 : Cond.constantLong RX6 54 (1000) ∈ wsX6_chanceAt := by decide +kernel
theorem wX6_chanceAt_3 : Cond.initialized RX8 ∈ wsX6_chanceAt := by decide +kernel
theorem wX6_chanceAt_4 : Cond.static yX8_hasBit ∈ wsX6_chanceAt := by decide +kernel
theorem kcX6_chanceAt : yX6_chanceAt.cls = RX6 ∧ yX6_chanceAt.cls ≠ "java/lang/invoke/MethodHandle" ∧ yX6_chanceAt.cls ≠ "java/lang/invoke/VarHandle" ∧ (parseMethodDescriptor yX6_chanceAt.desc).map (fun d => d.parameters.length) = some 2 := by decide +kernel
def pX6_chanceAt_L8b (k n : Nat) (σ : fqS) (x1 : Int32) (x2 : Int32) (rec : (Int64 × Int64 × Int32) → Option Int64) (x3 : Int64) (x5 : Int64) (x7 : Int32) : Option Int64 :=
  (if (16 : Int32) ≤ x7 then (if x5 ≤ (0 : Int64) then some (0 : Int64) else (if ((1000 : Int64) * x5) = 0 then none else some (x3 / ((1000 : Int64) * x5)))) else ((pX6_at k n σ x7).bind (fun r5 => (fqM r5 ((rec (x3, x5, (x7 + (1 : Int32))))) (fun z6 => (if z6 < n then ((pX8_hasBit k n σ x2 x7).bind (fun r9 => (if r9 = 0 then (rec (x3, x5, (x7 + (1 : Int32)))) else ((pX6_oddsAgainst k n σ x1 z6).bind (fun r12 => (rec ((x3 + r12), (x5 + (1 : Int64)), (x7 + (1 : Int32))))))))) else none))))))
def pX6_chanceAt_L8 (k n : Nat) (σ : fqS) (x1 : Int32) (x2 : Int32) : (Int64 × Int64 × Int32) → Option Int64 := fqL (fun rec (s : (Int64 × Int64 × Int32)) => pX6_chanceAt_L8b k n σ x1 x2 rec s.1 s.2.1 s.2.2) k
def pX6_chanceAt (k n : Nat) (σ : fqS) (x1 : Int32) (x2 : Int32) : Option Int64 :=
  (pX6_chanceAt_L8 k n σ x1 x2 ((0 : Int64), (0 : Int64), (0 : Int32)))
set_option maxRecDepth 100000 in
set_option maxHeartbeats 4000000 in
theorem tX6_chanceAt_L8 {k : Nat} {X : fqX} {cy : Nat → ClassId} {ad : Nat → Nat} {n : Nat} {σ : fqS} {r : Int64} {x1 : Int32} {x2 : Int32} (E : fqE X ({ frames := 1, cells := 0, slots := 0, locals := 24 } : Room) cy cX6_chanceAt 9 wsX6_chanceAt RX6) (hret : fqR_l X (TX cy) ZX ad n 9 cX6_chanceAt r σ) : ∀ (s : (Int64 × Int64 × Int32)), pX6_chanceAt_L8 k n σ x1 x2 s = some r → fqG X (TX cy) ZX ad n 9 0 0 σ 8 [(0, .ref (ad 1)), (1, .int x1), (2, .int x2), (3, .long (s.1)), (5, .long (s.2.1)), (7, .int (s.2.2))] [] := by
  unfold pX6_chanceAt_L8
  refine fqL_run (P := fun (s : (Int64 × Int64 × Int32)) => fqG X (TX cy) ZX ad n 9 0 0 σ 8 [(0, .ref (ad 1)), (1, .int x1), (2, .int x2), (3, .long (s.1)), (5, .long (s.2.1)), (7, .int (s.2.2))] []) (fun rec s hrec hf => ?_) k
  obtain ⟨x3, x5, x7⟩ := s
  have hf : pX6_chanceAt_L8b k n σ x1 x2 rec x3 x5 x7 = some r := hf
  unfold pX6_chanceAt_L8b at hf
  show fqG X (TX cy) ZX ad n 9 0 0 σ 8 [(0, .ref (ad 1)), (1, .int x1), (2, .int x2), (3, .long x3), (5, .long x5), (7, .int x7)] []
  refine g_iload (pc := 8) E dX6_chanceAt_8 5 rfl ?_
  refine g_aload_n (pc := 10) E dX6_chanceAt_10 0 rfl rfl ?_
  refine g_getfield (pc := 11) E uX6_chanceAt_X6 1 (zx_l (by decide)) (fun _ _ => rfl) rfl 0 (by decide) wX6_chanceAt_0 (.ref (ad 2)) rfl dX6_chanceAt_11 ?_
  refine g_alen (pc := 14) E 2 (zx_l (by decide)) 4 (fun _ _ => rfl) rfl (16 : Int32) (by rfl) dX6_chanceAt_14 ?_
  refine g_icmp_ge (pc := 15) E 61 dX6_chanceAt_15 (by decide) (fun c1 => ?_) (fun c1 => ?_)
  · replace hf := fq_t c1 hf
    refine g_lload (pc := 61) E dX6_chanceAt_61 4 rfl ?_
    refine g_lconst (pc := 63) E (0 : Int64) dX6_chanceAt_63 (by decide) ?_
    refine g_lif_le (pc := 64) E 79 dX6_chanceAt_64 dX6_chanceAt_65 (by decide) (fun c2 => ?_) (fun c2 => ?_)
    · replace hf := fq_t c2 hf
      refine g_lconst (pc := 79) E (0 : Int64) dX6_chanceAt_79 (by decide) ?_
      exact hret _ _ _ _ dX6_chanceAt_80 (congrArg (fun z => (z, σ)) (Option.some.inj hf))
    · replace hf := fq_f c2 hf
      refine g_lload_n (pc := 68) E dX6_chanceAt_68 3 rfl rfl ?_
      refine g_ldc2_w (pc := 69) E dX6_chanceAt_69 wX6_chanceAt_2 ?_
      refine g_lload (pc := 72) E dX6_chanceAt_72 4 rfl ?_
      refine g_lmul (pc := 74) E dX6_chanceAt_74 ?_
      obtain ⟨h3, hf⟩ := fq_z hf
      refine g_ldiv (pc := 75) E dX6_chanceAt_75 h3 ?_
      refine g_goto (pc := 76) E 80 dX6_chanceAt_76 (by decide) ?_
      exact hret _ _ _ _ dX6_chanceAt_80 (congrArg (fun z => (z, σ)) (Option.some.inj hf))
  · replace hf := fq_f c1 hf
    refine g_aload_n (pc := 18) E dX6_chanceAt_18 0 rfl rfl ?_
    refine g_iload (pc := 19) E dX6_chanceAt_19 5 rfl ?_
    obtain ⟨r5, e4, hf⟩ := fq_b hf
    refine g_callVq (pc := 21) E 1 (zx_l (by decide)) (fun _ _ => rfl) rfl [.int x7] (fun l D sz => qX6_at l D cy ad sz n σ k x7 e4) gX6_chanceAt_X6_at rfl rfl rfl kcX6_at ⟨by decide, by decide⟩ rfl rfl (Nat.le_of_ble_eq_true rfl) dX6_chanceAt_21 ⟨by decide, by decide⟩ ?_
    cases r5 with
    | none =>
      replace hf := fqM_n hf
      refine g_st (st' := [.null]) rfl ?_
      refine g_astoreN (pc := 24) E [(8, .null), (0, .ref (ad 1)), (1, .int x1), (2, .int x2), (3, .long x3), (5, .long x5), (7, .int x7)] dX6_chanceAt_24 (by decide) rfl ?_
      refine g_aloadN (pc := 26) E dX6_chanceAt_26 0 rfl ?_
      refine g_ifnullN (pc := 28) E 55 dX6_chanceAt_28 (by decide) ?_
      refine g_iinc (pc := 55) E (x7 + (1 : Int32)) [(7, .int (x7 + (1 : Int32))), (8, .null), (0, .ref (ad 1)), (1, .int x1), (2, .int x2), (3, .long x3), (5, .long x5)] dX6_chanceAt_55 6 rfl rfl (by decide) rfl ?_
      refine g_goto (pc := 58) E 8 dX6_chanceAt_58 (by decide) ?_
      refine g_lv [2, 3, 4, 5, 6, 0] rfl ?_
      exact hrec _ hf
    | some z6 =>
      obtain ⟨h7, hf⟩ := fq_g (fqM_s hf)
      refine g_st (st' := [.ref (ad (26 + 4 * z6))]) rfl ?_
      refine g_astore (pc := 24) E [(8, .ref (ad (26 + 4 * z6))), (0, .ref (ad 1)), (1, .int x1), (2, .int x2), (3, .long x3), (5, .long x5), (7, .int x7)] dX6_chanceAt_24 (by decide) rfl ?_
      refine g_aload (pc := 26) E dX6_chanceAt_26 0 rfl ?_
      refine g_ifnull (pc := 28) E dX6_chanceAt_28 ?_
      refine g_iload_n (pc := 31) E dX6_chanceAt_31 3 rfl rfl ?_
      refine g_iload (pc := 32) E dX6_chanceAt_32 6 rfl ?_
      obtain ⟨r9, e8, hf⟩ := fq_b hf
      refine g_callNi (pc := 34) E [.int x2, .int x7] (fun l D sz => qX8_hasBit l D cy ad sz n σ k x2 x7 e8) gX6_chanceAt_X8_hasBit_n35 rfl rfl rfl (fun U h => h.2.2.1) wX6_chanceAt_3 wX6_chanceAt_4 kcX8_hasBit ⟨by decide, by decide⟩ rfl rfl (Nat.le_of_ble_eq_true rfl) dX6_chanceAt_34 ⟨by decide, by decide⟩ ?_
      refine g_if_eq (pc := 37) E 55 dX6_chanceAt_37 (by decide) (fun c10 => ?_) (fun c10 => ?_)
      · replace hf := fq_t c10 hf
        refine g_iinc (pc := 55) E (x7 + (1 : Int32)) [(7, .int (x7 + (1 : Int32))), (8, .ref (ad (26 + 4 * z6))), (0, .ref (ad 1)), (1, .int x1), (2, .int x2), (3, .long x3), (5, .long x5)] dX6_chanceAt_55 6 rfl rfl (by decide) rfl ?_
        refine g_goto (pc := 58) E 8 dX6_chanceAt_58 (by decide) ?_
        refine g_lv [2, 3, 4, 5, 6, 0] rfl ?_
        exact hrec _ hf
      · replace hf := fq_f c10 hf
        refine g_lload_n (pc := 40) E dX6_chanceAt_40 4 rfl rfl ?_
        refine g_iload_n (pc := 41) E dX6_chanceAt_41 2 rfl rfl ?_
        refine g_aload (pc := 42) E dX6_chanceAt_42 0 rfl ?_
        obtain ⟨r12, e11, hf⟩ := fq_b hf
        refine g_callSl (pc := 44) E [.int x1, .ref (ad (26 + 4 * z6))] (fun l D sz => qX6_oddsAgainst l D cy ad sz n σ k x1 z6 h7 e11) gX6_chanceAt_X6_oddsAgainst rfl rfl rfl kcX6_oddsAgainst ⟨by decide, by decide⟩ rfl rfl (Nat.le_of_ble_eq_true rfl) dX6_chanceAt_44 ⟨by decide, by decide⟩ ?_
        refine g_ladd (pc := 47) E dX6_chanceAt_47 ?_
        refine g_lstore_n (pc := 48) E [(3, .long (x3 + r12)), (8, .ref (ad (26 + 4 * z6))), (0, .ref (ad 1)), (1, .int x1), (2, .int x2), (5, .long x5), (7, .int x7)] dX6_chanceAt_48 rfl (by decide) rfl ?_
        refine g_lload (pc := 49) E dX6_chanceAt_49 5 rfl ?_
        refine g_lconst (pc := 51) E (1 : Int64) dX6_chanceAt_51 (by decide) ?_
        refine g_ladd (pc := 52) E dX6_chanceAt_52 ?_
        refine g_lstore (pc := 53) E [(5, .long (x5 + (1 : Int64))), (3, .long (x3 + r12)), (8, .ref (ad (26 + 4 * z6))), (0, .ref (ad 1)), (1, .int x1), (2, .int x2), (7, .int x7)] dX6_chanceAt_53 (by decide) rfl ?_
        refine g_iinc (pc := 55) E (x7 + (1 : Int32)) [(7, .int (x7 + (1 : Int32))), (5, .long (x5 + (1 : Int64))), (3, .long (x3 + r12)), (8, .ref (ad (26 + 4 * z6))), (0, .ref (ad 1)), (1, .int x1), (2, .int x2)] dX6_chanceAt_55 6 rfl rfl (by decide) rfl ?_
        refine g_goto (pc := 58) E 8 dX6_chanceAt_58 (by decide) ?_
        refine g_lv [4, 5, 6, 2, 1, 0] rfl ?_
        exact hrec _ hf
set_option maxRecDepth 100000 in
set_option maxHeartbeats 4000000 in
theorem qX6_chanceAt (l : Launch) (D : va_G) (cy : Nat → ClassId) (ad : Nat → Nat) (sz n : Nat) (σ : fqS) (k : Nat) (x1 : Int32) (x2 : Int32) {r : Int64} (hf : pX6_chanceAt k n σ x1 x2 = some r) : Met l yX6_chanceAt wsX6_chanceAt ({ frames := 1, cells := 0, slots := 0, locals := 24 } : Room) (fqPc (TX cy) ZX D cy ad sz n σ [.ref (ad 1), .int x1, .int x2]) (fqQl (TX cy) ZX D ad sz n σ r σ) 0 0 (fqA (TX cy) ZX ad sz n σ) := by
  refine fq_enter_l (cc := cX6_chanceAt) (maxL := 9) (own := RX6) _ (by decide) rfl (Nat.le_of_ble_eq_true rfl) rfl (fun X E hret => ?_)
  unfold pX6_chanceAt at hf
  show fqG X (TX cy) ZX ad n 9 0 0 σ 0 [(0, .ref (ad 1)), (1, .int x1), (2, .int x2)] []
  refine g_lconst (pc := 0) E (0 : Int64) dX6_chanceAt_0 (by decide) ?_
  refine g_lstore_n (pc := 1) E [(3, .long (0 : Int64)), (0, .ref (ad 1)), (1, .int x1), (2, .int x2)] dX6_chanceAt_1 rfl (by decide) rfl ?_
  refine g_lconst (pc := 2) E (0 : Int64) dX6_chanceAt_2 (by decide) ?_
  refine g_lstore (pc := 3) E [(5, .long (0 : Int64)), (3, .long (0 : Int64)), (0, .ref (ad 1)), (1, .int x1), (2, .int x2)] dX6_chanceAt_3 (by decide) rfl ?_
  refine g_iconst (pc := 5) E (0 : Int32) dX6_chanceAt_5 (by decide) ?_
  refine g_istore (pc := 6) E [(7, .int (0 : Int32)), (5, .long (0 : Int64)), (3, .long (0 : Int64)), (0, .ref (ad 1)), (1, .int x1), (2, .int x2)] dX6_chanceAt_6 (by decide) rfl ?_
  refine g_lv [3, 4, 5, 2, 1, 0] rfl ?_
  exact tX6_chanceAt_L8 E hret _ hf
