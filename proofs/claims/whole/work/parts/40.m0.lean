/-! X9_in -/
theorem kcX9_in : yX9_in.cls ≠ "java/lang/invoke/MethodHandle" ∧ yX9_in.cls ≠ "java/lang/invoke/VarHandle" ∧ (parseMethodDescriptor yX9_in.desc).map (fun d => d.parameters.length) = some 3 := by decide +kernel
def pX9_in (k n : Nat) (σ : fqS) (x0 : Int64) (x2 : Int64) (x4 : Int64) : Option Int32 :=
  (if x0 < x2 then some (0 : Int32) else (if x4 < x0 then some (0 : Int32) else some (1 : Int32)))
set_option maxRecDepth 100000 in
set_option maxHeartbeats 4000000 in
theorem qX9_in (l : Launch) (D : va_G) (cy : Nat → ClassId) (ad : Nat → Nat) (sz n : Nat) (σ : fqS) (k : Nat) (x0 : Int64) (x2 : Int64) (x4 : Int64) {r : Int32} (hf : pX9_in k n σ x0 x2 x4 = some r) : Met l yX9_in wsX9_in ({ frames := 0, cells := 0, slots := 0, locals := 0 } : Room) (fqPc (TM cy) ZM D cy ad sz n σ [.long x0, .long x2, .long x4]) (fqQi (TM cy) ZM D ad sz n σ r σ) 0 0 (fqA (TM cy) ZM ad sz n σ) := by
  refine fq_enter_z (cc := cX9_in) (maxL := 6) (own := RX9) _ (by decide) rfl (Nat.le_of_ble_eq_true rfl) rfl (fun X E hret => ?_)
  unfold pX9_in at hf
  show fqG X (TM cy) ZM ad n 6 0 0 σ 0 [(0, .long x0), (2, .long x2), (4, .long x4)] []
  refine g_lload_n (pc := 0) E dX9_in_0 0 rfl rfl ?_
  refine g_lload_n (pc := 1) E dX9_in_1 1 rfl rfl ?_
  refine g_lif_lt (pc := 2) E 17 dX9_in_2 dX9_in_3 (by decide) (fun c1 => ?_) (fun c1 => ?_)
  · replace hf := fq_t c1 hf
    refine g_iconst (pc := 17) E (0 : Int32) dX9_in_17 (by decide) ?_
    exact hret _ _ _ _ rfl dX9_in_18 (congrArg (fun z => (z, σ)) (Option.some.inj hf))
  · replace hf := fq_f c1 hf
    refine g_lload_n (pc := 6) E dX9_in_6 0 rfl rfl ?_
    refine g_lload (pc := 7) E dX9_in_7 2 rfl ?_
    refine g_lif_gt (pc := 9) E 17 dX9_in_9 dX9_in_10 (by decide) (fun c2 => ?_) (fun c2 => ?_)
    · replace hf := fq_t c2 hf
      refine g_iconst (pc := 17) E (0 : Int32) dX9_in_17 (by decide) ?_
      exact hret _ _ _ _ rfl dX9_in_18 (congrArg (fun z => (z, σ)) (Option.some.inj hf))
    · replace hf := fq_f c2 hf
      refine g_iconst (pc := 13) E (1 : Int32) dX9_in_13 (by decide) ?_
      refine g_goto (pc := 14) E 18 dX9_in_14 (by decide) ?_
      exact hret _ _ _ _ rfl dX9_in_18 (congrArg (fun z => (z, σ)) (Option.some.inj hf))

/-! X9_isPlayer -/
theorem wX9_isPlayer_0 : Cond.fieldLink RX9 94 "FairQueueModel" "players" "I" ∈ wsX9_isPlayer := by decide +kernel
theorem uX9_isPlayer_X9 : ∀ w ∈ u_ws RX9 TX9 33, w ∈ wsX9_isPlayer := (fun _ h => List.mem_cons_of_mem _ (List.mem_append_right _ h))
theorem kcX9_isPlayer : yX9_isPlayer.cls = RX9 ∧ yX9_isPlayer.cls ≠ "java/lang/invoke/MethodHandle" ∧ yX9_isPlayer.cls ≠ "java/lang/invoke/VarHandle" ∧ (parseMethodDescriptor yX9_isPlayer.desc).map (fun d => d.parameters.length) = some 1 := by decide +kernel
def pX9_isPlayer (k n : Nat) (σ : fqS) (x1 : Int32) : Option Int32 :=
  ((pX9_in k n σ (Int32.toInt64 x1) (0 : Int64) (Int32.toInt64 ((fqI σ 0 1) - (1 : Int32)))).bind (fun r2 => (if r2 &&& 1 = r2 then some r2 else none)))
set_option maxRecDepth 100000 in
set_option maxHeartbeats 4000000 in
theorem qX9_isPlayer (l : Launch) (D : va_G) (cy : Nat → ClassId) (ad : Nat → Nat) (sz n : Nat) (σ : fqS) (k : Nat) (x1 : Int32) {r : Int32} (hf : pX9_isPlayer k n σ x1 = some r) : Met l yX9_isPlayer wsX9_isPlayer ({ frames := 1, cells := 0, slots := 0, locals := 25 } : Room) (fqPc (TM cy) ZM D cy ad sz n σ [.ref (ad 0), .int x1]) (fqQi (TM cy) ZM D ad sz n σ r σ) 0 0 (fqA (TM cy) ZM ad sz n σ) := by
  refine fq_enter_z (cc := cX9_isPlayer) (maxL := 2) (own := RX9) _ (by decide) rfl (Nat.le_of_ble_eq_true rfl) rfl (fun X E hret => ?_)
  unfold pX9_isPlayer at hf
  show fqG X (TM cy) ZM ad n 2 0 0 σ 0 [(0, .ref (ad 0)), (1, .int x1)] []
  refine g_iload_n (pc := 0) E dX9_isPlayer_0 1 rfl rfl ?_
  refine g_i2l (pc := 1) E dX9_isPlayer_1 ?_
  refine g_lconst (pc := 2) E (0 : Int64) dX9_isPlayer_2 (by decide) ?_
  refine g_aload_n (pc := 3) E dX9_isPlayer_3 0 rfl rfl ?_
  refine g_getfield (pc := 4) E uX9_isPlayer_X9 0 (zm_l (by decide)) (fun _ _ => rfl) rfl 1 (by decide) wX9_isPlayer_0 (.int (fqI σ 0 1)) rfl dX9_isPlayer_4 ?_
  refine g_iconst (pc := 7) E (1 : Int32) dX9_isPlayer_7 (by decide) ?_
  refine g_isub (pc := 8) E dX9_isPlayer_8 ?_
  refine g_i2l (pc := 9) E dX9_isPlayer_9 ?_
  obtain ⟨r2, e1, hf⟩ := fq_b hf
  refine g_callSi (pc := 10) E [.long (Int32.toInt64 x1), .long (0 : Int64), .long (Int32.toInt64 ((fqI σ 0 1) - (1 : Int32)))] (fun l D sz => qX9_in l D cy ad sz n σ k (Int32.toInt64 x1) (0 : Int64) (Int32.toInt64 ((fqI σ 0 1) - (1 : Int32))) e1) gX9_isPlayer_X9_in rfl rfl rfl kcX9_in ⟨by decide, by decide⟩ rfl rfl (Nat.le_of_ble_eq_true rfl) dX9_isPlayer_10 ⟨by decide, by decide⟩ ?_
  obtain ⟨h3, hf⟩ := fq_g hf
  exact hret _ _ _ _ (fq_nb h3) dX9_isPlayer_13 (congrArg (fun z => (z, σ)) (Option.some.inj hf))

/-! X9_finding -/
theorem wX9_finding_0 : Cond.fieldLink RX9 9 "FairQueueModel" "foundMany" "[I" ∈ wsX9_finding := by decide +kernel
theorem uX9_finding_X9 : ∀ w ∈ u_ws RX9 TX9 33, w ∈ wsX9_finding := (fun _ h => List.mem_cons_of_mem _ (List.mem_append_right _ h))
theorem wX9_finding_2 : Cond.constantLong RX9 92 (-1000000000) ∈ wsX9_finding := by decide +kernel
theorem kcX9_finding : yX9_finding.cls = RX9 ∧ yX9_finding.cls ≠ "java/lang/invoke/MethodHandle" ∧ yX9_finding.cls ≠ "java/lang/invoke/VarHandle" ∧ (parseMethodDescriptor yX9_finding.desc).map (fun d => d.parameters.length) = some 1 := by decide +kernel
def pX9_finding (k n : Nat) (σ : fqS) (x1 : Int64) : Option (Int64 × fqS) :=
  (if (Int64.toInt32 ((-1000000000 : Int64) - x1)) < 0 ∨ 6 ≤ Int32.toNatClampNeg (Int64.toInt32 ((-1000000000 : Int64) - x1)) then none else (fqN (fqPI σ 1 (Int32.toNatClampNeg (Int64.toInt32 ((-1000000000 : Int64) - x1))) ((fqI σ 1 (Int32.toNatClampNeg (Int64.toInt32 ((-1000000000 : Int64) - x1)))) + (1 : Int32))) (fun σ2 => some (x1, σ2))))
set_option maxRecDepth 100000 in
set_option maxHeartbeats 4000000 in
theorem qX9_finding (l : Launch) (D : va_G) (cy : Nat → ClassId) (ad : Nat → Nat) (sz n : Nat) (σ : fqS) (k : Nat) (x1 : Int64) {r : Int64} {σ' : fqS} (hf : pX9_finding k n σ x1 = some (r, σ')) : Met l yX9_finding wsX9_finding ({ frames := 0, cells := 0, slots := 0, locals := 0 } : Room) (fqPc (TM cy) ZM D cy ad sz n σ [.ref (ad 0), .long x1]) (fqQl (TM cy) ZM D ad sz n σ r σ') 0 0 (fqA (TM cy) ZM ad sz n σ) := by
  refine fq_enter_l (cc := cX9_finding) (maxL := 3) (own := RX9) _ (by decide) rfl (Nat.le_of_ble_eq_true rfl) rfl (fun X E hret => ?_)
  unfold pX9_finding at hf
  show fqG X (TM cy) ZM ad n 3 0 0 σ 0 [(0, .ref (ad 0)), (1, .long x1)] []
  refine g_aload_n (pc := 0) E dX9_finding_0 0 rfl rfl ?_
  refine g_getfield (pc := 1) E uX9_finding_X9 0 (zm_l (by decide)) (fun _ _ => rfl) rfl 0 (by decide) wX9_finding_0 (.ref (ad 1)) rfl dX9_finding_1 ?_
  refine g_ldc2_w (pc := 4) E dX9_finding_4 wX9_finding_2 ?_
  refine g_lload_n (pc := 7) E dX9_finding_7 1 rfl rfl ?_
  refine g_lsub (pc := 8) E dX9_finding_8 ?_
  refine g_l2i (pc := 9) E dX9_finding_9 ?_
  refine g_dup2_11 (pc := 10) E dX9_finding_10 rfl rfl ?_
  obtain ⟨h1, hf⟩ := fq_in hf
  refine g_iaload (pc := 11) E 1 (zm_l (by decide)) (fun _ _ => rfl) h1 dX9_finding_11 ?_
  refine g_iconst (pc := 12) E (1 : Int32) dX9_finding_12 (by decide) ?_
  refine g_iadd (pc := 13) E dX9_finding_13 ?_
  refine g_iastore (pc := 14) E 1 (zm_l (by decide)) (fun _ _ => rfl) h1 dX9_finding_14 ?_
  obtain ⟨σ2, e3, hf⟩ := fq_n hf
  refine g_sg e3 ?_
  refine g_lload_n (pc := 15) E dX9_finding_15 1 rfl rfl ?_
  exact hret _ _ _ _ dX9_finding_16 (Option.some.inj hf)

/-! X9_meanOf -/
theorem wX9_meanOf_0 : Cond.fieldLink RX9 16 "FairQueueModel" "shares" "[J" ∈ wsX9_meanOf := by decide +kernel
theorem uX9_meanOf_X9 : ∀ w ∈ u_ws RX9 TX9 33, w ∈ wsX9_meanOf := (fun _ h => List.mem_cons_of_mem _ (List.mem_append_right _ h))
theorem kcX9_meanOf : yX9_meanOf.cls = RX9 ∧ yX9_meanOf.cls ≠ "java/lang/invoke/MethodHandle" ∧ yX9_meanOf.cls ≠ "java/lang/invoke/VarHandle" ∧ (parseMethodDescriptor yX9_meanOf.desc).map (fun d => d.parameters.length) = some 1 := by decide +kernel
def pX9_meanOf_L5b (k n : Nat) (σ : fqS) (x1 : Int32) (rec : (Int64 × Int32) → Option Int64) (x2 : Int64) (x4 : Int32) : Option Int64 :=
  (if (7 : Int32) ≤ x4 then some x2 else (if (((7 : Int32) * x1) + x4) < 0 ∨ 112 ≤ Int32.toNatClampNeg (((7 : Int32) * x1) + x4) then none else (rec ((x2 + ((Int32.toInt64 x4) * (fqJ σ 3 (Int32.toNatClampNeg (((7 : Int32) * x1) + x4))))), (x4 + (1 : Int32))))))
def pX9_meanOf_L5 (k n : Nat) (σ : fqS) (x1 : Int32) : (Int64 × Int32) → Option Int64 := fqL (fun rec (s : (Int64 × Int32)) => pX9_meanOf_L5b k n σ x1 rec s.1 s.2) k
def pX9_meanOf (k n : Nat) (σ : fqS) (x1 : Int32) : Option Int64 :=
  (pX9_meanOf_L5 k n σ x1 ((0 : Int64), (0 : Int32)))
set_option maxRecDepth 100000 in
set_option maxHeartbeats 4000000 in
theorem tX9_meanOf_L5 {k : Nat} {X : fqX} {cy : Nat → ClassId} {ad : Nat → Nat} {n : Nat} {σ : fqS} {r : Int64} {x1 : Int32} (E : fqE X ({ frames := 0, cells := 0, slots := 0, locals := 0 } : Room) cy cX9_meanOf 5 wsX9_meanOf RX9) (hret : fqR_l X (TM cy) ZM ad n 5 cX9_meanOf r σ) : ∀ (s : (Int64 × Int32)), pX9_meanOf_L5 k n σ x1 s = some r → fqG X (TM cy) ZM ad n 5 0 0 σ 5 [(0, .ref (ad 0)), (1, .int x1), (2, .long (s.1)), (4, .int (s.2))] [] := by
  unfold pX9_meanOf_L5
  refine fqL_run (P := fun (s : (Int64 × Int32)) => fqG X (TM cy) ZM ad n 5 0 0 σ 5 [(0, .ref (ad 0)), (1, .int x1), (2, .long (s.1)), (4, .int (s.2))] []) (fun rec s hrec hf => ?_) k
  obtain ⟨x2, x4⟩ := s
  have hf : pX9_meanOf_L5b k n σ x1 rec x2 x4 = some r := hf
  unfold pX9_meanOf_L5b at hf
  show fqG X (TM cy) ZM ad n 5 0 0 σ 5 [(0, .ref (ad 0)), (1, .int x1), (2, .long x2), (4, .int x4)] []
  refine g_iload (pc := 5) E dX9_meanOf_5 3 rfl ?_
  refine g_bipush (pc := 7) E (7 : Int32) dX9_meanOf_7 (by decide) ?_
  refine g_icmp_ge (pc := 9) E 37 dX9_meanOf_9 (by decide) (fun c1 => ?_) (fun c1 => ?_)
  · replace hf := fq_t c1 hf
    refine g_lload_n (pc := 37) E dX9_meanOf_37 2 rfl rfl ?_
    exact hret _ _ _ _ dX9_meanOf_38 (congrArg (fun z => (z, σ)) (Option.some.inj hf))
  · replace hf := fq_f c1 hf
    refine g_lload_n (pc := 12) E dX9_meanOf_12 2 rfl rfl ?_
    refine g_iload (pc := 13) E dX9_meanOf_13 3 rfl ?_
    refine g_i2l (pc := 15) E dX9_meanOf_15 ?_
    refine g_aload_n (pc := 16) E dX9_meanOf_16 0 rfl rfl ?_
    refine g_getfield (pc := 17) E uX9_meanOf_X9 0 (zm_l (by decide)) (fun _ _ => rfl) rfl 3 (by decide) wX9_meanOf_0 (.ref (ad 3)) rfl dX9_meanOf_17 ?_
    refine g_bipush (pc := 20) E (7 : Int32) dX9_meanOf_20 (by decide) ?_
    refine g_iload_n (pc := 22) E dX9_meanOf_22 1 rfl rfl ?_
    refine g_imul (pc := 23) E dX9_meanOf_23 ?_
    refine g_iload (pc := 24) E dX9_meanOf_24 3 rfl ?_
    refine g_iadd (pc := 26) E dX9_meanOf_26 ?_
    obtain ⟨h2, hf⟩ := fq_in hf
    refine g_laload (pc := 27) E 3 (zm_l (by decide)) (fun _ _ => rfl) h2 dX9_meanOf_27 ?_
    refine g_lmul (pc := 28) E dX9_meanOf_28 ?_
    refine g_ladd (pc := 29) E dX9_meanOf_29 ?_
    refine g_lstore_n (pc := 30) E [(2, .long (x2 + ((Int32.toInt64 x4) * (fqJ σ 3 (Int32.toNatClampNeg (((7 : Int32) * x1) + x4)))))), (0, .ref (ad 0)), (1, .int x1), (4, .int x4)] dX9_meanOf_30 rfl (by decide) rfl ?_
    refine g_iinc (pc := 31) E (x4 + (1 : Int32)) [(4, .int (x4 + (1 : Int32))), (2, .long (x2 + ((Int32.toInt64 x4) * (fqJ σ 3 (Int32.toNatClampNeg (((7 : Int32) * x1) + x4)))))), (0, .ref (ad 0)), (1, .int x1)] dX9_meanOf_31 3 rfl rfl (by decide) rfl ?_
    refine g_goto (pc := 34) E 5 dX9_meanOf_34 (by decide) ?_
    refine g_lv [2, 3, 1, 0] rfl ?_
    exact hrec _ hf
set_option maxRecDepth 100000 in
set_option maxHeartbeats 4000000 in
theorem qX9_meanOf (l : Launch) (D : va_G) (cy : Nat → ClassId) (ad : Nat → Nat) (sz n : Nat) (σ : fqS) (k : Nat) (x1 : Int32) {r : Int64} (hf : pX9_meanOf k n σ x1 = some r) : Met l yX9_meanOf wsX9_meanOf ({ frames := 0, cells := 0, slots := 0, locals := 0 } : Room) (fqPc (TM cy) ZM D cy ad sz n σ [.ref (ad 0), .int x1]) (fqQl (TM cy) ZM D ad sz n σ r σ) 0 0 (fqA (TM cy) ZM ad sz n σ) := by
  refine fq_enter_l (cc := cX9_meanOf) (maxL := 5) (own := RX9) _ (by decide) rfl (Nat.le_of_ble_eq_true rfl) rfl (fun X E hret => ?_)
  unfold pX9_meanOf at hf
  show fqG X (TM cy) ZM ad n 5 0 0 σ 0 [(0, .ref (ad 0)), (1, .int x1)] []
  refine g_lconst (pc := 0) E (0 : Int64) dX9_meanOf_0 (by decide) ?_
  refine g_lstore_n (pc := 1) E [(2, .long (0 : Int64)), (0, .ref (ad 0)), (1, .int x1)] dX9_meanOf_1 rfl (by decide) rfl ?_
  refine g_iconst (pc := 2) E (0 : Int32) dX9_meanOf_2 (by decide) ?_
  refine g_istore (pc := 3) E [(4, .int (0 : Int32)), (2, .long (0 : Int64)), (0, .ref (ad 0)), (1, .int x1)] dX9_meanOf_3 (by decide) rfl ?_
  refine g_lv [2, 3, 1, 0] rfl ?_
  exact tX9_meanOf_L5 E hret _ hf

/-! X9_as -/
theorem wX9_as_0 : Cond.constantLong RX9 109 (-1000000001) ∈ wsX9_as := by decide +kernel
theorem wX9_as_1 : Cond.constantLong RX9 107 (2) ∈ wsX9_as := by decide +kernel
theorem wX9_as_2 : Cond.fieldLink RX9 13 "FairQueueModel" "kindOf" "[I" ∈ wsX9_as := by decide +kernel
theorem uX9_as_X9 : ∀ w ∈ u_ws RX9 TX9 33, w ∈ wsX9_as := (fun _ h => List.mem_cons_of_mem _ (List.mem_append_right _ h))
theorem wX9_as_4 : Cond.constantLong RX9 128 (-1000000005) ∈ wsX9_as := by decide +kernel
theorem kcX9_as : yX9_as.cls = RX9 ∧ yX9_as.cls ≠ "java/lang/invoke/MethodHandle" ∧ yX9_as.cls ≠ "java/lang/invoke/VarHandle" ∧ (parseMethodDescriptor yX9_as.desc).map (fun d => d.parameters.length) = some 2 := by decide +kernel
def pX9_as (k n : Nat) (σ : fqS) (x1 : Int32) (x2 : Int32) : Option (Int64 × fqS) :=
  ((pX9_isPlayer k n σ x1).bind (fun r2 => (if r2 = 0 then (fqB2 (pX9_finding k n σ (-1000000001 : Int64)) (fun r5 σ6 => some (r5, σ6))) else ((pX9_in k n σ (Int32.toInt64 x2) (0 : Int64) (2 : Int64)).bind (fun r8 => (if r8 = 0 then (fqB2 (pX9_finding k n σ (-1000000001 : Int64)) (fun r21 σ22 => some (r21, σ22))) else (if x2 = 0 then ((pX9_meanOf k n σ x1).bind (fun r12 => some (r12, σ))) else (if x1 < 0 ∨ 16 ≤ Int32.toNatClampNeg x1 then none else (if (fqI σ 2 (Int32.toNatClampNeg x1)) = x2 then ((pX9_meanOf k n σ x1).bind (fun r19 => some (r19, σ))) else (fqB2 (pX9_finding k n σ (-1000000005 : Int64)) (fun r16 σ17 => some (r16, σ17))))))))))))
set_option maxRecDepth 100000 in
set_option maxHeartbeats 4000000 in
theorem qX9_as (l : Launch) (D : va_G) (cy : Nat → ClassId) (ad : Nat → Nat) (sz n : Nat) (σ : fqS) (k : Nat) (x1 : Int32) (x2 : Int32) {r : Int64} {σ' : fqS} (hf : pX9_as k n σ x1 x2 = some (r, σ')) : Met l yX9_as wsX9_as ({ frames := 2, cells := 0, slots := 0, locals := 46 } : Room) (fqPc (TM cy) ZM D cy ad sz n σ [.ref (ad 0), .int x1, .int x2]) (fqQl (TM cy) ZM D ad sz n σ r σ') 0 0 (fqA (TM cy) ZM ad sz n σ) := by
  refine fq_enter_l (cc := cX9_as) (maxL := 3) (own := RX9) _ (by decide) rfl (Nat.le_of_ble_eq_true rfl) rfl (fun X E hret => ?_)
  unfold pX9_as at hf
  show fqG X (TM cy) ZM ad n 3 0 0 σ 0 [(0, .ref (ad 0)), (1, .int x1), (2, .int x2)] []
  refine g_aload_n (pc := 0) E dX9_as_0 0 rfl rfl ?_
  refine g_iload_n (pc := 1) E dX9_as_1 1 rfl rfl ?_
  obtain ⟨r2, e1, hf⟩ := fq_b hf
  refine g_callVi (pc := 2) E 0 (zm_l (by decide)) (fun _ _ => rfl) rfl [.int x1] (fun l D sz => qX9_isPlayer l D cy ad sz n σ k x1 e1) gX9_as_X9_isPlayer rfl rfl rfl kcX9_isPlayer ⟨by decide, by decide⟩ rfl rfl (Nat.le_of_ble_eq_true rfl) dX9_as_2 ⟨by decide, by decide⟩ ?_
  refine g_if_eq (pc := 5) E 20 dX9_as_5 (by decide) (fun c3 => ?_) (fun c3 => ?_)
  · replace hf := fq_t c3 hf
    refine g_aload_n (pc := 20) E dX9_as_20 0 rfl rfl ?_
    refine g_ldc2_w (pc := 21) E dX9_as_21 wX9_as_0 ?_
    obtain ⟨r5, σ6, e4, hf⟩ := fq_b2 hf
    refine g_callVl (pc := 24) E 0 (zm_l (by decide)) (fun _ _ => rfl) rfl [.long (-1000000001 : Int64)] (fun l D sz => qX9_finding l D cy ad sz n σ k (-1000000001 : Int64) e4) gX9_as_X9_finding rfl rfl rfl kcX9_finding ⟨by decide, by decide⟩ rfl rfl (Nat.le_of_ble_eq_true rfl) dX9_as_24 ⟨by decide, by decide⟩ ?_
    exact hret _ _ _ _ dX9_as_27 (Option.some.inj hf)
  · replace hf := fq_f c3 hf
    refine g_iload_n (pc := 8) E dX9_as_8 2 rfl rfl ?_
    refine g_i2l (pc := 9) E dX9_as_9 ?_
    refine g_lconst (pc := 10) E (0 : Int64) dX9_as_10 (by decide) ?_
    refine g_ldc2_w (pc := 11) E dX9_as_11 wX9_as_1 ?_
    obtain ⟨r8, e7, hf⟩ := fq_b hf
    refine g_callSi (pc := 14) E [.long (Int32.toInt64 x2), .long (0 : Int64), .long (2 : Int64)] (fun l D sz => qX9_in l D cy ad sz n σ k (Int32.toInt64 x2) (0 : Int64) (2 : Int64) e7) gX9_as_X9_in rfl rfl rfl kcX9_in ⟨by decide, by decide⟩ rfl rfl (Nat.le_of_ble_eq_true rfl) dX9_as_14 ⟨by decide, by decide⟩ ?_
    refine g_if_ne (pc := 17) E 28 dX9_as_17 (by decide) (fun c9 => ?_) (fun c9 => ?_)
    · replace hf := fq_f c9 hf
      refine g_iload_n (pc := 28) E dX9_as_28 2 rfl rfl ?_
      refine g_if_eq (pc := 29) E 42 dX9_as_29 (by decide) (fun c10 => ?_) (fun c10 => ?_)
      · replace hf := fq_t c10 hf
        refine g_aload_n (pc := 42) E dX9_as_42 0 rfl rfl ?_
        refine g_iload_n (pc := 43) E dX9_as_43 1 rfl rfl ?_
        obtain ⟨r12, e11, hf⟩ := fq_b hf
        refine g_callVl (pc := 44) E 0 (zm_l (by decide)) (fun _ _ => rfl) rfl [.int x1] (fun l D sz => qX9_meanOf l D cy ad sz n σ k x1 e11) gX9_as_X9_meanOf rfl rfl rfl kcX9_meanOf ⟨by decide, by decide⟩ rfl rfl (Nat.le_of_ble_eq_true rfl) dX9_as_44 ⟨by decide, by decide⟩ ?_
        refine g_goto (pc := 47) E 57 dX9_as_47 (by decide) ?_
        exact hret _ _ _ _ dX9_as_57 (Option.some.inj hf)
      · replace hf := fq_f c10 hf
        refine g_aload_n (pc := 32) E dX9_as_32 0 rfl rfl ?_
        refine g_getfield (pc := 33) E uX9_as_X9 0 (zm_l (by decide)) (fun _ _ => rfl) rfl 2 (by decide) wX9_as_2 (.ref (ad 2)) rfl dX9_as_33 ?_
        refine g_iload_n (pc := 36) E dX9_as_36 1 rfl rfl ?_
        obtain ⟨h13, hf⟩ := fq_in hf
        refine g_iaload (pc := 37) E 2 (zm_l (by decide)) (fun _ _ => rfl) h13 dX9_as_37 ?_
        refine g_iload_n (pc := 38) E dX9_as_38 2 rfl rfl ?_
        refine g_icmp_ne (pc := 39) E 50 dX9_as_39 (by decide) (fun c14 => ?_) (fun c14 => ?_)
        · replace hf := fq_f c14 hf
          refine g_aload_n (pc := 50) E dX9_as_50 0 rfl rfl ?_
          refine g_ldc2_w (pc := 51) E dX9_as_51 wX9_as_4 ?_
          obtain ⟨r16, σ17, e15, hf⟩ := fq_b2 hf
          refine g_callVl (pc := 54) E 0 (zm_l (by decide)) (fun _ _ => rfl) rfl [.long (-1000000005 : Int64)] (fun l D sz => qX9_finding l D cy ad sz n σ k (-1000000005 : Int64) e15) gX9_as_X9_finding rfl rfl rfl kcX9_finding ⟨by decide, by decide⟩ rfl rfl (Nat.le_of_ble_eq_true rfl) dX9_as_54 ⟨by decide, by decide⟩ ?_
          exact hret _ _ _ _ dX9_as_57 (Option.some.inj hf)
        · replace hf := fq_t c14 hf
          refine g_aload_n (pc := 42) E dX9_as_42 0 rfl rfl ?_
          refine g_iload_n (pc := 43) E dX9_as_43 1 rfl rfl ?_
          obtain ⟨r19, e18, hf⟩ := fq_b hf
          refine g_callVl (pc := 44) E 0 (zm_l (by decide)) (fun _ _ => rfl) rfl [.int x1] (fun l D sz => qX9_meanOf l D cy ad sz n σ k x1 e18) gX9_as_X9_meanOf rfl rfl rfl kcX9_meanOf ⟨by decide, by decide⟩ rfl rfl (Nat.le_of_ble_eq_true rfl) dX9_as_44 ⟨by decide, by decide⟩ ?_
          refine g_goto (pc := 47) E 57 dX9_as_47 (by decide) ?_
          exact hret _ _ _ _ dX9_as_57 (Option.some.inj hf)
    · replace hf := fq_t c9 hf
      refine g_aload_n (pc := 20) E dX9_as_20 0 rfl rfl ?_
      refine g_ldc2_w (pc := 21) E dX9_as_21 wX9_as_0 ?_
      obtain ⟨r21, σ22, e20, hf⟩ := fq_b2 hf
      refine g_callVl (pc := 24) E 0 (zm_l (by decide)) (fun _ _ => rfl) rfl [.long (-1000000001 : Int64)] (fun l D sz => qX9_finding l D cy ad sz n σ k (-1000000001 : Int64) e20) gX9_as_X9_finding rfl rfl rfl kcX9_finding ⟨by decide, by decide⟩ rfl rfl (Nat.le_of_ble_eq_true rfl) dX9_as_24 ⟨by decide, by decide⟩ ?_
      exact hret _ _ _ _ dX9_as_27 (Option.some.inj hf)

/-! X9_become -/
theorem wX9_become_0 : Cond.constantLong RX9 109 (-1000000001) ∈ wsX9_become := by decide +kernel
theorem wX9_become_1 : Cond.constantLong RX9 107 (2) ∈ wsX9_become := by decide +kernel
theorem wX9_become_2 : Cond.fieldLink RX9 13 "FairQueueModel" "kindOf" "[I" ∈ wsX9_become := by decide +kernel
theorem uX9_become_X9 : ∀ w ∈ u_ws RX9 TX9 33, w ∈ wsX9_become := (fun _ h => List.mem_cons_of_mem _ (List.mem_append_right _ h))
theorem kcX9_become : yX9_become.cls = RX9 ∧ yX9_become.cls ≠ "java/lang/invoke/MethodHandle" ∧ yX9_become.cls ≠ "java/lang/invoke/VarHandle" ∧ (parseMethodDescriptor yX9_become.desc).map (fun d => d.parameters.length) = some 2 := by decide +kernel
def pX9_become (k n : Nat) (σ : fqS) (x1 : Int32) (x2 : Int32) : Option (Int64 × fqS) :=
  ((pX9_isPlayer k n σ x1).bind (fun r2 => (if r2 = 0 then (fqB2 (pX9_finding k n σ (-1000000001 : Int64)) (fun r5 σ6 => some (r5, σ6))) else ((pX9_in k n σ (Int32.toInt64 x2) (0 : Int64) (2 : Int64)).bind (fun r8 => (if r8 = 0 then (fqB2 (pX9_finding k n σ (-1000000001 : Int64)) (fun r14 σ15 => some (r14, σ15))) else (if x1 < 0 ∨ 16 ≤ Int32.toNatClampNeg x1 then none else (fqN (fqPI σ 2 (Int32.toNatClampNeg x1) x2) (fun σ11 => some ((Int32.toInt64 (fqI σ 2 (Int32.toNatClampNeg x1))), σ11))))))))))
set_option maxRecDepth 100000 in
set_option maxHeartbeats 4000000 in
theorem qX9_become (l : Launch) (D : va_G) (cy : Nat → ClassId) (ad : Nat → Nat) (sz n : Nat) (σ : fqS) (k : Nat) (x1 : Int32) (x2 : Int32) {r : Int64} {σ' : fqS} (hf : pX9_become k n σ x1 x2 = some (r, σ')) : Met l yX9_become wsX9_become ({ frames := 2, cells := 0, slots := 0, locals := 46 } : Room) (fqPc (TM cy) ZM D cy ad sz n σ [.ref (ad 0), .int x1, .int x2]) (fqQl (TM cy) ZM D ad sz n σ r σ') 0 0 (fqA (TM cy) ZM ad sz n σ) := by
  refine fq_enter_l (cc := cX9_become) (maxL := 4) (own := RX9) _ (by decide) rfl (Nat.le_of_ble_eq_true rfl) rfl (fun X E hret => ?_)
  unfold pX9_become at hf
  show fqG X (TM cy) ZM ad n 4 0 0 σ 0 [(0, .ref (ad 0)), (1, .int x1), (2, .int x2)] []
  refine g_aload_n (pc := 0) E dX9_become_0 0 rfl rfl ?_
  refine g_iload_n (pc := 1) E dX9_become_1 1 rfl rfl ?_
  obtain ⟨r2, e1, hf⟩ := fq_b hf
  refine g_callVi (pc := 2) E 0 (zm_l (by decide)) (fun _ _ => rfl) rfl [.int x1] (fun l D sz => qX9_isPlayer l D cy ad sz n σ k x1 e1) gX9_become_X9_isPlayer rfl rfl rfl kcX9_isPlayer ⟨by decide, by decide⟩ rfl rfl (Nat.le_of_ble_eq_true rfl) dX9_become_2 ⟨by decide, by decide⟩ ?_
  refine g_if_eq (pc := 5) E 20 dX9_become_5 (by decide) (fun c3 => ?_) (fun c3 => ?_)
  · replace hf := fq_t c3 hf
    refine g_aload_n (pc := 20) E dX9_become_20 0 rfl rfl ?_
    refine g_ldc2_w (pc := 21) E dX9_become_21 wX9_become_0 ?_
    obtain ⟨r5, σ6, e4, hf⟩ := fq_b2 hf
    refine g_callVl (pc := 24) E 0 (zm_l (by decide)) (fun _ _ => rfl) rfl [.long (-1000000001 : Int64)] (fun l D sz => qX9_finding l D cy ad sz n σ k (-1000000001 : Int64) e4) gX9_become_X9_finding rfl rfl rfl kcX9_finding ⟨by decide, by decide⟩ rfl rfl (Nat.le_of_ble_eq_true rfl) dX9_become_24 ⟨by decide, by decide⟩ ?_
    exact hret _ _ _ _ dX9_become_27 (Option.some.inj hf)
  · replace hf := fq_f c3 hf
    refine g_iload_n (pc := 8) E dX9_become_8 2 rfl rfl ?_
    refine g_i2l (pc := 9) E dX9_become_9 ?_
    refine g_lconst (pc := 10) E (0 : Int64) dX9_become_10 (by decide) ?_
    refine g_ldc2_w (pc := 11) E dX9_become_11 wX9_become_1 ?_
    obtain ⟨r8, e7, hf⟩ := fq_b hf
    refine g_callSi (pc := 14) E [.long (Int32.toInt64 x2), .long (0 : Int64), .long (2 : Int64)] (fun l D sz => qX9_in l D cy ad sz n σ k (Int32.toInt64 x2) (0 : Int64) (2 : Int64) e7) gX9_become_X9_in rfl rfl rfl kcX9_in ⟨by decide, by decide⟩ rfl rfl (Nat.le_of_ble_eq_true rfl) dX9_become_14 ⟨by decide, by decide⟩ ?_
    refine g_if_ne (pc := 17) E 28 dX9_become_17 (by decide) (fun c9 => ?_) (fun c9 => ?_)
    · replace hf := fq_f c9 hf
      refine g_aload_n (pc := 28) E dX9_become_28 0 rfl rfl ?_
      refine g_getfield (pc := 29) E uX9_become_X9 0 (zm_l (by decide)) (fun _ _ => rfl) rfl 2 (by decide) wX9_become_2 (.ref (ad 2)) rfl dX9_become_29 ?_
      refine g_iload_n (pc := 32) E dX9_become_32 1 rfl rfl ?_
      obtain ⟨h10, hf⟩ := fq_in hf
      refine g_iaload (pc := 33) E 2 (zm_l (by decide)) (fun _ _ => rfl) h10 dX9_become_33 ?_
      refine g_istore_n (pc := 34) E [(3, .int (fqI σ 2 (Int32.toNatClampNeg x1))), (0, .ref (ad 0)), (1, .int x1), (2, .int x2)] dX9_become_34 rfl (by decide) rfl ?_
      refine g_aload_n (pc := 35) E dX9_become_35 1 rfl rfl ?_
      refine g_getfield (pc := 36) E uX9_become_X9 0 (zm_l (by decide)) (fun _ _ => rfl) rfl 2 (by decide) wX9_become_2 (.ref (ad 2)) rfl dX9_become_36 ?_
      refine g_iload_n (pc := 39) E dX9_become_39 2 rfl rfl ?_
      refine g_iload_n (pc := 40) E dX9_become_40 3 rfl rfl ?_
      refine g_iastore (pc := 41) E 2 (zm_l (by decide)) (fun _ _ => rfl) h10 dX9_become_41 ?_
      obtain ⟨σ11, e12, hf⟩ := fq_n hf
      refine g_sg e12 ?_
      refine g_iload_n (pc := 42) E dX9_become_42 0 rfl rfl ?_
      refine g_i2l (pc := 43) E dX9_become_43 ?_
      exact hret _ _ _ _ dX9_become_44 (Option.some.inj hf)
    · replace hf := fq_t c9 hf
      refine g_aload_n (pc := 20) E dX9_become_20 0 rfl rfl ?_
      refine g_ldc2_w (pc := 21) E dX9_become_21 wX9_become_0 ?_
      obtain ⟨r14, σ15, e13, hf⟩ := fq_b2 hf
      refine g_callVl (pc := 24) E 0 (zm_l (by decide)) (fun _ _ => rfl) rfl [.long (-1000000001 : Int64)] (fun l D sz => qX9_finding l D cy ad sz n σ k (-1000000001 : Int64) e13) gX9_become_X9_finding rfl rfl rfl kcX9_finding ⟨by decide, by decide⟩ rfl rfl (Nat.le_of_ble_eq_true rfl) dX9_become_24 ⟨by decide, by decide⟩ ?_
      exact hret _ _ _ _ dX9_become_27 (Option.some.inj hf)

/-! X9_boundOf -/
theorem wX9_boundOf_0 : Cond.fieldLink RX9 31 "FairQueueModel" "base" "I" ∈ wsX9_boundOf := by decide +kernel
theorem uX9_boundOf_X9 : ∀ w ∈ u_ws RX9 TX9 33, w ∈ wsX9_boundOf := (fun _ h => List.mem_cons_of_mem _ (List.mem_append_right _ h))
theorem wX9_boundOf_2 : Cond.fieldLink RX9 35 "FairQueueModel" "step" "I" ∈ wsX9_boundOf := by decide +kernel
theorem wX9_boundOf_3 : Cond.fieldLink RX9 89 "FairQueueModel" "ticks" "I" ∈ wsX9_boundOf := by decide +kernel
theorem wX9_boundOf_4 : Cond.fieldLink RX9 45 "FairQueueModel" "partyTick" "[I" ∈ wsX9_boundOf := by decide +kernel
theorem wX9_boundOf_5 : Cond.fieldLink RX9 39 "FairQueueModel" "top" "I" ∈ wsX9_boundOf := by decide +kernel
theorem kcX9_boundOf : yX9_boundOf.cls = RX9 ∧ yX9_boundOf.cls ≠ "java/lang/invoke/MethodHandle" ∧ yX9_boundOf.cls ≠ "java/lang/invoke/VarHandle" ∧ (parseMethodDescriptor yX9_boundOf.desc).map (fun d => d.parameters.length) = some 1 := by decide +kernel
def pX9_boundOf (k n : Nat) (σ : fqS) (x1 : Int32) : Option Int64 :=
  (if x1 < 0 ∨ 10 ≤ Int32.toNatClampNeg x1 then none else (if (Int32.toInt64 (fqI σ 0 9)) ≤ ((Int32.toInt64 (fqI σ 0 7)) + ((Int32.toInt64 (fqI σ 0 8)) * (Int32.toInt64 ((fqI σ 0 10) - (fqI σ 7 (Int32.toNatClampNeg x1)))))) then some (Int32.toInt64 (fqI σ 0 9)) else some ((Int32.toInt64 (fqI σ 0 7)) + ((Int32.toInt64 (fqI σ 0 8)) * (Int32.toInt64 ((fqI σ 0 10) - (fqI σ 7 (Int32.toNatClampNeg x1))))))))
set_option maxRecDepth 100000 in
set_option maxHeartbeats 4000000 in
theorem qX9_boundOf (l : Launch) (D : va_G) (cy : Nat → ClassId) (ad : Nat → Nat) (sz n : Nat) (σ : fqS) (k : Nat) (x1 : Int32) {r : Int64} (hf : pX9_boundOf k n σ x1 = some r) : Met l yX9_boundOf wsX9_boundOf ({ frames := 0, cells := 0, slots := 0, locals := 0 } : Room) (fqPc (TM cy) ZM D cy ad sz n σ [.ref (ad 0), .int x1]) (fqQl (TM cy) ZM D ad sz n σ r σ) 0 0 (fqA (TM cy) ZM ad sz n σ) := by
  refine fq_enter_l (cc := cX9_boundOf) (maxL := 4) (own := RX9) _ (by decide) rfl (Nat.le_of_ble_eq_true rfl) rfl (fun X E hret => ?_)
  unfold pX9_boundOf at hf
  show fqG X (TM cy) ZM ad n 4 0 0 σ 0 [(0, .ref (ad 0)), (1, .int x1)] []
  refine g_aload_n (pc := 0) E dX9_boundOf_0 0 rfl rfl ?_
  refine g_getfield (pc := 1) E uX9_boundOf_X9 0 (zm_l (by decide)) (fun _ _ => rfl) rfl 7 (by decide) wX9_boundOf_0 (.int (fqI σ 0 7)) rfl dX9_boundOf_1 ?_
  refine g_i2l (pc := 4) E dX9_boundOf_4 ?_
  refine g_aload_n (pc := 5) E dX9_boundOf_5 0 rfl rfl ?_
  refine g_getfield (pc := 6) E uX9_boundOf_X9 0 (zm_l (by decide)) (fun _ _ => rfl) rfl 8 (by decide) wX9_boundOf_2 (.int (fqI σ 0 8)) rfl dX9_boundOf_6 ?_
  refine g_i2l (pc := 9) E dX9_boundOf_9 ?_
  refine g_aload_n (pc := 10) E dX9_boundOf_10 0 rfl rfl ?_
  refine g_getfield (pc := 11) E uX9_boundOf_X9 0 (zm_l (by decide)) (fun _ _ => rfl) rfl 10 (by decide) wX9_boundOf_3 (.int (fqI σ 0 10)) rfl dX9_boundOf_11 ?_
  refine g_aload_n (pc := 14) E dX9_boundOf_14 0 rfl rfl ?_
  refine g_getfield (pc := 15) E uX9_boundOf_X9 0 (zm_l (by decide)) (fun _ _ => rfl) rfl 13 (by decide) wX9_boundOf_4 (.ref (ad 7)) rfl dX9_boundOf_15 ?_
  refine g_iload_n (pc := 18) E dX9_boundOf_18 1 rfl rfl ?_
  obtain ⟨h1, hf⟩ := fq_in hf
  refine g_iaload (pc := 19) E 7 (zm_l (by decide)) (fun _ _ => rfl) h1 dX9_boundOf_19 ?_
  refine g_isub (pc := 20) E dX9_boundOf_20 ?_
  refine g_i2l (pc := 21) E dX9_boundOf_21 ?_
  refine g_lmul (pc := 22) E dX9_boundOf_22 ?_
  refine g_ladd (pc := 23) E dX9_boundOf_23 ?_
  refine g_lstore_n (pc := 24) E [(2, .long ((Int32.toInt64 (fqI σ 0 7)) + ((Int32.toInt64 (fqI σ 0 8)) * (Int32.toInt64 ((fqI σ 0 10) - (fqI σ 7 (Int32.toNatClampNeg x1))))))), (0, .ref (ad 0)), (1, .int x1)] dX9_boundOf_24 rfl (by decide) rfl ?_
  refine g_lload_n (pc := 25) E dX9_boundOf_25 0 rfl rfl ?_
  refine g_aload_n (pc := 26) E dX9_boundOf_26 1 rfl rfl ?_
  refine g_getfield (pc := 27) E uX9_boundOf_X9 0 (zm_l (by decide)) (fun _ _ => rfl) rfl 9 (by decide) wX9_boundOf_5 (.int (fqI σ 0 9)) rfl dX9_boundOf_27 ?_
  refine g_i2l (pc := 30) E dX9_boundOf_30 ?_
  refine g_lif_ge (pc := 31) E 39 dX9_boundOf_31 dX9_boundOf_32 (by decide) (fun c2 => ?_) (fun c2 => ?_)
  · replace hf := fq_t c2 hf
    refine g_aload_n (pc := 39) E dX9_boundOf_39 1 rfl rfl ?_
    refine g_getfield (pc := 40) E uX9_boundOf_X9 0 (zm_l (by decide)) (fun _ _ => rfl) rfl 9 (by decide) wX9_boundOf_5 (.int (fqI σ 0 9)) rfl dX9_boundOf_40 ?_
    refine g_i2l (pc := 43) E dX9_boundOf_43 ?_
    exact hret _ _ _ _ dX9_boundOf_44 (congrArg (fun z => (z, σ)) (Option.some.inj hf))
  · replace hf := fq_f c2 hf
    refine g_lload_n (pc := 35) E dX9_boundOf_35 0 rfl rfl ?_
    refine g_goto (pc := 36) E 44 dX9_boundOf_36 (by decide) ?_
    exact hret _ _ _ _ dX9_boundOf_44 (congrArg (fun z => (z, σ)) (Option.some.inj hf))

/-! X9_bounds -/
theorem wX9_bounds_0 : Cond.constantLong RX9 162 (10000000) ∈ wsX9_bounds := by decide +kernel
theorem wX9_bounds_1 : Cond.constantLong RX9 109 (-1000000001) ∈ wsX9_bounds := by decide +kernel
theorem wX9_bounds_2 : Cond.fieldLink RX9 31 "FairQueueModel" "base" "I" ∈ wsX9_bounds := by decide +kernel
theorem uX9_bounds_X9 : ∀ w ∈ u_ws RX9 TX9 33, w ∈ wsX9_bounds := (fun _ h => List.mem_cons_of_mem _ (List.mem_append_right _ h))
theorem wX9_bounds_4 : Cond.fieldLink RX9 35 "FairQueueModel" "step" "I" ∈ wsX9_bounds := by decide +kernel
theorem wX9_bounds_5 : Cond.fieldLink RX9 39 "FairQueueModel" "top" "I" ∈ wsX9_bounds := by decide +kernel
theorem kcX9_bounds : yX9_bounds.cls = RX9 ∧ yX9_bounds.cls ≠ "java/lang/invoke/MethodHandle" ∧ yX9_bounds.cls ≠ "java/lang/invoke/VarHandle" ∧ (parseMethodDescriptor yX9_bounds.desc).map (fun d => d.parameters.length) = some 3 := by decide +kernel
def pX9_bounds (k n : Nat) (σ : fqS) (x1 : Int32) (x2 : Int32) (x3 : Int32) : Option (Int64 × fqS) :=
  ((pX9_in k n σ (Int32.toInt64 x1) (0 : Int64) (10000000 : Int64)).bind (fun r2 => (if r2 = 0 then (fqB2 (pX9_finding k n σ (-1000000001 : Int64)) (fun r5 σ6 => some (r5, σ6))) else ((pX9_in k n σ (Int32.toInt64 x2) (0 : Int64) (10000000 : Int64)).bind (fun r8 => (if r8 = 0 then (fqB2 (pX9_finding k n σ (-1000000001 : Int64)) (fun r11 σ12 => some (r11, σ12))) else ((pX9_in k n σ (Int32.toInt64 x3) (0 : Int64) (10000000 : Int64)).bind (fun r14 => (if r14 = 0 then (fqB2 (pX9_finding k n σ (-1000000001 : Int64)) (fun r23 σ24 => some (r23, σ24))) else (fqN (fqPI σ 0 7 x1) (fun σ16 => (fqN (fqPI σ16 0 8 x2) (fun σ18 => (fqN (fqPI σ18 0 9 x3) (fun σ20 => some ((1 : Int64), σ20))))))))))))))))
set_option maxRecDepth 100000 in
set_option maxHeartbeats 4000000 in
theorem qX9_bounds (l : Launch) (D : va_G) (cy : Nat → ClassId) (ad : Nat → Nat) (sz n : Nat) (σ : fqS) (k : Nat) (x1 : Int32) (x2 : Int32) (x3 : Int32) {r : Int64} {σ' : fqS} (hf : pX9_bounds k n σ x1 x2 x3 = some (r, σ')) : Met l yX9_bounds wsX9_bounds ({ frames := 1, cells := 0, slots := 0, locals := 25 } : Room) (fqPc (TM cy) ZM D cy ad sz n σ [.ref (ad 0), .int x1, .int x2, .int x3]) (fqQl (TM cy) ZM D ad sz n σ r σ') 0 0 (fqA (TM cy) ZM ad sz n σ) := by
  refine fq_enter_l (cc := cX9_bounds) (maxL := 4) (own := RX9) _ (by decide) rfl (Nat.le_of_ble_eq_true rfl) rfl (fun X E hret => ?_)
  unfold pX9_bounds at hf
  show fqG X (TM cy) ZM ad n 4 0 0 σ 0 [(0, .ref (ad 0)), (1, .int x1), (2, .int x2), (3, .int x3)] []
  refine g_iload_n (pc := 0) E dX9_bounds_0 1 rfl rfl ?_
  refine g_i2l (pc := 1) E dX9_bounds_1 ?_
  refine g_lconst (pc := 2) E (0 : Int64) dX9_bounds_2 (by decide) ?_
  refine g_ldc2_w (pc := 3) E dX9_bounds_3 wX9_bounds_0 ?_
  obtain ⟨r2, e1, hf⟩ := fq_b hf
  refine g_callSi (pc := 6) E [.long (Int32.toInt64 x1), .long (0 : Int64), .long (10000000 : Int64)] (fun l D sz => qX9_in l D cy ad sz n σ k (Int32.toInt64 x1) (0 : Int64) (10000000 : Int64) e1) gX9_bounds_X9_in rfl rfl rfl kcX9_in ⟨by decide, by decide⟩ rfl rfl (Nat.le_of_ble_eq_true rfl) dX9_bounds_6 ⟨by decide, by decide⟩ ?_
  refine g_if_eq (pc := 9) E 36 dX9_bounds_9 (by decide) (fun c3 => ?_) (fun c3 => ?_)
  · replace hf := fq_t c3 hf
    refine g_aload_n (pc := 36) E dX9_bounds_36 0 rfl rfl ?_
    refine g_ldc2_w (pc := 37) E dX9_bounds_37 wX9_bounds_1 ?_
    obtain ⟨r5, σ6, e4, hf⟩ := fq_b2 hf
    refine g_callVl (pc := 40) E 0 (zm_l (by decide)) (fun _ _ => rfl) rfl [.long (-1000000001 : Int64)] (fun l D sz => qX9_finding l D cy ad sz n σ k (-1000000001 : Int64) e4) gX9_bounds_X9_finding rfl rfl rfl kcX9_finding ⟨by decide, by decide⟩ rfl rfl (Nat.le_of_ble_eq_true rfl) dX9_bounds_40 ⟨by decide, by decide⟩ ?_
    exact hret _ _ _ _ dX9_bounds_43 (Option.some.inj hf)
  · replace hf := fq_f c3 hf
    refine g_iload_n (pc := 12) E dX9_bounds_12 2 rfl rfl ?_
    refine g_i2l (pc := 13) E dX9_bounds_13 ?_
    refine g_lconst (pc := 14) E (0 : Int64) dX9_bounds_14 (by decide) ?_
    refine g_ldc2_w (pc := 15) E dX9_bounds_15 wX9_bounds_0 ?_
    obtain ⟨r8, e7, hf⟩ := fq_b hf
    refine g_callSi (pc := 18) E [.long (Int32.toInt64 x2), .long (0 : Int64), .long (10000000 : Int64)] (fun l D sz => qX9_in l D cy ad sz n σ k (Int32.toInt64 x2) (0 : Int64) (10000000 : Int64) e7) gX9_bounds_X9_in rfl rfl rfl kcX9_in ⟨by decide, by decide⟩ rfl rfl (Nat.le_of_ble_eq_true rfl) dX9_bounds_18 ⟨by decide, by decide⟩ ?_
    refine g_if_eq (pc := 21) E 36 dX9_bounds_21 (by decide) (fun c9 => ?_) (fun c9 => ?_)
    · replace hf := fq_t c9 hf
      refine g_aload_n (pc := 36) E dX9_bounds_36 0 rfl rfl ?_
      refine g_ldc2_w (pc := 37) E dX9_bounds_37 wX9_bounds_1 ?_
      obtain ⟨r11, σ12, e10, hf⟩ := fq_b2 hf
      refine g_callVl (pc := 40) E 0 (zm_l (by decide)) (fun _ _ => rfl) rfl [.long (-1000000001 : Int64)] (fun l D sz => qX9_finding l D cy ad sz n σ k (-1000000001 : Int64) e10) gX9_bounds_X9_finding rfl rfl rfl kcX9_finding ⟨by decide, by decide⟩ rfl rfl (Nat.le_of_ble_eq_true rfl) dX9_bounds_40 ⟨by decide, by decide⟩ ?_
      exact hret _ _ _ _ dX9_bounds_43 (Option.some.inj hf)
    · replace hf := fq_f c9 hf
      refine g_iload_n (pc := 24) E dX9_bounds_24 3 rfl rfl ?_
      refine g_i2l (pc := 25) E dX9_bounds_25 ?_
      refine g_lconst (pc := 26) E (0 : Int64) dX9_bounds_26 (by decide) ?_
      refine g_ldc2_w (pc := 27) E dX9_bounds_27 wX9_bounds_0 ?_
      obtain ⟨r14, e13, hf⟩ := fq_b hf
      refine g_callSi (pc := 30) E [.long (Int32.toInt64 x3), .long (0 : Int64), .long (10000000 : Int64)] (fun l D sz => qX9_in l D cy ad sz n σ k (Int32.toInt64 x3) (0 : Int64) (10000000 : Int64) e13) gX9_bounds_X9_in rfl rfl rfl kcX9_in ⟨by decide, by decide⟩ rfl rfl (Nat.le_of_ble_eq_true rfl) dX9_bounds_30 ⟨by decide, by decide⟩ ?_
      refine g_if_ne (pc := 33) E 44 dX9_bounds_33 (by decide) (fun c15 => ?_) (fun c15 => ?_)
      · replace hf := fq_f c15 hf
        refine g_aload_n (pc := 44) E dX9_bounds_44 0 rfl rfl ?_
        refine g_iload_n (pc := 45) E dX9_bounds_45 1 rfl rfl ?_
        refine g_putI (pc := 46) E uX9_bounds_X9 tyX9 tyX9_ok nmX9 0 (zm_l (by decide)) (fun _ _ => rfl) rfl 7 (by decide) wX9_bounds_2 rfl rfl (Nat.le_of_ble_eq_true rfl) rfl dX9_bounds_46 ?_
        obtain ⟨σ16, e17, hf⟩ := fq_n hf
        refine g_sg e17 ?_
        refine g_aload_n (pc := 49) E dX9_bounds_49 0 rfl rfl ?_
        refine g_iload_n (pc := 50) E dX9_bounds_50 2 rfl rfl ?_
        refine g_putI (pc := 51) E uX9_bounds_X9 tyX9 tyX9_ok nmX9 0 (zm_l (by decide)) (fun _ _ => rfl) rfl 8 (by decide) wX9_bounds_4 rfl rfl (Nat.le_of_ble_eq_true rfl) rfl dX9_bounds_51 ?_
        obtain ⟨σ18, e19, hf⟩ := fq_n hf
        refine g_sg e19 ?_
        refine g_aload_n (pc := 54) E dX9_bounds_54 0 rfl rfl ?_
        refine g_iload_n (pc := 55) E dX9_bounds_55 3 rfl rfl ?_
        refine g_putI (pc := 56) E uX9_bounds_X9 tyX9 tyX9_ok nmX9 0 (zm_l (by decide)) (fun _ _ => rfl) rfl 9 (by decide) wX9_bounds_5 rfl rfl (Nat.le_of_ble_eq_true rfl) rfl dX9_bounds_56 ?_
        obtain ⟨σ20, e21, hf⟩ := fq_n hf
        refine g_sg e21 ?_
        refine g_lconst (pc := 59) E (1 : Int64) dX9_bounds_59 (by decide) ?_
        exact hret _ _ _ _ dX9_bounds_60 (Option.some.inj hf)
      · replace hf := fq_t c15 hf
        refine g_aload_n (pc := 36) E dX9_bounds_36 0 rfl rfl ?_
        refine g_ldc2_w (pc := 37) E dX9_bounds_37 wX9_bounds_1 ?_
        obtain ⟨r23, σ24, e22, hf⟩ := fq_b2 hf
        refine g_callVl (pc := 40) E 0 (zm_l (by decide)) (fun _ _ => rfl) rfl [.long (-1000000001 : Int64)] (fun l D sz => qX9_finding l D cy ad sz n σ k (-1000000001 : Int64) e22) gX9_bounds_X9_finding rfl rfl rfl kcX9_finding ⟨by decide, by decide⟩ rfl rfl (Nat.le_of_ble_eq_true rfl) dX9_bounds_40 ⟨by decide, by decide⟩ ?_
        exact hret _ _ _ _ dX9_bounds_43 (Option.some.inj hf)

/-! X9_layAside -/
theorem wX9_layAside_0 : Cond.fieldLink RX9 71 "FairQueueModel" "aside" "[J" ∈ wsX9_layAside := by decide +kernel
theorem uX9_layAside_X9 : ∀ w ∈ u_ws RX9 TX9 33, w ∈ wsX9_layAside := (fun _ h => List.mem_cons_of_mem _ (List.mem_append_right _ h))
theorem wX9_layAside_2 : Cond.fieldLink RX9 16 "FairQueueModel" "shares" "[J" ∈ wsX9_layAside := by decide +kernel
theorem kcX9_layAside : yX9_layAside.cls = RX9 ∧ yX9_layAside.cls ≠ "java/lang/invoke/MethodHandle" ∧ yX9_layAside.cls ≠ "java/lang/invoke/VarHandle" ∧ (parseMethodDescriptor yX9_layAside.desc).map (fun d => d.parameters.length) = some 0 := by decide +kernel
def pX9_layAside_L2b (k n : Nat) (rec : (Int32 × fqS) → Option fqS) (x1 : Int32) (σ : fqS) : Option fqS :=
  (if (112 : Int32) ≤ x1 then some σ else (if x1 < 0 ∨ 112 ≤ Int32.toNatClampNeg x1 then none else (fqN (fqPJ σ 14 (Int32.toNatClampNeg x1) (fqJ σ 3 (Int32.toNatClampNeg x1))) (fun σ3 => (rec ((x1 + (1 : Int32)), σ3))))))
def pX9_layAside_L2 (k n : Nat) : (Int32 × fqS) → Option fqS := fqL (fun rec (s : (Int32 × fqS)) => pX9_layAside_L2b k n rec s.1 s.2) k
def pX9_layAside (k n : Nat) (σ : fqS) : Option fqS :=
  (pX9_layAside_L2 k n ((0 : Int32), σ))
set_option maxRecDepth 100000 in
set_option maxHeartbeats 4000000 in
theorem tX9_layAside_L2 {k : Nat} {X : fqX} {cy : Nat → ClassId} {ad : Nat → Nat} {n : Nat} {σ' : fqS} (E : fqE X ({ frames := 0, cells := 0, slots := 0, locals := 0 } : Room) cy cX9_layAside 2 wsX9_layAside RX9) (hret : fqR_v X (TM cy) ZM ad n 2 cX9_layAside σ') : ∀ (s : (Int32 × fqS)), pX9_layAside_L2 k n s = some σ' → fqG X (TM cy) ZM ad n 2 0 0 (s.2) 2 [(0, .ref (ad 0)), (1, .int (s.1))] [] := by
  unfold pX9_layAside_L2
  refine fqL_run (P := fun (s : (Int32 × fqS)) => fqG X (TM cy) ZM ad n 2 0 0 (s.2) 2 [(0, .ref (ad 0)), (1, .int (s.1))] []) (fun rec s hrec hf => ?_) k
  obtain ⟨x1, σ⟩ := s
  have hf : pX9_layAside_L2b k n rec x1 σ = some σ' := hf
  unfold pX9_layAside_L2b at hf
  show fqG X (TM cy) ZM ad n 2 0 0 σ 2 [(0, .ref (ad 0)), (1, .int x1)] []
  refine g_iload_n (pc := 2) E dX9_layAside_2 1 rfl rfl ?_
  refine g_bipush (pc := 3) E (112 : Int32) dX9_layAside_3 (by decide) ?_
  refine g_icmp_ge (pc := 5) E 26 dX9_layAside_5 (by decide) (fun c1 => ?_) (fun c1 => ?_)
  · replace hf := fq_t c1 hf
    exact hret _ _ _ dX9_layAside_26 (Option.some.inj hf)
  · replace hf := fq_f c1 hf
    refine g_aload_n (pc := 8) E dX9_layAside_8 0 rfl rfl ?_
    refine g_getfield (pc := 9) E uX9_layAside_X9 0 (zm_l (by decide)) (fun _ _ => rfl) rfl 23 (by decide) wX9_layAside_0 (.ref (ad 14)) rfl dX9_layAside_9 ?_
    refine g_iload_n (pc := 12) E dX9_layAside_12 1 rfl rfl ?_
    refine g_aload_n (pc := 13) E dX9_layAside_13 0 rfl rfl ?_
    refine g_getfield (pc := 14) E uX9_layAside_X9 0 (zm_l (by decide)) (fun _ _ => rfl) rfl 3 (by decide) wX9_layAside_2 (.ref (ad 3)) rfl dX9_layAside_14 ?_
    refine g_iload_n (pc := 17) E dX9_layAside_17 1 rfl rfl ?_
    obtain ⟨h2, hf⟩ := fq_in hf
    refine g_laload (pc := 18) E 3 (zm_l (by decide)) (fun _ _ => rfl) h2 dX9_layAside_18 ?_
    refine g_lastore (pc := 19) E 14 (zm_l (by decide)) (fun _ _ => rfl) h2 dX9_layAside_19 ?_
    obtain ⟨σ3, e4, hf⟩ := fq_n hf
    refine g_sg e4 ?_
    refine g_iinc (pc := 20) E (x1 + (1 : Int32)) [(1, .int (x1 + (1 : Int32))), (0, .ref (ad 0))] dX9_layAside_20 1 rfl rfl (by decide) rfl ?_
    refine g_goto (pc := 23) E 2 dX9_layAside_23 (by decide) ?_
    refine g_lv [1, 0] rfl ?_
    exact hrec _ hf
set_option maxRecDepth 100000 in
set_option maxHeartbeats 4000000 in
theorem qX9_layAside (l : Launch) (D : va_G) (cy : Nat → ClassId) (ad : Nat → Nat) (sz n : Nat) (σ : fqS) (k : Nat) {σ' : fqS} (hf : pX9_layAside k n σ = some σ') : Met l yX9_layAside wsX9_layAside ({ frames := 0, cells := 0, slots := 0, locals := 0 } : Room) (fqPc (TM cy) ZM D cy ad sz n σ [.ref (ad 0)]) (fqQv (TM cy) ZM D ad sz n σ σ') 0 0 (fqA (TM cy) ZM ad sz n σ) := by
  refine fq_enter_v (cc := cX9_layAside) (maxL := 2) (own := RX9) _ (by decide) rfl (Nat.le_of_ble_eq_true rfl) rfl (fun X E hret => ?_)
  unfold pX9_layAside at hf
  show fqG X (TM cy) ZM ad n 2 0 0 σ 0 [(0, .ref (ad 0))] []
  refine g_iconst (pc := 0) E (0 : Int32) dX9_layAside_0 (by decide) ?_
  refine g_istore_n (pc := 1) E [(1, .int (0 : Int32)), (0, .ref (ad 0))] dX9_layAside_1 rfl (by decide) rfl ?_
  refine g_lv [1, 0] rfl ?_
  exact tX9_layAside_L2 E hret _ hf

/-! X9_ones -/
theorem kcX9_ones : yX9_ones.cls ≠ "java/lang/invoke/MethodHandle" ∧ yX9_ones.cls ≠ "java/lang/invoke/VarHandle" ∧ (parseMethodDescriptor yX9_ones.desc).map (fun d => d.parameters.length) = some 1 := by decide +kernel
def pX9_ones_L4b (k n : Nat) (σ : fqS) (x0 : Int32) (rec : (Int32 × Int32) → Option Int32) (x1 : Int32) (x2 : Int32) : Option Int32 :=
  (if (16 : Int32) ≤ x2 then some x1 else (rec ((x1 + ((x0 >>> (x2 &&& 31)) &&& (1 : Int32))), (x2 + (1 : Int32)))))
def pX9_ones_L4 (k n : Nat) (σ : fqS) (x0 : Int32) : (Int32 × Int32) → Option Int32 := fqL (fun rec (s : (Int32 × Int32)) => pX9_ones_L4b k n σ x0 rec s.1 s.2) k
def pX9_ones (k n : Nat) (σ : fqS) (x0 : Int32) : Option Int32 :=
  (pX9_ones_L4 k n σ x0 ((0 : Int32), (0 : Int32)))
set_option maxRecDepth 100000 in
set_option maxHeartbeats 4000000 in
theorem tX9_ones_L4 {k : Nat} {X : fqX} {cy : Nat → ClassId} {ad : Nat → Nat} {n : Nat} {σ : fqS} {r : Int32} {x0 : Int32} (E : fqE X ({ frames := 0, cells := 0, slots := 0, locals := 0 } : Room) cy cX9_ones 3 wsX9_ones RX9) (hret : fqR_i X (TM cy) ZM ad n 3 cX9_ones r σ) : ∀ (s : (Int32 × Int32)), pX9_ones_L4 k n σ x0 s = some r → fqG X (TM cy) ZM ad n 3 0 0 σ 4 [(0, .int x0), (1, .int (s.1)), (2, .int (s.2))] [] := by
  unfold pX9_ones_L4
  refine fqL_run (P := fun (s : (Int32 × Int32)) => fqG X (TM cy) ZM ad n 3 0 0 σ 4 [(0, .int x0), (1, .int (s.1)), (2, .int (s.2))] []) (fun rec s hrec hf => ?_) k
  obtain ⟨x1, x2⟩ := s
  have hf : pX9_ones_L4b k n σ x0 rec x1 x2 = some r := hf
  unfold pX9_ones_L4b at hf
  show fqG X (TM cy) ZM ad n 3 0 0 σ 4 [(0, .int x0), (1, .int x1), (2, .int x2)] []
  refine g_iload_n (pc := 4) E dX9_ones_4 2 rfl rfl ?_
  refine g_bipush (pc := 5) E (16 : Int32) dX9_ones_5 (by decide) ?_
  refine g_icmp_ge (pc := 7) E 24 dX9_ones_7 (by decide) (fun c1 => ?_) (fun c1 => ?_)
  · replace hf := fq_t c1 hf
    refine g_iload_n (pc := 24) E dX9_ones_24 1 rfl rfl ?_
    exact hret _ _ _ _ dX9_ones_25 (congrArg (fun z => (z, σ)) (Option.some.inj hf))
  · replace hf := fq_f c1 hf
    refine g_iload_n (pc := 10) E dX9_ones_10 1 rfl rfl ?_
    refine g_iload_n (pc := 11) E dX9_ones_11 0 rfl rfl ?_
    refine g_iload_n (pc := 12) E dX9_ones_12 2 rfl rfl ?_
    refine g_ishr (pc := 13) E dX9_ones_13 ?_
    refine g_iconst (pc := 14) E (1 : Int32) dX9_ones_14 (by decide) ?_
    refine g_iand (pc := 15) E dX9_ones_15 ?_
    refine g_iadd (pc := 16) E dX9_ones_16 ?_
    refine g_istore_n (pc := 17) E [(1, .int (x1 + ((x0 >>> (x2 &&& 31)) &&& (1 : Int32)))), (0, .int x0), (2, .int x2)] dX9_ones_17 rfl (by decide) rfl ?_
    refine g_iinc (pc := 18) E (x2 + (1 : Int32)) [(2, .int (x2 + (1 : Int32))), (1, .int (x1 + ((x0 >>> (x2 &&& 31)) &&& (1 : Int32)))), (0, .int x0)] dX9_ones_18 2 rfl rfl (by decide) rfl ?_
    refine g_goto (pc := 21) E 4 dX9_ones_21 (by decide) ?_
    refine g_lv [2, 1, 0] rfl ?_
    exact hrec _ hf
set_option maxRecDepth 100000 in
set_option maxHeartbeats 4000000 in
theorem qX9_ones (l : Launch) (D : va_G) (cy : Nat → ClassId) (ad : Nat → Nat) (sz n : Nat) (σ : fqS) (k : Nat) (x0 : Int32) {r : Int32} (hf : pX9_ones k n σ x0 = some r) : Met l yX9_ones wsX9_ones ({ frames := 0, cells := 0, slots := 0, locals := 0 } : Room) (fqPc (TM cy) ZM D cy ad sz n σ [.int x0]) (fqQi (TM cy) ZM D ad sz n σ r σ) 0 0 (fqA (TM cy) ZM ad sz n σ) := by
  refine fq_enter_i (cc := cX9_ones) (maxL := 3) (own := RX9) _ (by decide) rfl (Nat.le_of_ble_eq_true rfl) rfl (fun X E hret => ?_)
  unfold pX9_ones at hf
  show fqG X (TM cy) ZM ad n 3 0 0 σ 0 [(0, .int x0)] []
  refine g_iconst (pc := 0) E (0 : Int32) dX9_ones_0 (by decide) ?_
  refine g_istore_n (pc := 1) E [(1, .int (0 : Int32)), (0, .int x0)] dX9_ones_1 rfl (by decide) rfl ?_
  refine g_iconst (pc := 2) E (0 : Int32) dX9_ones_2 (by decide) ?_
  refine g_istore_n (pc := 3) E [(2, .int (0 : Int32)), (1, .int (0 : Int32)), (0, .int x0)] dX9_ones_3 rfl (by decide) rfl ?_
  refine g_lv [2, 1, 0] rfl ?_
  exact tX9_ones_L4 E hret _ hf

/-! X9_chanceAt -/
theorem wX9_chanceAt_0 : Cond.fieldLink RX9 94 "FairQueueModel" "players" "I" ∈ wsX9_chanceAt := by decide +kernel
theorem uX9_chanceAt_X9 : ∀ w ∈ u_ws RX9 TX9 33, w ∈ wsX9_chanceAt := (fun _ h => List.mem_cons_of_mem _ (List.mem_append_right _ h))
theorem wX9_chanceAt_2 : Cond.constantLong RX9 133 (1000) ∈ wsX9_chanceAt := by decide +kernel
theorem wX9_chanceAt_3 : Cond.fieldLink RX9 71 "FairQueueModel" "aside" "[J" ∈ wsX9_chanceAt := by decide +kernel
theorem kcX9_chanceAt : yX9_chanceAt.cls = RX9 ∧ yX9_chanceAt.cls ≠ "java/lang/invoke/MethodHandle" ∧ yX9_chanceAt.cls ≠ "java/lang/invoke/VarHandle" ∧ (parseMethodDescriptor yX9_chanceAt.desc).map (fun d => d.parameters.length) = some 2 := by decide +kernel
def pX9_chanceAt_L17b (k n : Nat) (σ : fqS) (x1 : Int32) (x2 : Int32) (x5 : Int32) (rec5 : (Int64 × Int32) → Option Int64) (rec : (Int64 × Int32) → Option Int64) (x3 : Int64) (x6 : Int32) : Option Int64 :=
  (if (7 : Int32) ≤ x6 then (rec5 (x3, (x5 + (1 : Int32)))) else (if ((x2 >>> (x5 &&& 31)) &&& (1 : Int32)) = (1 : Int32) then (if (((7 : Int32) * x5) + x6) < 0 ∨ 112 ≤ Int32.toNatClampNeg (((7 : Int32) * x5) + x6) then none else (rec ((x3 + ((fqJ σ 14 (Int32.toNatClampNeg (((7 : Int32) * x5) + x6))) * (Int32.toInt64 ((500 : Int32) + ((70 : Int32) * (x1 - x6)))))), (x6 + (1 : Int32))))) else (rec5 (x3, (x5 + (1 : Int32))))))
def pX9_chanceAt_L17 (k n : Nat) (σ : fqS) (x1 : Int32) (x2 : Int32) (x5 : Int32) (rec5 : (Int64 × Int32) → Option Int64) : (Int64 × Int32) → Option Int64 := fqL (fun rec (s : (Int64 × Int32)) => pX9_chanceAt_L17b k n σ x1 x2 x5 rec5 rec s.1 s.2) k
def pX9_chanceAt_L5b (k n : Nat) (σ : fqS) (x1 : Int32) (x2 : Int32) (rec : (Int64 × Int32) → Option Int64) (x3 : Int64) (x5 : Int32) : Option Int64 :=
  (if (fqI σ 0 1) ≤ x5 then ((pX9_ones k n σ x2).bind (fun r3 => (if ((1000 : Int64) * (Int32.toInt64 r3)) = 0 then none else some (x3 / ((1000 : Int64) * (Int32.toInt64 r3)))))) else (pX9_chanceAt_L17 k n σ x1 x2 x5 rec (x3, (0 : Int32))))
def pX9_chanceAt_L5 (k n : Nat) (σ : fqS) (x1 : Int32) (x2 : Int32) : (Int64 × Int32) → Option Int64 := fqL (fun rec (s : (Int64 × Int32)) => pX9_chanceAt_L5b k n σ x1 x2 rec s.1 s.2) k
def pX9_chanceAt (k n : Nat) (σ : fqS) (x1 : Int32) (x2 : Int32) : Option Int64 :=
  (pX9_chanceAt_L5 k n σ x1 x2 ((0 : Int64), (0 : Int32)))
set_option maxRecDepth 100000 in
set_option maxHeartbeats 4000000 in
theorem tX9_chanceAt_L17 {k : Nat} {X : fqX} {cy : Nat → ClassId} {ad : Nat → Nat} {n : Nat} {σ : fqS} {r : Int64} {x1 : Int32} {x2 : Int32} {x5 : Int32} (E : fqE X ({ frames := 1, cells := 0, slots := 0, locals := 22 } : Room) cy cX9_chanceAt 7 wsX9_chanceAt RX9) (hret : fqR_l X (TM cy) ZM ad n 7 cX9_chanceAt r σ) {rec5 : (Int64 × Int32) → Option Int64} (hrec5 : ∀ (s : (Int64 × Int32)), rec5 s = some r → fqG X (TM cy) ZM ad n 7 0 0 σ 5 [(0, .ref (ad 0)), (1, .int x1), (2, .int x2), (3, .long (s.1)), (5, .int (s.2))] []) : ∀ (s : (Int64 × Int32)), pX9_chanceAt_L17 k n σ x1 x2 x5 rec5 s = some r → fqG X (TM cy) ZM ad n 7 0 0 σ 17 [(0, .ref (ad 0)), (1, .int x1), (2, .int x2), (3, .long (s.1)), (5, .int x5), (6, .int (s.2))] [] := by
  unfold pX9_chanceAt_L17
  refine fqL_run (P := fun (s : (Int64 × Int32)) => fqG X (TM cy) ZM ad n 7 0 0 σ 17 [(0, .ref (ad 0)), (1, .int x1), (2, .int x2), (3, .long (s.1)), (5, .int x5), (6, .int (s.2))] []) (fun rec s hrec hf => ?_) k
  obtain ⟨x3, x6⟩ := s
  have hf : pX9_chanceAt_L17b k n σ x1 x2 x5 rec5 rec x3 x6 = some r := hf
  unfold pX9_chanceAt_L17b at hf
  show fqG X (TM cy) ZM ad n 7 0 0 σ 17 [(0, .ref (ad 0)), (1, .int x1), (2, .int x2), (3, .long x3), (5, .int x5), (6, .int x6)] []
  refine g_iload (pc := 17) E dX9_chanceAt_17 5 rfl ?_
  refine g_bipush (pc := 19) E (7 : Int32) dX9_chanceAt_19 (by decide) ?_
  refine g_icmp_ge (pc := 21) E 69 dX9_chanceAt_21 (by decide) (fun c5 => ?_) (fun c5 => ?_)
  · replace hf := fq_t c5 hf
    refine g_iinc (pc := 69) E (x5 + (1 : Int32)) [(5, .int (x5 + (1 : Int32))), (0, .ref (ad 0)), (1, .int x1), (2, .int x2), (3, .long x3), (6, .int x6)] dX9_chanceAt_69 4 rfl rfl (by decide) rfl ?_
    refine g_goto (pc := 72) E 5 dX9_chanceAt_72 (by decide) ?_
    refine g_lv [1, 2, 3, 4, 0] rfl ?_
    exact hrec5 _ hf
  · replace hf := fq_f c5 hf
    refine g_iload_n (pc := 24) E dX9_chanceAt_24 2 rfl rfl ?_
    refine g_iload (pc := 25) E dX9_chanceAt_25 4 rfl ?_
    refine g_ishr (pc := 27) E dX9_chanceAt_27 ?_
    refine g_iconst (pc := 28) E (1 : Int32) dX9_chanceAt_28 (by decide) ?_
    refine g_iand (pc := 29) E dX9_chanceAt_29 ?_
    refine g_iconst (pc := 30) E (1 : Int32) dX9_chanceAt_30 (by decide) ?_
    refine g_icmp_ne (pc := 31) E 69 dX9_chanceAt_31 (by decide) (fun c6 => ?_) (fun c6 => ?_)
    · replace hf := fq_f c6 hf
      refine g_iinc (pc := 69) E (x5 + (1 : Int32)) [(5, .int (x5 + (1 : Int32))), (0, .ref (ad 0)), (1, .int x1), (2, .int x2), (3, .long x3), (6, .int x6)] dX9_chanceAt_69 4 rfl rfl (by decide) rfl ?_
      refine g_goto (pc := 72) E 5 dX9_chanceAt_72 (by decide) ?_
      refine g_lv [1, 2, 3, 4, 0] rfl ?_
      exact hrec5 _ hf
    · replace hf := fq_t c6 hf
      refine g_lload_n (pc := 34) E dX9_chanceAt_34 3 rfl rfl ?_
      refine g_aload_n (pc := 35) E dX9_chanceAt_35 0 rfl rfl ?_
      refine g_getfield (pc := 36) E uX9_chanceAt_X9 0 (zm_l (by decide)) (fun _ _ => rfl) rfl 23 (by decide) wX9_chanceAt_3 (.ref (ad 14)) rfl dX9_chanceAt_36 ?_
      refine g_bipush (pc := 39) E (7 : Int32) dX9_chanceAt_39 (by decide) ?_
      refine g_iload (pc := 41) E dX9_chanceAt_41 4 rfl ?_
      refine g_imul (pc := 43) E dX9_chanceAt_43 ?_
      refine g_iload (pc := 44) E dX9_chanceAt_44 5 rfl ?_
      refine g_iadd (pc := 46) E dX9_chanceAt_46 ?_
      obtain ⟨h7, hf⟩ := fq_in hf
      refine g_laload (pc := 47) E 14 (zm_l (by decide)) (fun _ _ => rfl) h7 dX9_chanceAt_47 ?_
      refine g_sipush (pc := 48) E (500 : Int32) dX9_chanceAt_48 (by decide) ?_
      refine g_bipush (pc := 51) E (70 : Int32) dX9_chanceAt_51 (by decide) ?_
      refine g_iload_n (pc := 53) E dX9_chanceAt_53 1 rfl rfl ?_
      refine g_iload (pc := 54) E dX9_chanceAt_54 5 rfl ?_
      refine g_isub (pc := 56) E dX9_chanceAt_56 ?_
      refine g_imul (pc := 57) E dX9_chanceAt_57 ?_
      refine g_iadd (pc := 58) E dX9_chanceAt_58 ?_
      refine g_i2l (pc := 59) E dX9_chanceAt_59 ?_
      refine g_lmul (pc := 60) E dX9_chanceAt_60 ?_
      refine g_ladd (pc := 61) E dX9_chanceAt_61 ?_
      refine g_lstore_n (pc := 62) E [(3, .long (x3 + ((fqJ σ 14 (Int32.toNatClampNeg (((7 : Int32) * x5) + x6))) * (Int32.toInt64 ((500 : Int32) + ((70 : Int32) * (x1 - x6))))))), (0, .ref (ad 0)), (1, .int x1), (2, .int x2), (5, .int x5), (6, .int x6)] dX9_chanceAt_62 rfl (by decide) rfl ?_
      refine g_iinc (pc := 63) E (x6 + (1 : Int32)) [(6, .int (x6 + (1 : Int32))), (3, .long (x3 + ((fqJ σ 14 (Int32.toNatClampNeg (((7 : Int32) * x5) + x6))) * (Int32.toInt64 ((500 : Int32) + ((70 : Int32) * (x1 - x6))))))), (0, .ref (ad 0)), (1, .int x1), (2, .int x2), (5, .int x5)] dX9_chanceAt_63 5 rfl rfl (by decide) rfl ?_
      refine g_goto (pc := 66) E 17 dX9_chanceAt_66 (by decide) ?_
      refine g_lv [2, 3, 4, 1, 5, 0] rfl ?_
      exact hrec _ hf
set_option maxRecDepth 100000 in
set_option maxHeartbeats 4000000 in
theorem tX9_chanceAt_L5 {k : Nat} {X : fqX} {cy : Nat → ClassId} {ad : Nat → Nat} {n : Nat} {σ : fqS} {r : Int64} {x1 : Int32} {x2 : Int32} (E : fqE X ({ frames := 1, cells := 0, slots := 0, locals := 22 } : Room) cy cX9_chanceAt 7 wsX9_chanceAt RX9) (hret : fqR_l X (TM cy) ZM ad n 7 cX9_chanceAt r σ) : ∀ (s : (Int64 × Int32)), pX9_chanceAt_L5 k n σ x1 x2 s = some r → fqG X (TM cy) ZM ad n 7 0 0 σ 5 [(0, .ref (ad 0)), (1, .int x1), (2, .int x2), (3, .long (s.1)), (5, .int (s.2))] [] := by
  unfold pX9_chanceAt_L5
  refine fqL_run (P := fun (s : (Int64 × Int32)) => fqG X (TM cy) ZM ad n 7 0 0 σ 5 [(0, .ref (ad 0)), (1, .int x1), (2, .int x2), (3, .long (s.1)), (5, .int (s.2))] []) (fun rec s hrec hf => ?_) k
  obtain ⟨x3, x5⟩ := s
  have hf : pX9_chanceAt_L5b k n σ x1 x2 rec x3 x5 = some r := hf
  unfold pX9_chanceAt_L5b at hf
  show fqG X (TM cy) ZM ad n 7 0 0 σ 5 [(0, .ref (ad 0)), (1, .int x1), (2, .int x2), (3, .long x3), (5, .int x5)] []
  refine g_iload (pc := 5) E dX9_chanceAt_5 4 rfl ?_
  refine g_aload_n (pc := 7) E dX9_chanceAt_7 0 rfl rfl ?_
  refine g_getfield (pc := 8) E uX9_chanceAt_X9 0 (zm_l (by decide)) (fun _ _ => rfl) rfl 1 (by decide) wX9_chanceAt_0 (.int (fqI σ 0 1)) rfl dX9_chanceAt_8 ?_
  refine g_icmp_ge (pc := 11) E 75 dX9_chanceAt_11 (by decide) (fun c1 => ?_) (fun c1 => ?_)
  · replace hf := fq_t c1 hf
    refine g_lload_n (pc := 75) E dX9_chanceAt_75 3 rfl rfl ?_
    refine g_ldc2_w (pc := 76) E dX9_chanceAt_76 wX9_chanceAt_2 ?_
    refine g_iload_n (pc := 79) E dX9_chanceAt_79 2 rfl rfl ?_
    obtain ⟨r3, e2, hf⟩ := fq_b hf
    refine g_callSi (pc := 80) E [.int x2] (fun l D sz => qX9_ones l D cy ad sz n σ k x2 e2) gX9_chanceAt_X9_ones rfl rfl rfl kcX9_ones ⟨by decide, by decide⟩ rfl rfl (Nat.le_of_ble_eq_true rfl) dX9_chanceAt_80 ⟨by decide, by decide⟩ ?_
    refine g_i2l (pc := 83) E dX9_chanceAt_83 ?_
    refine g_lmul (pc := 84) E dX9_chanceAt_84 ?_
    obtain ⟨h4, hf⟩ := fq_z hf
    refine g_ldiv (pc := 85) E dX9_chanceAt_85 h4 ?_
    exact hret _ _ _ _ dX9_chanceAt_86 (congrArg (fun z => (z, σ)) (Option.some.inj hf))
  · replace hf := fq_f c1 hf
    refine g_iconst (pc := 14) E (0 : Int32) dX9_chanceAt_14 (by decide) ?_
    refine g_istore (pc := 15) E [(6, .int (0 : Int32)), (0, .ref (ad 0)), (1, .int x1), (2, .int x2), (3, .long x3), (5, .int x5)] dX9_chanceAt_15 (by decide) rfl ?_
    refine g_lv [1, 2, 3, 4, 5, 0] rfl ?_
    exact tX9_chanceAt_L17 E hret hrec _ hf
set_option maxRecDepth 100000 in
set_option maxHeartbeats 4000000 in
theorem qX9_chanceAt (l : Launch) (D : va_G) (cy : Nat → ClassId) (ad : Nat → Nat) (sz n : Nat) (σ : fqS) (k : Nat) (x1 : Int32) (x2 : Int32) {r : Int64} (hf : pX9_chanceAt k n σ x1 x2 = some r) : Met l yX9_chanceAt wsX9_chanceAt ({ frames := 1, cells := 0, slots := 0, locals := 22 } : Room) (fqPc (TM cy) ZM D cy ad sz n σ [.ref (ad 0), .int x1, .int x2]) (fqQl (TM cy) ZM D ad sz n σ r σ) 0 0 (fqA (TM cy) ZM ad sz n σ) := by
  refine fq_enter_l (cc := cX9_chanceAt) (maxL := 7) (own := RX9) _ (by decide) rfl (Nat.le_of_ble_eq_true rfl) rfl (fun X E hret => ?_)
  unfold pX9_chanceAt at hf
  show fqG X (TM cy) ZM ad n 7 0 0 σ 0 [(0, .ref (ad 0)), (1, .int x1), (2, .int x2)] []
  refine g_lconst (pc := 0) E (0 : Int64) dX9_chanceAt_0 (by decide) ?_
  refine g_lstore_n (pc := 1) E [(3, .long (0 : Int64)), (0, .ref (ad 0)), (1, .int x1), (2, .int x2)] dX9_chanceAt_1 rfl (by decide) rfl ?_
  refine g_iconst (pc := 2) E (0 : Int32) dX9_chanceAt_2 (by decide) ?_
  refine g_istore (pc := 3) E [(5, .int (0 : Int32)), (3, .long (0 : Int64)), (0, .ref (ad 0)), (1, .int x1), (2, .int x2)] dX9_chanceAt_3 (by decide) rfl ?_
  refine g_lv [2, 3, 4, 1, 0] rfl ?_
  exact tX9_chanceAt_L5 E hret _ hf

/-! X9_chanceOf -/
theorem wX9_chanceOf_0 : Cond.constantLong RX9 143 (1000000) ∈ wsX9_chanceOf := by decide +kernel
theorem wX9_chanceOf_1 : Cond.fieldLink RX9 71 "FairQueueModel" "aside" "[J" ∈ wsX9_chanceOf := by decide +kernel
theorem uX9_chanceOf_X9 : ∀ w ∈ u_ws RX9 TX9 33, w ∈ wsX9_chanceOf := (fun _ h => List.mem_cons_of_mem _ (List.mem_append_right _ h))
theorem kcX9_chanceOf : yX9_chanceOf.cls = RX9 ∧ yX9_chanceOf.cls ≠ "java/lang/invoke/MethodHandle" ∧ yX9_chanceOf.cls ≠ "java/lang/invoke/VarHandle" ∧ (parseMethodDescriptor yX9_chanceOf.desc).map (fun d => d.parameters.length) = some 2 := by decide +kernel
def pX9_chanceOf_L5b (k n : Nat) (σ : fqS) (x1 : Int32) (x2 : Int32) (rec : (Int64 × Int32) → Option Int64) (x3 : Int64) (x5 : Int32) : Option Int64 :=
  (if (7 : Int32) ≤ x5 then some (x3 / (1000000 : Int64)) else (if (((7 : Int32) * x1) + x5) < 0 ∨ 112 ≤ Int32.toNatClampNeg (((7 : Int32) * x1) + x5) then none else ((pX9_chanceAt k n σ x5 x2).bind (fun r4 => (rec ((x3 + ((fqJ σ 14 (Int32.toNatClampNeg (((7 : Int32) * x1) + x5))) * r4)), (x5 + (1 : Int32))))))))
def pX9_chanceOf_L5 (k n : Nat) (σ : fqS) (x1 : Int32) (x2 : Int32) : (Int64 × Int32) → Option Int64 := fqL (fun rec (s : (Int64 × Int32)) => pX9_chanceOf_L5b k n σ x1 x2 rec s.1 s.2) k
def pX9_chanceOf (k n : Nat) (σ : fqS) (x1 : Int32) (x2 : Int32) : Option Int64 :=
  (pX9_chanceOf_L5 k n σ x1 x2 ((0 : Int64), (0 : Int32)))
set_option maxRecDepth 100000 in
set_option maxHeartbeats 4000000 in
theorem tX9_chanceOf_L5 {k : Nat} {X : fqX} {cy : Nat → ClassId} {ad : Nat → Nat} {n : Nat} {σ : fqS} {r : Int64} {x1 : Int32} {x2 : Int32} (E : fqE X ({ frames := 2, cells := 0, slots := 0, locals := 48 } : Room) cy cX9_chanceOf 6 wsX9_chanceOf RX9) (hret : fqR_l X (TM cy) ZM ad n 6 cX9_chanceOf r σ) : ∀ (s : (Int64 × Int32)), pX9_chanceOf_L5 k n σ x1 x2 s = some r → fqG X (TM cy) ZM ad n 6 0 0 σ 5 [(0, .ref (ad 0)), (1, .int x1), (2, .int x2), (3, .long (s.1)), (5, .int (s.2))] [] := by
  unfold pX9_chanceOf_L5
  refine fqL_run (P := fun (s : (Int64 × Int32)) => fqG X (TM cy) ZM ad n 6 0 0 σ 5 [(0, .ref (ad 0)), (1, .int x1), (2, .int x2), (3, .long (s.1)), (5, .int (s.2))] []) (fun rec s hrec hf => ?_) k
  obtain ⟨x3, x5⟩ := s
  have hf : pX9_chanceOf_L5b k n σ x1 x2 rec x3 x5 = some r := hf
  unfold pX9_chanceOf_L5b at hf
  show fqG X (TM cy) ZM ad n 6 0 0 σ 5 [(0, .ref (ad 0)), (1, .int x1), (2, .int x2), (3, .long x3), (5, .int x5)] []
  refine g_iload (pc := 5) E dX9_chanceOf_5 4 rfl ?_
  refine g_bipush (pc := 7) E (7 : Int32) dX9_chanceOf_7 (by decide) ?_
  refine g_icmp_ge (pc := 9) E 41 dX9_chanceOf_9 (by decide) (fun c1 => ?_) (fun c1 => ?_)
  · replace hf := fq_t c1 hf
    refine g_lload_n (pc := 41) E dX9_chanceOf_41 3 rfl rfl ?_
    refine g_ldc2_w (pc := 42) E dX9_chanceOf_42 wX9_chanceOf_0 ?_
    refine g_ldiv (pc := 45) E dX9_chanceOf_45 (by decide) ?_
    exact hret _ _ _ _ dX9_chanceOf_46 (congrArg (fun z => (z, σ)) (Option.some.inj hf))
  · replace hf := fq_f c1 hf
    refine g_lload_n (pc := 12) E dX9_chanceOf_12 3 rfl rfl ?_
    refine g_aload_n (pc := 13) E dX9_chanceOf_13 0 rfl rfl ?_
    refine g_getfield (pc := 14) E uX9_chanceOf_X9 0 (zm_l (by decide)) (fun _ _ => rfl) rfl 23 (by decide) wX9_chanceOf_1 (.ref (ad 14)) rfl dX9_chanceOf_14 ?_
    refine g_bipush (pc := 17) E (7 : Int32) dX9_chanceOf_17 (by decide) ?_
    refine g_iload_n (pc := 19) E dX9_chanceOf_19 1 rfl rfl ?_
    refine g_imul (pc := 20) E dX9_chanceOf_20 ?_
    refine g_iload (pc := 21) E dX9_chanceOf_21 4 rfl ?_
    refine g_iadd (pc := 23) E dX9_chanceOf_23 ?_
    obtain ⟨h2, hf⟩ := fq_in hf
    refine g_laload (pc := 24) E 14 (zm_l (by decide)) (fun _ _ => rfl) h2 dX9_chanceOf_24 ?_
    refine g_aload_n (pc := 25) E dX9_chanceOf_25 0 rfl rfl ?_
    refine g_iload (pc := 26) E dX9_chanceOf_26 4 rfl ?_
    refine g_iload_n (pc := 28) E dX9_chanceOf_28 2 rfl rfl ?_
    obtain ⟨r4, e3, hf⟩ := fq_b hf
    refine g_callVl (pc := 29) E 0 (zm_l (by decide)) (fun _ _ => rfl) rfl [.int x5, .int x2] (fun l D sz => qX9_chanceAt l D cy ad sz n σ k x5 x2 e3) gX9_chanceOf_X9_chanceAt rfl rfl rfl kcX9_chanceAt ⟨by decide, by decide⟩ rfl rfl (Nat.le_of_ble_eq_true rfl) dX9_chanceOf_29 ⟨by decide, by decide⟩ ?_
    refine g_lmul (pc := 32) E dX9_chanceOf_32 ?_
    refine g_ladd (pc := 33) E dX9_chanceOf_33 ?_
    refine g_lstore_n (pc := 34) E [(3, .long (x3 + ((fqJ σ 14 (Int32.toNatClampNeg (((7 : Int32) * x1) + x5))) * r4))), (0, .ref (ad 0)), (1, .int x1), (2, .int x2), (5, .int x5)] dX9_chanceOf_34 rfl (by decide) rfl ?_
    refine g_iinc (pc := 35) E (x5 + (1 : Int32)) [(5, .int (x5 + (1 : Int32))), (3, .long (x3 + ((fqJ σ 14 (Int32.toNatClampNeg (((7 : Int32) * x1) + x5))) * r4))), (0, .ref (ad 0)), (1, .int x1), (2, .int x2)] dX9_chanceOf_35 4 rfl rfl (by decide) rfl ?_
    refine g_goto (pc := 38) E 5 dX9_chanceOf_38 (by decide) ?_
    refine g_lv [2, 3, 4, 1, 0] rfl ?_
    exact hrec _ hf
set_option maxRecDepth 100000 in
set_option maxHeartbeats 4000000 in
theorem qX9_chanceOf (l : Launch) (D : va_G) (cy : Nat → ClassId) (ad : Nat → Nat) (sz n : Nat) (σ : fqS) (k : Nat) (x1 : Int32) (x2 : Int32) {r : Int64} (hf : pX9_chanceOf k n σ x1 x2 = some r) : Met l yX9_chanceOf wsX9_chanceOf ({ frames := 2, cells := 0, slots := 0, locals := 48 } : Room) (fqPc (TM cy) ZM D cy ad sz n σ [.ref (ad 0), .int x1, .int x2]) (fqQl (TM cy) ZM D ad sz n σ r σ) 0 0 (fqA (TM cy) ZM ad sz n σ) := by
  refine fq_enter_l (cc := cX9_chanceOf) (maxL := 6) (own := RX9) _ (by decide) rfl (Nat.le_of_ble_eq_true rfl) rfl (fun X E hret => ?_)
  unfold pX9_chanceOf at hf
  show fqG X (TM cy) ZM ad n 6 0 0 σ 0 [(0, .ref (ad 0)), (1, .int x1), (2, .int x2)] []
  refine g_lconst (pc := 0) E (0 : Int64) dX9_chanceOf_0 (by decide) ?_
  refine g_lstore_n (pc := 1) E [(3, .long (0 : Int64)), (0, .ref (ad 0)), (1, .int x1), (2, .int x2)] dX9_chanceOf_1 rfl (by decide) rfl ?_
  refine g_iconst (pc := 2) E (0 : Int32) dX9_chanceOf_2 (by decide) ?_
  refine g_istore (pc := 3) E [(5, .int (0 : Int32)), (3, .long (0 : Int64)), (0, .ref (ad 0)), (1, .int x1), (2, .int x2)] dX9_chanceOf_3 (by decide) rfl ?_
  refine g_lv [2, 3, 4, 1, 0] rfl ?_
  exact tX9_chanceOf_L5 E hret _ hf

/-! X9_chance -/
theorem wX9_chance_0 : Cond.constantLong RX9 109 (-1000000001) ∈ wsX9_chance := by decide +kernel
theorem kcX9_chance : yX9_chance.cls = RX9 ∧ yX9_chance.cls ≠ "java/lang/invoke/MethodHandle" ∧ yX9_chance.cls ≠ "java/lang/invoke/VarHandle" ∧ (parseMethodDescriptor yX9_chance.desc).map (fun d => d.parameters.length) = some 2 := by decide +kernel
def pX9_chance (k n : Nat) (σ : fqS) (x1 : Int32) (x2 : Int32) : Option (Int64 × fqS) :=
  ((pX9_isPlayer k n σ x1).bind (fun r2 => (if r2 = 0 then (fqB2 (pX9_finding k n σ (-1000000001 : Int64)) (fun r5 σ6 => some (r5, σ6))) else ((pX9_isPlayer k n σ x2).bind (fun r8 => (if r8 = 0 then (fqB2 (pX9_finding k n σ (-1000000001 : Int64)) (fun r11 σ12 => some (r11, σ12))) else (if x1 = x2 then (fqB2 (pX9_finding k n σ (-1000000001 : Int64)) (fun r19 σ20 => some (r19, σ20))) else ((pX9_layAside k n σ).bind (fun σ15 => ((pX9_chanceOf k n σ15 x1 ((1 : Int32) <<< (x2 &&& 31))).bind (fun r17 => some (r17, σ15))))))))))))
set_option maxRecDepth 100000 in
set_option maxHeartbeats 4000000 in
theorem qX9_chance (l : Launch) (D : va_G) (cy : Nat → ClassId) (ad : Nat → Nat) (sz n : Nat) (σ : fqS) (k : Nat) (x1 : Int32) (x2 : Int32) {r : Int64} {σ' : fqS} (hf : pX9_chance k n σ x1 x2 = some (r, σ')) : Met l yX9_chance wsX9_chance ({ frames := 3, cells := 0, slots := 0, locals := 73 } : Room) (fqPc (TM cy) ZM D cy ad sz n σ [.ref (ad 0), .int x1, .int x2]) (fqQl (TM cy) ZM D ad sz n σ r σ') 0 0 (fqA (TM cy) ZM ad sz n σ) := by
  refine fq_enter_l (cc := cX9_chance) (maxL := 3) (own := RX9) _ (by decide) rfl (Nat.le_of_ble_eq_true rfl) rfl (fun X E hret => ?_)
  unfold pX9_chance at hf
  show fqG X (TM cy) ZM ad n 3 0 0 σ 0 [(0, .ref (ad 0)), (1, .int x1), (2, .int x2)] []
  refine g_aload_n (pc := 0) E dX9_chance_0 0 rfl rfl ?_
  refine g_iload_n (pc := 1) E dX9_chance_1 1 rfl rfl ?_
  obtain ⟨r2, e1, hf⟩ := fq_b hf
  refine g_callVi (pc := 2) E 0 (zm_l (by decide)) (fun _ _ => rfl) rfl [.int x1] (fun l D sz => qX9_isPlayer l D cy ad sz n σ k x1 e1) gX9_chance_X9_isPlayer rfl rfl rfl kcX9_isPlayer ⟨by decide, by decide⟩ rfl rfl (Nat.le_of_ble_eq_true rfl) dX9_chance_2 ⟨by decide, by decide⟩ ?_
  refine g_if_eq (pc := 5) E 21 dX9_chance_5 (by decide) (fun c3 => ?_) (fun c3 => ?_)
  · replace hf := fq_t c3 hf
    refine g_aload_n (pc := 21) E dX9_chance_21 0 rfl rfl ?_
    refine g_ldc2_w (pc := 22) E dX9_chance_22 wX9_chance_0 ?_
    obtain ⟨r5, σ6, e4, hf⟩ := fq_b2 hf
    refine g_callVl (pc := 25) E 0 (zm_l (by decide)) (fun _ _ => rfl) rfl [.long (-1000000001 : Int64)] (fun l D sz => qX9_finding l D cy ad sz n σ k (-1000000001 : Int64) e4) gX9_chance_X9_finding rfl rfl rfl kcX9_finding ⟨by decide, by decide⟩ rfl rfl (Nat.le_of_ble_eq_true rfl) dX9_chance_25 ⟨by decide, by decide⟩ ?_
    exact hret _ _ _ _ dX9_chance_28 (Option.some.inj hf)
  · replace hf := fq_f c3 hf
    refine g_aload_n (pc := 8) E dX9_chance_8 0 rfl rfl ?_
    refine g_iload_n (pc := 9) E dX9_chance_9 2 rfl rfl ?_
    obtain ⟨r8, e7, hf⟩ := fq_b hf
    refine g_callVi (pc := 10) E 0 (zm_l (by decide)) (fun _ _ => rfl) rfl [.int x2] (fun l D sz => qX9_isPlayer l D cy ad sz n σ k x2 e7) gX9_chance_X9_isPlayer rfl rfl rfl kcX9_isPlayer ⟨by decide, by decide⟩ rfl rfl (Nat.le_of_ble_eq_true rfl) dX9_chance_10 ⟨by decide, by decide⟩ ?_
    refine g_if_eq (pc := 13) E 21 dX9_chance_13 (by decide) (fun c9 => ?_) (fun c9 => ?_)
    · replace hf := fq_t c9 hf
      refine g_aload_n (pc := 21) E dX9_chance_21 0 rfl rfl ?_
      refine g_ldc2_w (pc := 22) E dX9_chance_22 wX9_chance_0 ?_
      obtain ⟨r11, σ12, e10, hf⟩ := fq_b2 hf
      refine g_callVl (pc := 25) E 0 (zm_l (by decide)) (fun _ _ => rfl) rfl [.long (-1000000001 : Int64)] (fun l D sz => qX9_finding l D cy ad sz n σ k (-1000000001 : Int64) e10) gX9_chance_X9_finding rfl rfl rfl kcX9_finding ⟨by decide, by decide⟩ rfl rfl (Nat.le_of_ble_eq_true rfl) dX9_chance_25 ⟨by decide, by decide⟩ ?_
      exact hret _ _ _ _ dX9_chance_28 (Option.some.inj hf)
    · replace hf := fq_f c9 hf
      refine g_iload_n (pc := 16) E dX9_chance_16 1 rfl rfl ?_
      refine g_iload_n (pc := 17) E dX9_chance_17 2 rfl rfl ?_
      refine g_icmp_ne (pc := 18) E 29 dX9_chance_18 (by decide) (fun c13 => ?_) (fun c13 => ?_)
      · replace hf := fq_f c13 hf
        refine g_aload_n (pc := 29) E dX9_chance_29 0 rfl rfl ?_
        obtain ⟨σ15, e14, hf⟩ := fq_b hf
        refine g_callVv (pc := 30) E 0 (zm_l (by decide)) (fun _ _ => rfl) rfl [] (fun l D sz => qX9_layAside l D cy ad sz n σ k e14) gX9_chance_X9_layAside rfl rfl rfl kcX9_layAside ⟨by decide, by decide⟩ rfl rfl (Nat.le_of_ble_eq_true rfl) dX9_chance_30 ⟨by decide, by decide⟩ ?_
        refine g_aload_n (pc := 33) E dX9_chance_33 0 rfl rfl ?_
        refine g_iload_n (pc := 34) E dX9_chance_34 1 rfl rfl ?_
        refine g_iconst (pc := 35) E (1 : Int32) dX9_chance_35 (by decide) ?_
        refine g_iload_n (pc := 36) E dX9_chance_36 2 rfl rfl ?_
        refine g_ishl (pc := 37) E dX9_chance_37 ?_
        obtain ⟨r17, e16, hf⟩ := fq_b hf
        refine g_callVl (pc := 38) E 0 (zm_l (by decide)) (fun _ _ => rfl) rfl [.int x1, .int ((1 : Int32) <<< (x2 &&& 31))] (fun l D sz => qX9_chanceOf l D cy ad sz n σ15 k x1 ((1 : Int32) <<< (x2 &&& 31)) e16) gX9_chance_X9_chanceOf rfl rfl rfl kcX9_chanceOf ⟨by decide, by decide⟩ rfl rfl (Nat.le_of_ble_eq_true rfl) dX9_chance_38 ⟨by decide, by decide⟩ ?_
        exact hret _ _ _ _ dX9_chance_41 (Option.some.inj hf)
      · replace hf := fq_t c13 hf
        refine g_aload_n (pc := 21) E dX9_chance_21 0 rfl rfl ?_
        refine g_ldc2_w (pc := 22) E dX9_chance_22 wX9_chance_0 ?_
        obtain ⟨r19, σ20, e18, hf⟩ := fq_b2 hf
        refine g_callVl (pc := 25) E 0 (zm_l (by decide)) (fun _ _ => rfl) rfl [.long (-1000000001 : Int64)] (fun l D sz => qX9_finding l D cy ad sz n σ k (-1000000001 : Int64) e18) gX9_chance_X9_finding rfl rfl rfl kcX9_finding ⟨by decide, by decide⟩ rfl rfl (Nat.le_of_ble_eq_true rfl) dX9_chance_25 ⟨by decide, by decide⟩ ?_
        exact hret _ _ _ _ dX9_chance_28 (Option.some.inj hf)

/-! X9_playersOf -/
theorem wX9_playersOf_0 : Cond.fieldLink RX9 159 "FairQueueModel" "parties" "I" ∈ wsX9_playersOf := by decide +kernel
theorem uX9_playersOf_X9 : ∀ w ∈ u_ws RX9 TX9 33, w ∈ wsX9_playersOf := (fun _ h => List.mem_cons_of_mem _ (List.mem_append_right _ h))
theorem wX9_playersOf_2 : Cond.fieldLink RX9 42 "FairQueueModel" "partyBits" "[I" ∈ wsX9_playersOf := by decide +kernel
theorem kcX9_playersOf : yX9_playersOf.cls = RX9 ∧ yX9_playersOf.cls ≠ "java/lang/invoke/MethodHandle" ∧ yX9_playersOf.cls ≠ "java/lang/invoke/VarHandle" ∧ (parseMethodDescriptor yX9_playersOf.desc).map (fun d => d.parameters.length) = some 1 := by decide +kernel
def pX9_playersOf_L4b (k n : Nat) (σ : fqS) (x1 : Int32) (rec : (Int32 × Int32) → Option Int32) (x2 : Int32) (x3 : Int32) : Option Int32 :=
  (if (fqI σ 0 11) ≤ x3 then some x2 else (if ((x1 >>> (x3 &&& 31)) &&& (1 : Int32)) = (1 : Int32) then (if x3 < 0 ∨ 10 ≤ Int32.toNatClampNeg x3 then none else (rec ((x2 ||| (fqI σ 6 (Int32.toNatClampNeg x3))), (x3 + (1 : Int32))))) else (rec ((x2 ||| (0 : Int32)), (x3 + (1 : Int32))))))
def pX9_playersOf_L4 (k n : Nat) (σ : fqS) (x1 : Int32) : (Int32 × Int32) → Option Int32 := fqL (fun rec (s : (Int32 × Int32)) => pX9_playersOf_L4b k n σ x1 rec s.1 s.2) k
def pX9_playersOf (k n : Nat) (σ : fqS) (x1 : Int32) : Option Int32 :=
  (pX9_playersOf_L4 k n σ x1 ((0 : Int32), (0 : Int32)))
set_option maxRecDepth 100000 in
set_option maxHeartbeats 4000000 in
theorem tX9_playersOf_L4 {k : Nat} {X : fqX} {cy : Nat → ClassId} {ad : Nat → Nat} {n : Nat} {σ : fqS} {r : Int32} {x1 : Int32} (E : fqE X ({ frames := 0, cells := 0, slots := 0, locals := 0 } : Room) cy cX9_playersOf 4 wsX9_playersOf RX9) (hret : fqR_i X (TM cy) ZM ad n 4 cX9_playersOf r σ) : ∀ (s : (Int32 × Int32)), pX9_playersOf_L4 k n σ x1 s = some r → fqG X (TM cy) ZM ad n 4 0 0 σ 4 [(0, .ref (ad 0)), (1, .int x1), (2, .int (s.1)), (3, .int (s.2))] [] := by
  unfold pX9_playersOf_L4
  refine fqL_run (P := fun (s : (Int32 × Int32)) => fqG X (TM cy) ZM ad n 4 0 0 σ 4 [(0, .ref (ad 0)), (1, .int x1), (2, .int (s.1)), (3, .int (s.2))] []) (fun rec s hrec hf => ?_) k
  obtain ⟨x2, x3⟩ := s
  have hf : pX9_playersOf_L4b k n σ x1 rec x2 x3 = some r := hf
  unfold pX9_playersOf_L4b at hf
  show fqG X (TM cy) ZM ad n 4 0 0 σ 4 [(0, .ref (ad 0)), (1, .int x1), (2, .int x2), (3, .int x3)] []
  refine g_iload_n (pc := 4) E dX9_playersOf_4 3 rfl rfl ?_
  refine g_aload_n (pc := 5) E dX9_playersOf_5 0 rfl rfl ?_
  refine g_getfield (pc := 6) E uX9_playersOf_X9 0 (zm_l (by decide)) (fun _ _ => rfl) rfl 11 (by decide) wX9_playersOf_0 (.int (fqI σ 0 11)) rfl dX9_playersOf_6 ?_
  refine g_icmp_ge (pc := 9) E 40 dX9_playersOf_9 (by decide) (fun c1 => ?_) (fun c1 => ?_)
  · replace hf := fq_t c1 hf
    refine g_iload_n (pc := 40) E dX9_playersOf_40 2 rfl rfl ?_
    exact hret _ _ _ _ dX9_playersOf_41 (congrArg (fun z => (z, σ)) (Option.some.inj hf))
  · replace hf := fq_f c1 hf
    refine g_iload_n (pc := 12) E dX9_playersOf_12 2 rfl rfl ?_
    refine g_iload_n (pc := 13) E dX9_playersOf_13 1 rfl rfl ?_
    refine g_iload_n (pc := 14) E dX9_playersOf_14 3 rfl rfl ?_
    refine g_ishr (pc := 15) E dX9_playersOf_15 ?_
    refine g_iconst (pc := 16) E (1 : Int32) dX9_playersOf_16 (by decide) ?_
    refine g_iand (pc := 17) E dX9_playersOf_17 ?_
    refine g_iconst (pc := 18) E (1 : Int32) dX9_playersOf_18 (by decide) ?_
    refine g_icmp_ne (pc := 19) E 31 dX9_playersOf_19 (by decide) (fun c2 => ?_) (fun c2 => ?_)
    · replace hf := fq_f c2 hf
      refine g_iconst (pc := 31) E (0 : Int32) dX9_playersOf_31 (by decide) ?_
      refine g_ior (pc := 32) E dX9_playersOf_32 ?_
      refine g_istore_n (pc := 33) E [(2, .int (x2 ||| (0 : Int32))), (0, .ref (ad 0)), (1, .int x1), (3, .int x3)] dX9_playersOf_33 rfl (by decide) rfl ?_
      refine g_iinc (pc := 34) E (x3 + (1 : Int32)) [(3, .int (x3 + (1 : Int32))), (2, .int (x2 ||| (0 : Int32))), (0, .ref (ad 0)), (1, .int x1)] dX9_playersOf_34 3 rfl rfl (by decide) rfl ?_
      refine g_goto (pc := 37) E 4 dX9_playersOf_37 (by decide) ?_
      refine g_lv [2, 3, 1, 0] rfl ?_
      exact hrec _ hf
    · replace hf := fq_t c2 hf
      refine g_aload_n (pc := 22) E dX9_playersOf_22 0 rfl rfl ?_
      refine g_getfield (pc := 23) E uX9_playersOf_X9 0 (zm_l (by decide)) (fun _ _ => rfl) rfl 12 (by decide) wX9_playersOf_2 (.ref (ad 6)) rfl dX9_playersOf_23 ?_
      refine g_iload_n (pc := 26) E dX9_playersOf_26 3 rfl rfl ?_
      obtain ⟨h3, hf⟩ := fq_in hf
      refine g_iaload (pc := 27) E 6 (zm_l (by decide)) (fun _ _ => rfl) h3 dX9_playersOf_27 ?_
      refine g_goto (pc := 28) E 32 dX9_playersOf_28 (by decide) ?_
      refine g_ior (pc := 32) E dX9_playersOf_32 ?_
      refine g_istore_n (pc := 33) E [(2, .int (x2 ||| (fqI σ 6 (Int32.toNatClampNeg x3)))), (0, .ref (ad 0)), (1, .int x1), (3, .int x3)] dX9_playersOf_33 rfl (by decide) rfl ?_
      refine g_iinc (pc := 34) E (x3 + (1 : Int32)) [(3, .int (x3 + (1 : Int32))), (2, .int (x2 ||| (fqI σ 6 (Int32.toNatClampNeg x3)))), (0, .ref (ad 0)), (1, .int x1)] dX9_playersOf_34 3 rfl rfl (by decide) rfl ?_
      refine g_goto (pc := 37) E 4 dX9_playersOf_37 (by decide) ?_
      refine g_lv [2, 3, 1, 0] rfl ?_
      exact hrec _ hf
set_option maxRecDepth 100000 in
set_option maxHeartbeats 4000000 in
theorem qX9_playersOf (l : Launch) (D : va_G) (cy : Nat → ClassId) (ad : Nat → Nat) (sz n : Nat) (σ : fqS) (k : Nat) (x1 : Int32) {r : Int32} (hf : pX9_playersOf k n σ x1 = some r) : Met l yX9_playersOf wsX9_playersOf ({ frames := 0, cells := 0, slots := 0, locals := 0 } : Room) (fqPc (TM cy) ZM D cy ad sz n σ [.ref (ad 0), .int x1]) (fqQi (TM cy) ZM D ad sz n σ r σ) 0 0 (fqA (TM cy) ZM ad sz n σ) := by
  refine fq_enter_i (cc := cX9_playersOf) (maxL := 4) (own := RX9) _ (by decide) rfl (Nat.le_of_ble_eq_true rfl) rfl (fun X E hret => ?_)
  unfold pX9_playersOf at hf
  show fqG X (TM cy) ZM ad n 4 0 0 σ 0 [(0, .ref (ad 0)), (1, .int x1)] []
  refine g_iconst (pc := 0) E (0 : Int32) dX9_playersOf_0 (by decide) ?_
  refine g_istore_n (pc := 1) E [(2, .int (0 : Int32)), (0, .ref (ad 0)), (1, .int x1)] dX9_playersOf_1 rfl (by decide) rfl ?_
  refine g_iconst (pc := 2) E (0 : Int32) dX9_playersOf_2 (by decide) ?_
  refine g_istore_n (pc := 3) E [(3, .int (0 : Int32)), (2, .int (0 : Int32)), (0, .ref (ad 0)), (1, .int x1)] dX9_playersOf_3 rfl (by decide) rfl ?_
  refine g_lv [2, 3, 1, 0] rfl ?_
  exact tX9_playersOf_L4 E hret _ hf
