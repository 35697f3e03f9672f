/-! X8_hasPairing -/
theorem wX8_hasPairing_0 : Cond.fieldLink RX8 29 "FairQueue" "pairings" "LFairQueue$Pairings;" ∈ wsX8_hasPairing := by decide +kernel
theorem uX8_hasPairing_X8 : ∀ w ∈ u_ws RX8 TX8 13, w ∈ wsX8_hasPairing := (fun _ h => List.mem_cons_of_mem _ (List.mem_append_left _ (List.mem_append_left _ (List.mem_append_left _ (List.mem_append_right _ h)))))
theorem wX8_hasPairing_2 : Cond.fieldLink RX8 179 "FairQueue$Pairings" "uneven" "J" ∈ wsX8_hasPairing := by decide +kernel
theorem uX8_hasPairing_X3 : ∀ w ∈ u_ws RX3 TX3 6, w ∈ wsX8_hasPairing := (fun _ h => List.mem_cons_of_mem _ (List.mem_append_left _ (List.mem_append_left _ (List.mem_append_right _ h))))
theorem wX8_hasPairing_4 : Cond.fieldLink RX8 50 "FairQueue" "bounds" "LFairQueue$Bounds;" ∈ wsX8_hasPairing := by decide +kernel
theorem wX8_hasPairing_5 : Cond.fieldLink RX8 74 "FairQueue" "tick" "J" ∈ wsX8_hasPairing := by decide +kernel
theorem kcX8_hasPairing : yX8_hasPairing.cls = RX8 ∧ yX8_hasPairing.cls ≠ "java/lang/invoke/MethodHandle" ∧ yX8_hasPairing.cls ≠ "java/lang/invoke/VarHandle" ∧ (parseMethodDescriptor yX8_hasPairing.desc).map (fun d => d.parameters.length) = some 2 := by decide +kernel
def pX8_hasPairing (k n : Nat) (σ : fqS) (q1 : Nat) (x2 : Int32) : Option (Int32 × fqS) :=
  (fqB2 (pX3_seek k n σ x2) (fun r2 σ3 => (if r2 = 0 then some ((0 : Int32), σ3) else ((pX7_sinceAt k n σ3 q1 x2).bind (fun r6 => ((pX0_behind k n σ3 ((fqJ σ3 0 12) - r6)).bind (fun r8 => (if r8 < (fqJ σ3 10 5) then some ((0 : Int32), σ3) else some ((1 : Int32), σ3)))))))))
set_option maxRecDepth 100000 in
set_option maxHeartbeats 4000000 in
theorem qX8_hasPairing (l : Launch) (D : va_G) (cy : Nat → ClassId) (ad : Nat → Nat) (sz n : Nat) (σ : fqS) (k : Nat) (q1 : Nat) (x2 : Int32) (hq1 : q1 = 4 ∨ q1 = 7) {r : Int32} {σ' : fqS} (hf : pX8_hasPairing k n σ q1 x2 = some (r, σ')) : Met l yX8_hasPairing wsX8_hasPairing ({ frames := 3, cells := 0, slots := 0, locals := 67 } : Room) (fqPc (TX cy) ZX D cy ad sz n σ [.ref (ad 0), .ref (ad q1), .int x2]) (fqQi (TX cy) ZX D ad sz n σ r σ') 0 0 (fqA (TX cy) ZX ad sz n σ) := by
  refine fq_enter_z (cc := cX8_hasPairing) (maxL := 3) (own := RX8) _ (by decide) rfl (Nat.le_of_ble_eq_true rfl) rfl (fun X E hret => ?_)
  unfold pX8_hasPairing at hf
  show fqG X (TX cy) ZX ad n 3 0 0 σ 0 [(0, .ref (ad 0)), (1, .ref (ad q1)), (2, .int x2)] []
  refine g_aload_n (pc := 0) E dX8_hasPairing_0 0 rfl rfl ?_
  refine g_getfield (pc := 1) E uX8_hasPairing_X8 0 (zx_l (by decide)) (fun _ _ => rfl) rfl 3 (by decide) wX8_hasPairing_0 (.ref (ad 10)) rfl dX8_hasPairing_1 ?_
  refine g_iload_n (pc := 4) E dX8_hasPairing_4 2 rfl rfl ?_
  obtain ⟨r2, σ3, e1, hf⟩ := fq_b2 hf
  refine g_callVi (pc := 5) E 10 (zx_l (by decide)) (fun _ _ => rfl) rfl [.int x2] (fun l D sz => qX3_seek l D cy ad sz n σ k x2 e1) gX8_hasPairing_X3_seek rfl rfl rfl kcX3_seek ⟨by decide, by decide⟩ rfl rfl (Nat.le_of_ble_eq_true rfl) dX8_hasPairing_5 ⟨by decide, by decide⟩ ?_
  refine g_if_eq (pc := 8) E 43 dX8_hasPairing_8 (by decide) (fun c4 => ?_) (fun c4 => ?_)
  · replace hf := fq_t c4 hf
    refine g_iconst (pc := 43) E (0 : Int32) dX8_hasPairing_43 (by decide) ?_
    exact hret _ _ _ _ rfl dX8_hasPairing_44 (Option.some.inj hf)
  · replace hf := fq_f c4 hf
    refine g_aload_n (pc := 11) E dX8_hasPairing_11 0 rfl rfl ?_
    refine g_getfield (pc := 12) E uX8_hasPairing_X8 0 (zx_l (by decide)) (fun _ _ => rfl) rfl 3 (by decide) wX8_hasPairing_0 (.ref (ad 10)) rfl dX8_hasPairing_12 ?_
    refine g_getfield (pc := 15) E uX8_hasPairing_X3 10 (zx_l (by decide)) (fun _ _ => rfl) rfl 5 (by decide) wX8_hasPairing_2 (.long (fqJ σ3 10 5)) rfl dX8_hasPairing_15 ?_
    refine g_aload_n (pc := 18) E dX8_hasPairing_18 0 rfl rfl ?_
    refine g_getfield (pc := 19) E uX8_hasPairing_X8 0 (zx_l (by decide)) (fun _ _ => rfl) rfl 6 (by decide) wX8_hasPairing_4 (.ref (ad 23)) rfl dX8_hasPairing_19 ?_
    refine g_aload_n (pc := 22) E dX8_hasPairing_22 0 rfl rfl ?_
    refine g_getfield (pc := 23) E uX8_hasPairing_X8 0 (zx_l (by decide)) (fun _ _ => rfl) rfl 12 (by decide) wX8_hasPairing_5 (.long (fqJ σ3 0 12)) rfl dX8_hasPairing_23 ?_
    refine g_aload_n (pc := 26) E dX8_hasPairing_26 1 rfl rfl ?_
    refine g_iload_n (pc := 27) E dX8_hasPairing_27 2 rfl rfl ?_
    obtain ⟨r6, e5, hf⟩ := fq_b hf
    refine g_callVl (pc := 28) E q1 (zx_q hq1) (tx_q cy ad n hq1) rfl [.int x2] (fun l D sz => qX7_sinceAt l D cy ad sz n σ3 k q1 x2 hq1 e5) gX8_hasPairing_X7_sinceAt rfl rfl rfl kcX7_sinceAt ⟨by decide, by decide⟩ rfl rfl (Nat.le_of_ble_eq_true rfl) dX8_hasPairing_28 ⟨by decide, by decide⟩ ?_
    refine g_lsub (pc := 31) E dX8_hasPairing_31 ?_
    obtain ⟨r8, e7, hf⟩ := fq_b hf
    refine g_callVl (pc := 32) E 23 (zx_l (by decide)) (fun _ _ => rfl) rfl [.long ((fqJ σ3 0 12) - r6)] (fun l D sz => qX0_behind l D cy ad sz n σ3 k ((fqJ σ3 0 12) - r6) e7) gX8_hasPairing_X0_behind rfl rfl rfl kcX0_behind ⟨by decide, by decide⟩ rfl rfl (Nat.le_of_ble_eq_true rfl) dX8_hasPairing_32 ⟨by decide, by decide⟩ ?_
    refine g_lif_gt (pc := 35) E 43 dX8_hasPairing_35 dX8_hasPairing_36 (by decide) (fun c9 => ?_) (fun c9 => ?_)
    · replace hf := fq_t c9 hf
      refine g_iconst (pc := 43) E (0 : Int32) dX8_hasPairing_43 (by decide) ?_
      exact hret _ _ _ _ rfl dX8_hasPairing_44 (Option.some.inj hf)
    · replace hf := fq_f c9 hf
      refine g_iconst (pc := 39) E (1 : Int32) dX8_hasPairing_39 (by decide) ?_
      refine g_goto (pc := 40) E 44 dX8_hasPairing_40 (by decide) ?_
      exact hret _ _ _ _ rfl dX8_hasPairing_44 (Option.some.inj hf)

/-! X8_anyPairing -/
theorem wX8_anyPairing_0 : Cond.fieldLink RX8 29 "FairQueue" "pairings" "LFairQueue$Pairings;" ∈ wsX8_anyPairing := by decide +kernel
theorem uX8_anyPairing_X8 : ∀ w ∈ u_ws RX8 TX8 13, w ∈ wsX8_anyPairing := (fun _ h => List.mem_cons_of_mem _ (List.mem_append_left _ (List.mem_append_left _ (List.mem_append_left _ (List.mem_append_left _ (List.mem_append_left _ (List.mem_append_right _ h)))))))
theorem wX8_anyPairing_2 : Cond.fieldLink RX8 10 "FairQueue" "players" "LFairQueue$Players;" ∈ wsX8_anyPairing := by decide +kernel
theorem wX8_anyPairing_3 : Cond.fieldLink RX8 65 "FairQueue" "teamSize" "I" ∈ wsX8_anyPairing := by decide +kernel
theorem wX8_anyPairing_4 : Cond.fieldLink RX8 125 "FairQueue$Queue" "waiting" "I" ∈ wsX8_anyPairing := by decide +kernel
theorem uX8_anyPairing_X7 : ∀ w ∈ u_ws RX7 TX7 3, w ∈ wsX8_anyPairing := (fun _ h => List.mem_cons_of_mem _ (List.mem_append_left _ (List.mem_append_left _ (List.mem_append_left _ (List.mem_append_left _ (List.mem_append_right _ h))))))
theorem kcX8_anyPairing : yX8_anyPairing.cls = RX8 ∧ yX8_anyPairing.cls ≠ "java/lang/invoke/MethodHandle" ∧ yX8_anyPairing.cls ≠ "java/lang/invoke/VarHandle" ∧ (parseMethodDescriptor yX8_anyPairing.desc).map (fun d => d.parameters.length) = some 1 := by decide +kernel
def pX8_anyPairing_L18b (k n : Nat) (q1 : Nat) (rec : (Int32 × fqS) → Option (Int32 × fqS)) (x2 : Int32) (σ : fqS) : Option (Int32 × fqS) :=
  (if (fqI σ q1 2) ≤ x2 then some ((0 : Int32), σ) else (fqB2 (pX8_hasPairing k n σ q1 x2) (fun r5 σ6 => (if r5 = 0 then (rec ((x2 + (1 : Int32)), σ6)) else some ((1 : Int32), σ6)))))
def pX8_anyPairing_L18 (k n : Nat) (q1 : Nat) : (Int32 × fqS) → Option (Int32 × fqS) := fqL (fun rec (s : (Int32 × fqS)) => pX8_anyPairing_L18b k n q1 rec s.1 s.2) k
def pX8_anyPairing (k n : Nat) (σ : fqS) (q1 : Nat) : Option (Int32 × fqS) :=
  ((pX3_gather k n σ q1 (fqI σ 0 10)).bind (fun σ2 => (pX8_anyPairing_L18 k n q1 ((0 : Int32), σ2))))
set_option maxRecDepth 100000 in
set_option maxHeartbeats 4000000 in
theorem tX8_anyPairing_L18 {k : Nat} {X : fqX} {cy : Nat → ClassId} {ad : Nat → Nat} {n : Nat} {r : Int32} {σ' : fqS} {q1 : Nat} (E : fqE X ({ frames := 4, cells := 0, slots := 0, locals := 89 } : Room) cy cX8_anyPairing 3 wsX8_anyPairing RX8) (hret : fqR_z X (TX cy) ZX ad n 3 cX8_anyPairing r σ') (hq1 : q1 = 4 ∨ q1 = 7) : ∀ (s : (Int32 × fqS)), pX8_anyPairing_L18 k n q1 s = some (r, σ') → fqG X (TX cy) ZX ad n 3 0 0 (s.2) 18 [(0, .ref (ad 0)), (1, .ref (ad q1)), (2, .int (s.1))] [] := by
  unfold pX8_anyPairing_L18
  refine fqL_run (P := fun (s : (Int32 × fqS)) => fqG X (TX cy) ZX ad n 3 0 0 (s.2) 18 [(0, .ref (ad 0)), (1, .ref (ad q1)), (2, .int (s.1))] []) (fun rec s hrec hf => ?_) k
  obtain ⟨x2, σ⟩ := s
  have hf : pX8_anyPairing_L18b k n q1 rec x2 σ = some (r, σ') := hf
  unfold pX8_anyPairing_L18b at hf
  show fqG X (TX cy) ZX ad n 3 0 0 σ 18 [(0, .ref (ad 0)), (1, .ref (ad q1)), (2, .int x2)] []
  refine g_iload_n (pc := 18) E dX8_anyPairing_18 2 rfl rfl ?_
  refine g_aload_n (pc := 19) E dX8_anyPairing_19 1 rfl rfl ?_
  refine g_getfield (pc := 20) E uX8_anyPairing_X7 q1 (zx_q hq1) (tx_q cy ad n hq1) rfl 2 (by decide) wX8_anyPairing_4 (.int (fqI σ q1 2)) rfl dX8_anyPairing_20 ?_
  refine g_icmp_ge (pc := 23) E 43 dX8_anyPairing_23 (by decide) (fun c3 => ?_) (fun c3 => ?_)
  · replace hf := fq_t c3 hf
    refine g_iconst (pc := 43) E (0 : Int32) dX8_anyPairing_43 (by decide) ?_
    exact hret _ _ _ _ rfl dX8_anyPairing_44 (Option.some.inj hf)
  · replace hf := fq_f c3 hf
    refine g_aload_n (pc := 26) E dX8_anyPairing_26 0 rfl rfl ?_
    refine g_aload_n (pc := 27) E dX8_anyPairing_27 1 rfl rfl ?_
    refine g_iload_n (pc := 28) E dX8_anyPairing_28 2 rfl rfl ?_
    obtain ⟨r5, σ6, e4, hf⟩ := fq_b2 hf
    refine g_callVi (pc := 29) E 0 (zx_l (by decide)) (fun _ _ => rfl) rfl [.ref (ad q1), .int x2] (fun l D sz => qX8_hasPairing l D cy ad sz n σ k q1 x2 hq1 e4) gX8_anyPairing_X8_hasPairing rfl rfl rfl kcX8_hasPairing ⟨by decide, by decide⟩ rfl rfl (Nat.le_of_ble_eq_true rfl) dX8_anyPairing_29 ⟨by decide, by decide⟩ ?_
    refine g_if_eq (pc := 32) E 37 dX8_anyPairing_32 (by decide) (fun c7 => ?_) (fun c7 => ?_)
    · replace hf := fq_t c7 hf
      refine g_iinc (pc := 37) E (x2 + (1 : Int32)) [(2, .int (x2 + (1 : Int32))), (0, .ref (ad 0)), (1, .ref (ad q1))] dX8_anyPairing_37 2 rfl rfl (by decide) rfl ?_
      refine g_goto (pc := 40) E 18 dX8_anyPairing_40 (by decide) ?_
      refine g_lv [1, 2, 0] rfl ?_
      exact hrec _ hf
    · replace hf := fq_f c7 hf
      refine g_iconst (pc := 35) E (1 : Int32) dX8_anyPairing_35 (by decide) ?_
      exact hret _ _ _ _ rfl dX8_anyPairing_36 (Option.some.inj hf)
set_option maxRecDepth 100000 in
set_option maxHeartbeats 4000000 in
theorem qX8_anyPairing (l : Launch) (D : va_G) (cy : Nat → ClassId) (ad : Nat → Nat) (sz n : Nat) (σ : fqS) (k : Nat) (q1 : Nat) (hq1 : q1 = 4 ∨ q1 = 7) {r : Int32} {σ' : fqS} (hf : pX8_anyPairing k n σ q1 = some (r, σ')) : Met l yX8_anyPairing wsX8_anyPairing ({ frames := 4, cells := 0, slots := 0, locals := 89 } : Room) (fqPc (TX cy) ZX D cy ad sz n σ [.ref (ad 0), .ref (ad q1)]) (fqQi (TX cy) ZX D ad sz n σ r σ') 0 0 (fqA (TX cy) ZX ad sz n σ) := by
  refine fq_enter_z (cc := cX8_anyPairing) (maxL := 3) (own := RX8) _ (by decide) rfl (Nat.le_of_ble_eq_true rfl) rfl (fun X E hret => ?_)
  unfold pX8_anyPairing at hf
  show fqG X (TX cy) ZX ad n 3 0 0 σ 0 [(0, .ref (ad 0)), (1, .ref (ad q1))] []
  refine g_aload_n (pc := 0) E dX8_anyPairing_0 0 rfl rfl ?_
  refine g_getfield (pc := 1) E uX8_anyPairing_X8 0 (zx_l (by decide)) (fun _ _ => rfl) rfl 3 (by decide) wX8_anyPairing_0 (.ref (ad 10)) rfl dX8_anyPairing_1 ?_
  refine g_aload_n (pc := 4) E dX8_anyPairing_4 1 rfl rfl ?_
  refine g_aload_n (pc := 5) E dX8_anyPairing_5 0 rfl rfl ?_
  refine g_getfield (pc := 6) E uX8_anyPairing_X8 0 (zx_l (by decide)) (fun _ _ => rfl) rfl 0 (by decide) wX8_anyPairing_2 (.ref (ad 1)) rfl dX8_anyPairing_6 ?_
  refine g_aload_n (pc := 9) E dX8_anyPairing_9 0 rfl rfl ?_
  refine g_getfield (pc := 10) E uX8_anyPairing_X8 0 (zx_l (by decide)) (fun _ _ => rfl) rfl 10 (by decide) wX8_anyPairing_3 (.int (fqI σ 0 10)) rfl dX8_anyPairing_10 ?_
  obtain ⟨σ2, e1, hf⟩ := fq_b hf
  refine g_callVv (pc := 13) E 10 (zx_l (by decide)) (fun _ _ => rfl) rfl [.ref (ad q1), .ref (ad 1), .int (fqI σ 0 10)] (fun l D sz => qX3_gather l D cy ad sz n σ k q1 (fqI σ 0 10) hq1 e1) gX8_anyPairing_X3_gather rfl rfl rfl kcX3_gather ⟨by decide, by decide⟩ rfl rfl (Nat.le_of_ble_eq_true rfl) dX8_anyPairing_13 ⟨by decide, by decide⟩ ?_
  refine g_iconst (pc := 16) E (0 : Int32) dX8_anyPairing_16 (by decide) ?_
  refine g_istore_n (pc := 17) E [(2, .int (0 : Int32)), (0, .ref (ad 0)), (1, .ref (ad q1))] dX8_anyPairing_17 rfl (by decide) rfl ?_
  refine g_lv [1, 2, 0] rfl ?_
  exact tX8_anyPairing_L18 E hret hq1 _ hf

/-! X8_isKind -/
theorem kcX8_isKind : yX8_isKind.cls ≠ "java/lang/invoke/MethodHandle" ∧ yX8_isKind.cls ≠ "java/lang/invoke/VarHandle" ∧ (parseMethodDescriptor yX8_isKind.desc).map (fun d => d.parameters.length) = some 1 := by decide +kernel
def pX8_isKind (k n : Nat) (σ : fqS) (x0 : Int32) : Option Int32 :=
  (if x0 < 0 then some (0 : Int32) else (if (2 : Int32) < x0 then some (0 : Int32) else some (1 : Int32)))
set_option maxRecDepth 100000 in
set_option maxHeartbeats 4000000 in
theorem qX8_isKind (l : Launch) (D : va_G) (cy : Nat → ClassId) (ad : Nat → Nat) (sz n : Nat) (σ : fqS) (k : Nat) (x0 : Int32) {r : Int32} (hf : pX8_isKind k n σ x0 = some r) : Met l yX8_isKind wsX8_isKind ({ frames := 0, cells := 0, slots := 0, locals := 0 } : Room) (fqPc (TX cy) ZX D cy ad sz n σ [.int x0]) (fqQi (TX cy) ZX D ad sz n σ r σ) 0 0 (fqA (TX cy) ZX ad sz n σ) := by
  refine fq_enter_z (cc := cX8_isKind) (maxL := 1) (own := RX8) _ (by decide) rfl (Nat.le_of_ble_eq_true rfl) rfl (fun X E hret => ?_)
  unfold pX8_isKind at hf
  show fqG X (TX cy) ZX ad n 1 0 0 σ 0 [(0, .int x0)] []
  refine g_iload_n (pc := 0) E dX8_isKind_0 0 rfl rfl ?_
  refine g_if_lt (pc := 1) E 13 dX8_isKind_1 (by decide) (fun c1 => ?_) (fun c1 => ?_)
  · replace hf := fq_t c1 hf
    refine g_iconst (pc := 13) E (0 : Int32) dX8_isKind_13 (by decide) ?_
    exact hret _ _ _ _ rfl dX8_isKind_14 (congrArg (fun z => (z, σ)) (Option.some.inj hf))
  · replace hf := fq_f c1 hf
    refine g_iload_n (pc := 4) E dX8_isKind_4 0 rfl rfl ?_
    refine g_iconst (pc := 5) E (2 : Int32) dX8_isKind_5 (by decide) ?_
    refine g_icmp_gt (pc := 6) E 13 dX8_isKind_6 (by decide) (fun c2 => ?_) (fun c2 => ?_)
    · replace hf := fq_t c2 hf
      refine g_iconst (pc := 13) E (0 : Int32) dX8_isKind_13 (by decide) ?_
      exact hret _ _ _ _ rfl dX8_isKind_14 (congrArg (fun z => (z, σ)) (Option.some.inj hf))
    · replace hf := fq_f c2 hf
      refine g_iconst (pc := 9) E (1 : Int32) dX8_isKind_9 (by decide) ?_
      refine g_goto (pc := 10) E 14 dX8_isKind_10 (by decide) ?_
      exact hret _ _ _ _ rfl dX8_isKind_14 (congrArg (fun z => (z, σ)) (Option.some.inj hf))

/-! X8_finding -/
theorem wX8_finding_0 : Cond.constantLong RX8 273 (-1000000000) ∈ wsX8_finding := by decide +kernel
theorem wX8_finding_1 : Cond.fieldLink RX8 58 "FairQueue" "findings" "[J" ∈ wsX8_finding := by decide +kernel
theorem uX8_finding_X8 : ∀ w ∈ u_ws RX8 TX8 13, w ∈ wsX8_finding := (fun _ h => List.mem_cons_of_mem _ (List.mem_append_right _ h))
theorem kcX8_finding : yX8_finding.cls = RX8 ∧ yX8_finding.cls ≠ "java/lang/invoke/MethodHandle" ∧ yX8_finding.cls ≠ "java/lang/invoke/VarHandle" ∧ (parseMethodDescriptor yX8_finding.desc).map (fun d => d.parameters.length) = some 1 := by decide +kernel
def pX8_finding (k n : Nat) (σ : fqS) (x1 : Int32) : Option (Int64 × fqS) :=
  (if x1 < 0 then some (((-1000000000 : Int64) - (Int32.toInt64 x1)), σ) else (if (6 : Int32) ≤ x1 then some (((-1000000000 : Int64) - (Int32.toInt64 x1)), σ) else (if x1 < 0 ∨ 6 ≤ Int32.toNatClampNeg x1 then none else (fqN (fqPJ σ 25 (Int32.toNatClampNeg x1) ((fqJ σ 25 (Int32.toNatClampNeg x1)) + (1 : Int64))) (fun σ4 => some (((-1000000000 : Int64) - (Int32.toInt64 x1)), σ4))))))
set_option maxRecDepth 100000 in
set_option maxHeartbeats 4000000 in
theorem qX8_finding (l : Launch) (D : va_G) (cy : Nat → ClassId) (ad : Nat → Nat) (sz n : Nat) (σ : fqS) (k : Nat) (x1 : Int32) {r : Int64} {σ' : fqS} (hf : pX8_finding k n σ x1 = some (r, σ')) : Met l yX8_finding wsX8_finding ({ frames := 0, cells := 0, slots := 0, locals := 0 } : Room) (fqPc (TX cy) ZX D cy ad sz n σ [.ref (ad 0), .int x1]) (fqQl (TX cy) ZX D ad sz n σ r σ') 0 0 (fqA (TX cy) ZX ad sz n σ) := by
  refine fq_enter_l (cc := cX8_finding) (maxL := 2) (own := RX8) _ (by decide) rfl (Nat.le_of_ble_eq_true rfl) rfl (fun X E hret => ?_)
  unfold pX8_finding at hf
  show fqG X (TX cy) ZX ad n 2 0 0 σ 0 [(0, .ref (ad 0)), (1, .int x1)] []
  refine g_iload_n (pc := 0) E dX8_finding_0 1 rfl rfl ?_
  refine g_if_lt (pc := 1) E 23 dX8_finding_1 (by decide) (fun c1 => ?_) (fun c1 => ?_)
  · replace hf := fq_t c1 hf
    refine g_ldc2_w (pc := 23) E dX8_finding_23 wX8_finding_0 ?_
    refine g_iload_n (pc := 26) E dX8_finding_26 1 rfl rfl ?_
    refine g_i2l (pc := 27) E dX8_finding_27 ?_
    refine g_lsub (pc := 28) E dX8_finding_28 ?_
    exact hret _ _ _ _ dX8_finding_29 (Option.some.inj hf)
  · replace hf := fq_f c1 hf
    refine g_iload_n (pc := 4) E dX8_finding_4 1 rfl rfl ?_
    refine g_aload_n (pc := 5) E dX8_finding_5 0 rfl rfl ?_
    refine g_getfield (pc := 6) E uX8_finding_X8 0 (zx_l (by decide)) (fun _ _ => rfl) rfl 8 (by decide) wX8_finding_1 (.ref (ad 25)) rfl dX8_finding_6 ?_
    refine g_alen (pc := 9) E 25 (zx_l (by decide)) 1 (fun _ _ => rfl) rfl (6 : Int32) (by rfl) dX8_finding_9 ?_
    refine g_icmp_ge (pc := 10) E 23 dX8_finding_10 (by decide) (fun c2 => ?_) (fun c2 => ?_)
    · replace hf := fq_t c2 hf
      refine g_ldc2_w (pc := 23) E dX8_finding_23 wX8_finding_0 ?_
      refine g_iload_n (pc := 26) E dX8_finding_26 1 rfl rfl ?_
      refine g_i2l (pc := 27) E dX8_finding_27 ?_
      refine g_lsub (pc := 28) E dX8_finding_28 ?_
      exact hret _ _ _ _ dX8_finding_29 (Option.some.inj hf)
    · replace hf := fq_f c2 hf
      refine g_aload_n (pc := 13) E dX8_finding_13 0 rfl rfl ?_
      refine g_getfield (pc := 14) E uX8_finding_X8 0 (zx_l (by decide)) (fun _ _ => rfl) rfl 8 (by decide) wX8_finding_1 (.ref (ad 25)) rfl dX8_finding_14 ?_
      refine g_iload_n (pc := 17) E dX8_finding_17 1 rfl rfl ?_
      refine g_dup2_11 (pc := 18) E dX8_finding_18 rfl rfl ?_
      obtain ⟨h3, hf⟩ := fq_in hf
      refine g_laload (pc := 19) E 25 (zx_l (by decide)) (fun _ _ => rfl) h3 dX8_finding_19 ?_
      refine g_lconst (pc := 20) E (1 : Int64) dX8_finding_20 (by decide) ?_
      refine g_ladd (pc := 21) E dX8_finding_21 ?_
      refine g_lastore (pc := 22) E 25 (zx_l (by decide)) (fun _ _ => rfl) h3 dX8_finding_22 ?_
      obtain ⟨σ4, e5, hf⟩ := fq_n hf
      refine g_sg e5 ?_
      refine g_ldc2_w (pc := 23) E dX8_finding_23 wX8_finding_0 ?_
      refine g_iload_n (pc := 26) E dX8_finding_26 1 rfl rfl ?_
      refine g_i2l (pc := 27) E dX8_finding_27 ?_
      refine g_lsub (pc := 28) E dX8_finding_28 ?_
      exact hret _ _ _ _ dX8_finding_29 (Option.some.inj hf)

/-! X8_as -/
theorem wX8_as_0 : Cond.fieldLink RX8 10 "FairQueue" "players" "LFairQueue$Players;" ∈ wsX8_as := by decide +kernel
theorem uX8_as_X8 : ∀ w ∈ u_ws RX8 TX8 13, w ∈ wsX8_as := (fun _ h => List.mem_cons_of_mem _ (List.mem_append_left _ (List.mem_append_left _ (List.mem_append_right _ h))))
theorem wX8_as_2 : Cond.fieldLink RX8 93 "FairQueue$Player" "kind" "I" ∈ wsX8_as := by decide +kernel
theorem uX8_as_X5 : ∀ w ∈ u_ws RX5 TX5 5, w ∈ wsX8_as := (fun _ h => List.mem_cons_of_mem _ (List.mem_append_left _ (List.mem_append_right _ h)))
theorem kcX8_as : yX8_as.cls = RX8 ∧ yX8_as.cls ≠ "java/lang/invoke/MethodHandle" ∧ yX8_as.cls ≠ "java/lang/invoke/VarHandle" ∧ (parseMethodDescriptor yX8_as.desc).map (fun d => d.parameters.length) = some 2 := by decide +kernel
def pX8_as (k n : Nat) (σ : fqS) (x1 : Int32) (x2 : Int32) : Option (Int64 × fqS) :=
  ((pX6_at k n σ x1).bind (fun r2 => (fqM r2 ((fqB2 (pX8_finding k n σ (1 : Int32)) (fun r6 σ7 => some (r6, σ7)))) (fun z3 => (if z3 < n then ((pX8_isKind k n σ x2).bind (fun r9 => (if r9 = 0 then (fqB2 (pX8_finding k n σ (1 : Int32)) (fun r21 σ22 => some (r21, σ22))) else (if x2 = 0 then ((pX5_ownMean k n σ z3).bind (fun r13 => some (r13, σ))) else (if x2 = (fqI σ (26 + 4 * z3) 0) then ((pX5_ownMean k n σ z3).bind (fun r16 => some (r16, σ))) else (fqB2 (pX8_finding k n σ (5 : Int32)) (fun r18 σ19 => some (r18, σ19)))))))) else none)))))
set_option maxRecDepth 100000 in
set_option maxHeartbeats 4000000 in
theorem qX8_as (l : Launch) (D : va_G) (cy : Nat → ClassId) (ad : Nat → Nat) (sz n : Nat) (σ : fqS) (k : Nat) (x1 : Int32) (x2 : Int32) {r : Int64} {σ' : fqS} (hf : pX8_as k n σ x1 x2 = some (r, σ')) : Met l yX8_as wsX8_as ({ frames := 1, cells := 0, slots := 0, locals := 23 } : Room) (fqPc (TX cy) ZX D cy ad sz n σ [.ref (ad 0), .int x1, .int x2]) (fqQl (TX cy) ZX D ad sz n σ r σ') 0 0 (fqA (TX cy) ZX ad sz n σ) := by
  refine fq_enter_l (cc := cX8_as) (maxL := 4) (own := RX8) _ (by decide) rfl (Nat.le_of_ble_eq_true rfl) rfl (fun X E hret => ?_)
  unfold pX8_as at hf
  show fqG X (TX cy) ZX ad n 4 0 0 σ 0 [(0, .ref (ad 0)), (1, .int x1), (2, .int x2)] []
  refine g_aload_n (pc := 0) E dX8_as_0 0 rfl rfl ?_
  refine g_getfield (pc := 1) E uX8_as_X8 0 (zx_l (by decide)) (fun _ _ => rfl) rfl 0 (by decide) wX8_as_0 (.ref (ad 1)) rfl dX8_as_1 ?_
  refine g_iload_n (pc := 4) E dX8_as_4 1 rfl rfl ?_
  obtain ⟨r2, e1, hf⟩ := fq_b hf
  refine g_callVq (pc := 5) E 1 (zx_l (by decide)) (fun _ _ => rfl) rfl [.int x1] (fun l D sz => qX6_at l D cy ad sz n σ k x1 e1) gX8_as_X6_at rfl rfl rfl kcX6_at ⟨by decide, by decide⟩ rfl rfl (Nat.le_of_ble_eq_true rfl) dX8_as_5 ⟨by decide, by decide⟩ ?_
  cases r2 with
  | none =>
    replace hf := fqM_n hf
    refine g_st (st' := [.null]) rfl ?_
    refine g_astore_nN (pc := 8) E [(3, .null), (0, .ref (ad 0)), (1, .int x1), (2, .int x2)] dX8_as_8 rfl (by decide) rfl ?_
    refine g_aload_nN (pc := 9) E dX8_as_9 0 rfl rfl ?_
    refine g_ifnullN (pc := 10) E 20 dX8_as_10 (by decide) ?_
    refine g_aload_n (pc := 20) E dX8_as_20 1 rfl rfl ?_
    refine g_iconst (pc := 21) E (1 : Int32) dX8_as_21 (by decide) ?_
    obtain ⟨r6, σ7, e5, hf⟩ := fq_b2 hf
    refine g_callVl (pc := 22) E 0 (zx_l (by decide)) (fun _ _ => rfl) rfl [.int (1 : Int32)] (fun l D sz => qX8_finding l D cy ad sz n σ k (1 : Int32) e5) gX8_as_X8_finding rfl rfl rfl kcX8_finding ⟨by decide, by decide⟩ rfl rfl (Nat.le_of_ble_eq_true rfl) dX8_as_22 ⟨by decide, by decide⟩ ?_
    exact hret _ _ _ _ dX8_as_25 (Option.some.inj hf)
  | some z3 =>
    obtain ⟨h4, hf⟩ := fq_g (fqM_s hf)
    refine g_st (st' := [.ref (ad (26 + 4 * z3))]) rfl ?_
    refine g_astore_n (pc := 8) E [(3, .ref (ad (26 + 4 * z3))), (0, .ref (ad 0)), (1, .int x1), (2, .int x2)] dX8_as_8 rfl (by decide) rfl ?_
    refine g_aload_n (pc := 9) E dX8_as_9 0 rfl rfl ?_
    refine g_ifnull (pc := 10) E dX8_as_10 ?_
    refine g_iload_n (pc := 13) E dX8_as_13 3 rfl rfl ?_
    obtain ⟨r9, e8, hf⟩ := fq_b hf
    refine g_callSi (pc := 14) E [.int x2] (fun l D sz => qX8_isKind l D cy ad sz n σ k x2 e8) gX8_as_X8_isKind rfl rfl rfl kcX8_isKind ⟨by decide, by decide⟩ rfl rfl (Nat.le_of_ble_eq_true rfl) dX8_as_14 ⟨by decide, by decide⟩ ?_
    refine g_if_ne (pc := 17) E 26 dX8_as_17 (by decide) (fun c10 => ?_) (fun c10 => ?_)
    · replace hf := fq_f c10 hf
      refine g_iload_n (pc := 26) E dX8_as_26 3 rfl rfl ?_
      refine g_if_eq (pc := 27) E 44 dX8_as_27 (by decide) (fun c11 => ?_) (fun c11 => ?_)
      · replace hf := fq_t c11 hf
        refine g_aload_n (pc := 44) E dX8_as_44 0 rfl rfl ?_
        obtain ⟨r13, e12, hf⟩ := fq_b hf
        refine g_callVl (pc := 45) E (26 + 4 * z3) (zx_p0 h4) (tx_p cy ad n z3) rfl [] (fun l D sz => qX5_ownMean l D cy ad sz n σ k z3 h4 e12) gX8_as_X5_ownMean rfl rfl rfl kcX5_ownMean ⟨by decide, by decide⟩ rfl rfl (Nat.le_of_ble_eq_true rfl) dX8_as_45 ⟨by decide, by decide⟩ ?_
        exact hret _ _ _ _ dX8_as_48 (Option.some.inj hf)
      · replace hf := fq_f c11 hf
        refine g_iload_n (pc := 30) E dX8_as_30 3 rfl rfl ?_
        refine g_aload_n (pc := 31) E dX8_as_31 0 rfl rfl ?_
        refine g_getfield (pc := 32) E uX8_as_X5 (26 + 4 * z3) (zx_p0 h4) (tx_p cy ad n z3) rfl 0 (by decide) wX8_as_2 (.int (fqI σ (26 + 4 * z3) 0)) rfl dX8_as_32 ?_
        refine g_icmp_eq (pc := 35) E 44 dX8_as_35 (by decide) (fun c14 => ?_) (fun c14 => ?_)
        · replace hf := fq_t c14 hf
          refine g_aload_n (pc := 44) E dX8_as_44 0 rfl rfl ?_
          obtain ⟨r16, e15, hf⟩ := fq_b hf
          refine g_callVl (pc := 45) E (26 + 4 * z3) (zx_p0 h4) (tx_p cy ad n z3) rfl [] (fun l D sz => qX5_ownMean l D cy ad sz n σ k z3 h4 e15) gX8_as_X5_ownMean rfl rfl rfl kcX5_ownMean ⟨by decide, by decide⟩ rfl rfl (Nat.le_of_ble_eq_true rfl) dX8_as_45 ⟨by decide, by decide⟩ ?_
          exact hret _ _ _ _ dX8_as_48 (Option.some.inj hf)
        · replace hf := fq_f c14 hf
          refine g_aload_n (pc := 38) E dX8_as_38 1 rfl rfl ?_
          refine g_iconst (pc := 39) E (5 : Int32) dX8_as_39 (by decide) ?_
          obtain ⟨r18, σ19, e17, hf⟩ := fq_b2 hf
          refine g_callVl (pc := 40) E 0 (zx_l (by decide)) (fun _ _ => rfl) rfl [.int (5 : Int32)] (fun l D sz => qX8_finding l D cy ad sz n σ k (5 : Int32) e17) gX8_as_X8_finding rfl rfl rfl kcX8_finding ⟨by decide, by decide⟩ rfl rfl (Nat.le_of_ble_eq_true rfl) dX8_as_40 ⟨by decide, by decide⟩ ?_
          exact hret _ _ _ _ dX8_as_43 (Option.some.inj hf)
    · replace hf := fq_t c10 hf
      refine g_aload_n (pc := 20) E dX8_as_20 1 rfl rfl ?_
      refine g_iconst (pc := 21) E (1 : Int32) dX8_as_21 (by decide) ?_
      obtain ⟨r21, σ22, e20, hf⟩ := fq_b2 hf
      refine g_callVl (pc := 22) E 0 (zx_l (by decide)) (fun _ _ => rfl) rfl [.int (1 : Int32)] (fun l D sz => qX8_finding l D cy ad sz n σ k (1 : Int32) e20) gX8_as_X8_finding rfl rfl rfl kcX8_finding ⟨by decide, by decide⟩ rfl rfl (Nat.le_of_ble_eq_true rfl) dX8_as_22 ⟨by decide, by decide⟩ ?_
      exact hret _ _ _ _ dX8_as_25 (Option.some.inj hf)

/-! X8_become -/
theorem wX8_become_0 : Cond.fieldLink RX8 10 "FairQueue" "players" "LFairQueue$Players;" ∈ wsX8_become := by decide +kernel
theorem uX8_become_X8 : ∀ w ∈ u_ws RX8 TX8 13, w ∈ wsX8_become := (fun _ h => List.mem_cons_of_mem _ (List.mem_append_left _ (List.mem_append_left _ (List.mem_append_right _ h))))
theorem wX8_become_2 : Cond.fieldLink RX8 93 "FairQueue$Player" "kind" "I" ∈ wsX8_become := by decide +kernel
theorem uX8_become_X5 : ∀ w ∈ u_ws RX5 TX5 5, w ∈ wsX8_become := (fun _ h => List.mem_cons_of_mem _ (List.mem_append_left _ (List.mem_append_right _ h)))
theorem kcX8_become : yX8_become.cls = RX8 ∧ yX8_become.cls ≠ "java/lang/invoke/MethodHandle" ∧ yX8_become.cls ≠ "java/lang/invoke/VarHandle" ∧ (parseMethodDescriptor yX8_become.desc).map (fun d => d.parameters.length) = some 2 := by decide +kernel
def pX8_become (k n : Nat) (σ : fqS) (x1 : Int32) (x2 : Int32) : Option (Int64 × fqS) :=
  ((pX6_at k n σ x1).bind (fun r2 => (fqM r2 ((fqB2 (pX8_finding k n σ (1 : Int32)) (fun r6 σ7 => some (r6, σ7)))) (fun z3 => (if z3 < n then ((pX8_isKind k n σ x2).bind (fun r9 => (if r9 = 0 then (fqB2 (pX8_finding k n σ (1 : Int32)) (fun r14 σ15 => some (r14, σ15))) else (fqN (fqPI σ (26 + 4 * z3) 0 x2) (fun σ11 => some ((Int32.toInt64 (fqI σ (26 + 4 * z3) 0)), σ11)))))) else none)))))
set_option maxRecDepth 100000 in
set_option maxHeartbeats 4000000 in
theorem qX8_become (l : Launch) (D : va_G) (cy : Nat → ClassId) (ad : Nat → Nat) (sz n : Nat) (σ : fqS) (k : Nat) (x1 : Int32) (x2 : Int32) {r : Int64} {σ' : fqS} (hf : pX8_become k n σ x1 x2 = some (r, σ')) : Met l yX8_become wsX8_become ({ frames := 1, cells := 0, slots := 0, locals := 21 } : Room) (fqPc (TX cy) ZX D cy ad sz n σ [.ref (ad 0), .int x1, .int x2]) (fqQl (TX cy) ZX D ad sz n σ r σ') 0 0 (fqA (TX cy) ZX ad sz n σ) := by
  refine fq_enter_l (cc := cX8_become) (maxL := 5) (own := RX8) _ (by decide) rfl (Nat.le_of_ble_eq_true rfl) rfl (fun X E hret => ?_)
  unfold pX8_become at hf
  show fqG X (TX cy) ZX ad n 5 0 0 σ 0 [(0, .ref (ad 0)), (1, .int x1), (2, .int x2)] []
  refine g_aload_n (pc := 0) E dX8_become_0 0 rfl rfl ?_
  refine g_getfield (pc := 1) E uX8_become_X8 0 (zx_l (by decide)) (fun _ _ => rfl) rfl 0 (by decide) wX8_become_0 (.ref (ad 1)) rfl dX8_become_1 ?_
  refine g_iload_n (pc := 4) E dX8_become_4 1 rfl rfl ?_
  obtain ⟨r2, e1, hf⟩ := fq_b hf
  refine g_callVq (pc := 5) E 1 (zx_l (by decide)) (fun _ _ => rfl) rfl [.int x1] (fun l D sz => qX6_at l D cy ad sz n σ k x1 e1) gX8_become_X6_at rfl rfl rfl kcX6_at ⟨by decide, by decide⟩ rfl rfl (Nat.le_of_ble_eq_true rfl) dX8_become_5 ⟨by decide, by decide⟩ ?_
  cases r2 with
  | none =>
    replace hf := fqM_n hf
    refine g_st (st' := [.null]) rfl ?_
    refine g_astore_nN (pc := 8) E [(3, .null), (0, .ref (ad 0)), (1, .int x1), (2, .int x2)] dX8_become_8 rfl (by decide) rfl ?_
    refine g_aload_nN (pc := 9) E dX8_become_9 0 rfl rfl ?_
    refine g_ifnullN (pc := 10) E 20 dX8_become_10 (by decide) ?_
    refine g_aload_n (pc := 20) E dX8_become_20 1 rfl rfl ?_
    refine g_iconst (pc := 21) E (1 : Int32) dX8_become_21 (by decide) ?_
    obtain ⟨r6, σ7, e5, hf⟩ := fq_b2 hf
    refine g_callVl (pc := 22) E 0 (zx_l (by decide)) (fun _ _ => rfl) rfl [.int (1 : Int32)] (fun l D sz => qX8_finding l D cy ad sz n σ k (1 : Int32) e5) gX8_become_X8_finding rfl rfl rfl kcX8_finding ⟨by decide, by decide⟩ rfl rfl (Nat.le_of_ble_eq_true rfl) dX8_become_22 ⟨by decide, by decide⟩ ?_
    exact hret _ _ _ _ dX8_become_25 (Option.some.inj hf)
  | some z3 =>
    obtain ⟨h4, hf⟩ := fq_g (fqM_s hf)
    refine g_st (st' := [.ref (ad (26 + 4 * z3))]) rfl ?_
    refine g_astore_n (pc := 8) E [(3, .ref (ad (26 + 4 * z3))), (0, .ref (ad 0)), (1, .int x1), (2, .int x2)] dX8_become_8 rfl (by decide) rfl ?_
    refine g_aload_n (pc := 9) E dX8_become_9 0 rfl rfl ?_
    refine g_ifnull (pc := 10) E dX8_become_10 ?_
    refine g_iload_n (pc := 13) E dX8_become_13 3 rfl rfl ?_
    obtain ⟨r9, e8, hf⟩ := fq_b hf
    refine g_callSi (pc := 14) E [.int x2] (fun l D sz => qX8_isKind l D cy ad sz n σ k x2 e8) gX8_become_X8_isKind rfl rfl rfl kcX8_isKind ⟨by decide, by decide⟩ rfl rfl (Nat.le_of_ble_eq_true rfl) dX8_become_14 ⟨by decide, by decide⟩ ?_
    refine g_if_ne (pc := 17) E 26 dX8_become_17 (by decide) (fun c10 => ?_) (fun c10 => ?_)
    · replace hf := fq_f c10 hf
      refine g_aload_n (pc := 26) E dX8_become_26 0 rfl rfl ?_
      refine g_getfield (pc := 27) E uX8_become_X5 (26 + 4 * z3) (zx_p0 h4) (tx_p cy ad n z3) rfl 0 (by decide) wX8_become_2 (.int (fqI σ (26 + 4 * z3) 0)) rfl dX8_become_27 ?_
      refine g_istore (pc := 30) E [(4, .int (fqI σ (26 + 4 * z3) 0)), (3, .ref (ad (26 + 4 * z3))), (0, .ref (ad 0)), (1, .int x1), (2, .int x2)] dX8_become_30 (by decide) rfl ?_
      refine g_aload_n (pc := 32) E dX8_become_32 1 rfl rfl ?_
      refine g_iload_n (pc := 33) E dX8_become_33 4 rfl rfl ?_
      refine g_putI (pc := 34) E uX8_become_X5 tyX5 tyX5_ok nmX5 (26 + 4 * z3) (zx_p0 h4) (tx_p cy ad n z3) rfl 0 (by decide) wX8_become_2 rfl rfl (Nat.le_of_ble_eq_true rfl) rfl dX8_become_34 ?_
      obtain ⟨σ11, e12, hf⟩ := fq_n hf
      refine g_sg e12 ?_
      refine g_iload (pc := 37) E dX8_become_37 0 rfl ?_
      refine g_i2l (pc := 39) E dX8_become_39 ?_
      exact hret _ _ _ _ dX8_become_40 (Option.some.inj hf)
    · replace hf := fq_t c10 hf
      refine g_aload_n (pc := 20) E dX8_become_20 1 rfl rfl ?_
      refine g_iconst (pc := 21) E (1 : Int32) dX8_become_21 (by decide) ?_
      obtain ⟨r14, σ15, e13, hf⟩ := fq_b2 hf
      refine g_callVl (pc := 22) E 0 (zx_l (by decide)) (fun _ _ => rfl) rfl [.int (1 : Int32)] (fun l D sz => qX8_finding l D cy ad sz n σ k (1 : Int32) e13) gX8_become_X8_finding rfl rfl rfl kcX8_finding ⟨by decide, by decide⟩ rfl rfl (Nat.le_of_ble_eq_true rfl) dX8_become_22 ⟨by decide, by decide⟩ ?_
      exact hret _ _ _ _ dX8_become_25 (Option.some.inj hf)

/-! X8_isBound -/
theorem wX8_isBound_0 : Cond.constant RX8 275 (10000000) ∈ wsX8_isBound := by decide +kernel
theorem kcX8_isBound : yX8_isBound.cls ≠ "java/lang/invoke/MethodHandle" ∧ yX8_isBound.cls ≠ "java/lang/invoke/VarHandle" ∧ (parseMethodDescriptor yX8_isBound.desc).map (fun d => d.parameters.length) = some 1 := by decide +kernel
def pX8_isBound (k n : Nat) (σ : fqS) (x0 : Int32) : Option Int32 :=
  (if x0 < 0 then some (0 : Int32) else (if (10000000 : Int32) < x0 then some (0 : Int32) else some (1 : Int32)))
set_option maxRecDepth 100000 in
set_option maxHeartbeats 4000000 in
theorem qX8_isBound (l : Launch) (D : va_G) (cy : Nat → ClassId) (ad : Nat → Nat) (sz n : Nat) (σ : fqS) (k : Nat) (x0 : Int32) {r : Int32} (hf : pX8_isBound k n σ x0 = some r) : Met l yX8_isBound wsX8_isBound ({ frames := 0, cells := 0, slots := 0, locals := 0 } : Room) (fqPc (TX cy) ZX D cy ad sz n σ [.int x0]) (fqQi (TX cy) ZX D ad sz n σ r σ) 0 0 (fqA (TX cy) ZX ad sz n σ) := by
  refine fq_enter_z (cc := cX8_isBound) (maxL := 1) (own := RX8) _ (by decide) rfl (Nat.le_of_ble_eq_true rfl) rfl (fun X E hret => ?_)
  unfold pX8_isBound at hf
  show fqG X (TX cy) ZX ad n 1 0 0 σ 0 [(0, .int x0)] []
  refine g_iload_n (pc := 0) E dX8_isBound_0 0 rfl rfl ?_
  refine g_if_lt (pc := 1) E 15 dX8_isBound_1 (by decide) (fun c1 => ?_) (fun c1 => ?_)
  · replace hf := fq_t c1 hf
    refine g_iconst (pc := 15) E (0 : Int32) dX8_isBound_15 (by decide) ?_
    exact hret _ _ _ _ rfl dX8_isBound_16 (congrArg (fun z => (z, σ)) (Option.some.inj hf))
  · replace hf := fq_f c1 hf
    refine g_iload_n (pc := 4) E dX8_isBound_4 0 rfl rfl ?_
    refine g_ldc_w (pc := 5) E dX8_isBound_5 wX8_isBound_0 ?_
    refine g_icmp_gt (pc := 8) E 15 dX8_isBound_8 (by decide) (fun c2 => ?_) (fun c2 => ?_)
    · replace hf := fq_t c2 hf
      refine g_iconst (pc := 15) E (0 : Int32) dX8_isBound_15 (by decide) ?_
      exact hret _ _ _ _ rfl dX8_isBound_16 (congrArg (fun z => (z, σ)) (Option.some.inj hf))
    · replace hf := fq_f c2 hf
      refine g_iconst (pc := 11) E (1 : Int32) dX8_isBound_11 (by decide) ?_
      refine g_goto (pc := 12) E 16 dX8_isBound_12 (by decide) ?_
      exact hret _ _ _ _ rfl dX8_isBound_16 (congrArg (fun z => (z, σ)) (Option.some.inj hf))

/-! X8_bounds -/
theorem wX8_bounds_0 : Cond.fieldLink RX8 50 "FairQueue" "bounds" "LFairQueue$Bounds;" ∈ wsX8_bounds := by decide +kernel
theorem uX8_bounds_X8 : ∀ w ∈ u_ws RX8 TX8 13, w ∈ wsX8_bounds := (fun _ h => List.mem_cons_of_mem _ (List.mem_append_left _ (List.mem_append_right _ h)))
theorem wX8_bounds_2 : Cond.fieldLink RX8 131 "FairQueue$Bounds" "base" "J" ∈ wsX8_bounds := by decide +kernel
theorem uX8_bounds_X0 : ∀ w ∈ u_ws RX0 TX0 3, w ∈ wsX8_bounds := (fun _ h => List.mem_cons_of_mem _ (List.mem_append_right _ h))
theorem wX8_bounds_4 : Cond.fieldLink RX8 134 "FairQueue$Bounds" "step" "J" ∈ wsX8_bounds := by decide +kernel
theorem wX8_bounds_5 : Cond.fieldLink RX8 137 "FairQueue$Bounds" "top" "J" ∈ wsX8_bounds := by decide +kernel
theorem kcX8_bounds : yX8_bounds.cls = RX8 ∧ yX8_bounds.cls ≠ "java/lang/invoke/MethodHandle" ∧ yX8_bounds.cls ≠ "java/lang/invoke/VarHandle" ∧ (parseMethodDescriptor yX8_bounds.desc).map (fun d => d.parameters.length) = some 3 := by decide +kernel
def pX8_bounds (k n : Nat) (σ : fqS) (x1 : Int32) (x2 : Int32) (x3 : Int32) : Option (Int64 × fqS) :=
  ((pX8_isBound k n σ x1).bind (fun r2 => (if r2 = 0 then (fqB2 (pX8_finding k n σ (1 : Int32)) (fun r5 σ6 => some (r5, σ6))) else ((pX8_isBound k n σ x2).bind (fun r8 => (if r8 = 0 then (fqB2 (pX8_finding k n σ (1 : Int32)) (fun r11 σ12 => some (r11, σ12))) else ((pX8_isBound k n σ x3).bind (fun r14 => (if r14 = 0 then (fqB2 (pX8_finding k n σ (1 : Int32)) (fun r23 σ24 => some (r23, σ24))) else (fqN (fqPJ σ 23 0 (Int32.toInt64 x1)) (fun σ16 => (fqN (fqPJ σ16 23 1 (Int32.toInt64 x2)) (fun σ18 => (fqN (fqPJ σ18 23 2 (Int32.toInt64 x3)) (fun σ20 => some ((1 : Int64), σ20))))))))))))))))
set_option maxRecDepth 100000 in
set_option maxHeartbeats 4000000 in
theorem qX8_bounds (l : Launch) (D : va_G) (cy : Nat → ClassId) (ad : Nat → Nat) (sz n : Nat) (σ : fqS) (k : Nat) (x1 : Int32) (x2 : Int32) (x3 : Int32) {r : Int64} {σ' : fqS} (hf : pX8_bounds k n σ x1 x2 x3 = some (r, σ')) : Met l yX8_bounds wsX8_bounds ({ frames := 1, cells := 0, slots := 0, locals := 21 } : Room) (fqPc (TX cy) ZX D cy ad sz n σ [.ref (ad 0), .int x1, .int x2, .int x3]) (fqQl (TX cy) ZX D ad sz n σ r σ') 0 0 (fqA (TX cy) ZX ad sz n σ) := by
  refine fq_enter_l (cc := cX8_bounds) (maxL := 4) (own := RX8) _ (by decide) rfl (Nat.le_of_ble_eq_true rfl) rfl (fun X E hret => ?_)
  unfold pX8_bounds at hf
  show fqG X (TX cy) ZX ad n 4 0 0 σ 0 [(0, .ref (ad 0)), (1, .int x1), (2, .int x2), (3, .int x3)] []
  refine g_iload_n (pc := 0) E dX8_bounds_0 1 rfl rfl ?_
  obtain ⟨r2, e1, hf⟩ := fq_b hf
  refine g_callSi (pc := 1) E [.int x1] (fun l D sz => qX8_isBound l D cy ad sz n σ k x1 e1) gX8_bounds_X8_isBound rfl rfl rfl kcX8_isBound ⟨by decide, by decide⟩ rfl rfl (Nat.le_of_ble_eq_true rfl) dX8_bounds_1 ⟨by decide, by decide⟩ ?_
  refine g_if_eq (pc := 4) E 21 dX8_bounds_4 (by decide) (fun c3 => ?_) (fun c3 => ?_)
  · replace hf := fq_t c3 hf
    refine g_aload_n (pc := 21) E dX8_bounds_21 0 rfl rfl ?_
    refine g_iconst (pc := 22) E (1 : Int32) dX8_bounds_22 (by decide) ?_
    obtain ⟨r5, σ6, e4, hf⟩ := fq_b2 hf
    refine g_callVl (pc := 23) E 0 (zx_l (by decide)) (fun _ _ => rfl) rfl [.int (1 : Int32)] (fun l D sz => qX8_finding l D cy ad sz n σ k (1 : Int32) e4) gX8_bounds_X8_finding rfl rfl rfl kcX8_finding ⟨by decide, by decide⟩ rfl rfl (Nat.le_of_ble_eq_true rfl) dX8_bounds_23 ⟨by decide, by decide⟩ ?_
    exact hret _ _ _ _ dX8_bounds_26 (Option.some.inj hf)
  · replace hf := fq_f c3 hf
    refine g_iload_n (pc := 7) E dX8_bounds_7 2 rfl rfl ?_
    obtain ⟨r8, e7, hf⟩ := fq_b hf
    refine g_callSi (pc := 8) E [.int x2] (fun l D sz => qX8_isBound l D cy ad sz n σ k x2 e7) gX8_bounds_X8_isBound rfl rfl rfl kcX8_isBound ⟨by decide, by decide⟩ rfl rfl (Nat.le_of_ble_eq_true rfl) dX8_bounds_8 ⟨by decide, by decide⟩ ?_
    refine g_if_eq (pc := 11) E 21 dX8_bounds_11 (by decide) (fun c9 => ?_) (fun c9 => ?_)
    · replace hf := fq_t c9 hf
      refine g_aload_n (pc := 21) E dX8_bounds_21 0 rfl rfl ?_
      refine g_iconst (pc := 22) E (1 : Int32) dX8_bounds_22 (by decide) ?_
      obtain ⟨r11, σ12, e10, hf⟩ := fq_b2 hf
      refine g_callVl (pc := 23) E 0 (zx_l (by decide)) (fun _ _ => rfl) rfl [.int (1 : Int32)] (fun l D sz => qX8_finding l D cy ad sz n σ k (1 : Int32) e10) gX8_bounds_X8_finding rfl rfl rfl kcX8_finding ⟨by decide, by decide⟩ rfl rfl (Nat.le_of_ble_eq_true rfl) dX8_bounds_23 ⟨by decide, by decide⟩ ?_
      exact hret _ _ _ _ dX8_bounds_26 (Option.some.inj hf)
    · replace hf := fq_f c9 hf
      refine g_iload_n (pc := 14) E dX8_bounds_14 3 rfl rfl ?_
      obtain ⟨r14, e13, hf⟩ := fq_b hf
      refine g_callSi (pc := 15) E [.int x3] (fun l D sz => qX8_isBound l D cy ad sz n σ k x3 e13) gX8_bounds_X8_isBound rfl rfl rfl kcX8_isBound ⟨by decide, by decide⟩ rfl rfl (Nat.le_of_ble_eq_true rfl) dX8_bounds_15 ⟨by decide, by decide⟩ ?_
      refine g_if_ne (pc := 18) E 27 dX8_bounds_18 (by decide) (fun c15 => ?_) (fun c15 => ?_)
      · replace hf := fq_f c15 hf
        refine g_aload_n (pc := 27) E dX8_bounds_27 0 rfl rfl ?_
        refine g_getfield (pc := 28) E uX8_bounds_X8 0 (zx_l (by decide)) (fun _ _ => rfl) rfl 6 (by decide) wX8_bounds_0 (.ref (ad 23)) rfl dX8_bounds_28 ?_
        refine g_iload_n (pc := 31) E dX8_bounds_31 1 rfl rfl ?_
        refine g_i2l (pc := 32) E dX8_bounds_32 ?_
        refine g_putJ (pc := 33) E uX8_bounds_X0 tyX0 tyX0_ok nmX0 23 (zx_l (by decide)) (fun _ _ => rfl) rfl 0 (by decide) wX8_bounds_2 rfl rfl (Nat.le_of_ble_eq_true rfl) rfl dX8_bounds_33 ?_
        obtain ⟨σ16, e17, hf⟩ := fq_n hf
        refine g_sg e17 ?_
        refine g_aload_n (pc := 36) E dX8_bounds_36 0 rfl rfl ?_
        refine g_getfield (pc := 37) E uX8_bounds_X8 0 (zx_l (by decide)) (fun _ _ => rfl) rfl 6 (by decide) wX8_bounds_0 (.ref (ad 23)) rfl dX8_bounds_37 ?_
        refine g_iload_n (pc := 40) E dX8_bounds_40 2 rfl rfl ?_
        refine g_i2l (pc := 41) E dX8_bounds_41 ?_
        refine g_putJ (pc := 42) E uX8_bounds_X0 tyX0 tyX0_ok nmX0 23 (zx_l (by decide)) (fun _ _ => rfl) rfl 1 (by decide) wX8_bounds_4 rfl rfl (Nat.le_of_ble_eq_true rfl) rfl dX8_bounds_42 ?_
        obtain ⟨σ18, e19, hf⟩ := fq_n hf
        refine g_sg e19 ?_
        refine g_aload_n (pc := 45) E dX8_bounds_45 0 rfl rfl ?_
        refine g_getfield (pc := 46) E uX8_bounds_X8 0 (zx_l (by decide)) (fun _ _ => rfl) rfl 6 (by decide) wX8_bounds_0 (.ref (ad 23)) rfl dX8_bounds_46 ?_
        refine g_iload_n (pc := 49) E dX8_bounds_49 3 rfl rfl ?_
        refine g_i2l (pc := 50) E dX8_bounds_50 ?_
        refine g_putJ (pc := 51) E uX8_bounds_X0 tyX0 tyX0_ok nmX0 23 (zx_l (by decide)) (fun _ _ => rfl) rfl 2 (by decide) wX8_bounds_5 rfl rfl (Nat.le_of_ble_eq_true rfl) rfl dX8_bounds_51 ?_
        obtain ⟨σ20, e21, hf⟩ := fq_n hf
        refine g_sg e21 ?_
        refine g_lconst (pc := 54) E (1 : Int64) dX8_bounds_54 (by decide) ?_
        exact hret _ _ _ _ dX8_bounds_55 (Option.some.inj hf)
      · replace hf := fq_t c15 hf
        refine g_aload_n (pc := 21) E dX8_bounds_21 0 rfl rfl ?_
        refine g_iconst (pc := 22) E (1 : Int32) dX8_bounds_22 (by decide) ?_
        obtain ⟨r23, σ24, e22, hf⟩ := fq_b2 hf
        refine g_callVl (pc := 23) E 0 (zx_l (by decide)) (fun _ _ => rfl) rfl [.int (1 : Int32)] (fun l D sz => qX8_finding l D cy ad sz n σ k (1 : Int32) e22) gX8_bounds_X8_finding rfl rfl rfl kcX8_finding ⟨by decide, by decide⟩ rfl rfl (Nat.le_of_ble_eq_true rfl) dX8_bounds_23 ⟨by decide, by decide⟩ ?_
        exact hret _ _ _ _ dX8_bounds_26 (Option.some.inj hf)

/-! X8_chance -/
theorem wX8_chance_0 : Cond.fieldLink RX8 10 "FairQueue" "players" "LFairQueue$Players;" ∈ wsX8_chance := by decide +kernel
theorem uX8_chance_X8 : ∀ w ∈ u_ws RX8 TX8 13, w ∈ wsX8_chance := (fun _ h => List.mem_cons_of_mem _ (List.mem_append_left _ (List.mem_append_left _ (List.mem_append_right _ h))))
theorem kcX8_chance : yX8_chance.cls = RX8 ∧ yX8_chance.cls ≠ "java/lang/invoke/MethodHandle" ∧ yX8_chance.cls ≠ "java/lang/invoke/VarHandle" ∧ (parseMethodDescriptor yX8_chance.desc).map (fun d => d.parameters.length) = some 2 := by decide +kernel
def pX8_chance (k n : Nat) (σ : fqS) (x1 : Int32) (x2 : Int32) : Option (Int64 × fqS) :=
  ((pX6_at k n σ x1).bind (fun r2 => (fqM r2 ((fqB2 (pX8_finding k n σ (1 : Int32)) (fun r6 σ7 => some (r6, σ7)))) (fun z3 => (if z3 < n then ((pX6_at k n σ x2).bind (fun r9 => (fqM r9 ((fqB2 (pX8_finding k n σ (1 : Int32)) (fun r13 σ14 => some (r13, σ14)))) (fun z10 => (if z10 < n then (if x1 = x2 then (fqB2 (pX8_finding k n σ (1 : Int32)) (fun r21 σ22 => some (r21, σ22))) else ((pX8_bitOf k n σ x2).bind (fun r17 => ((pX6_chanceOf k n σ z3 r17).bind (fun r19 => some (r19, σ)))))) else none))))) else none)))))
set_option maxRecDepth 100000 in
set_option maxHeartbeats 4000000 in
theorem qX8_chance (l : Launch) (D : va_G) (cy : Nat → ClassId) (ad : Nat → Nat) (sz n : Nat) (σ : fqS) (k : Nat) (x1 : Int32) (x2 : Int32) {r : Int64} {σ' : fqS} (hf : pX8_chance k n σ x1 x2 = some (r, σ')) : Met l yX8_chance wsX8_chance ({ frames := 3, cells := 0, slots := 0, locals := 77 } : Room) (fqPc (TX cy) ZX D cy ad sz n σ [.ref (ad 0), .int x1, .int x2]) (fqQl (TX cy) ZX D ad sz n σ r σ') 0 0 (fqA (TX cy) ZX ad sz n σ) := by
  refine fq_enter_l (cc := cX8_chance) (maxL := 4) (own := RX8) _ (by decide) rfl (Nat.le_of_ble_eq_true rfl) rfl (fun X E hret => ?_)
  unfold pX8_chance at hf
  show fqG X (TX cy) ZX ad n 4 0 0 σ 0 [(0, .ref (ad 0)), (1, .int x1), (2, .int x2)] []
  refine g_aload_n (pc := 0) E dX8_chance_0 0 rfl rfl ?_
  refine g_getfield (pc := 1) E uX8_chance_X8 0 (zx_l (by decide)) (fun _ _ => rfl) rfl 0 (by decide) wX8_chance_0 (.ref (ad 1)) rfl dX8_chance_1 ?_
  refine g_iload_n (pc := 4) E dX8_chance_4 1 rfl rfl ?_
  obtain ⟨r2, e1, hf⟩ := fq_b hf
  refine g_callVq (pc := 5) E 1 (zx_l (by decide)) (fun _ _ => rfl) rfl [.int x1] (fun l D sz => qX6_at l D cy ad sz n σ k x1 e1) gX8_chance_X6_at rfl rfl rfl kcX6_at ⟨by decide, by decide⟩ rfl rfl (Nat.le_of_ble_eq_true rfl) dX8_chance_5 ⟨by decide, by decide⟩ ?_
  cases r2 with
  | none =>
    replace hf := fqM_n hf
    refine g_st (st' := [.null]) rfl ?_
    refine g_astore_nN (pc := 8) E [(3, .null), (0, .ref (ad 0)), (1, .int x1), (2, .int x2)] dX8_chance_8 rfl (by decide) rfl ?_
    refine g_aload_nN (pc := 9) E dX8_chance_9 0 rfl rfl ?_
    refine g_ifnullN (pc := 10) E 29 dX8_chance_10 (by decide) ?_
    refine g_aload_n (pc := 29) E dX8_chance_29 1 rfl rfl ?_
    refine g_iconst (pc := 30) E (1 : Int32) dX8_chance_30 (by decide) ?_
    obtain ⟨r6, σ7, e5, hf⟩ := fq_b2 hf
    refine g_callVl (pc := 31) E 0 (zx_l (by decide)) (fun _ _ => rfl) rfl [.int (1 : Int32)] (fun l D sz => qX8_finding l D cy ad sz n σ k (1 : Int32) e5) gX8_chance_X8_finding rfl rfl rfl kcX8_finding ⟨by decide, by decide⟩ rfl rfl (Nat.le_of_ble_eq_true rfl) dX8_chance_31 ⟨by decide, by decide⟩ ?_
    exact hret _ _ _ _ dX8_chance_34 (Option.some.inj hf)
  | some z3 =>
    obtain ⟨h4, hf⟩ := fq_g (fqM_s hf)
    refine g_st (st' := [.ref (ad (26 + 4 * z3))]) rfl ?_
    refine g_astore_n (pc := 8) E [(3, .ref (ad (26 + 4 * z3))), (0, .ref (ad 0)), (1, .int x1), (2, .int x2)] dX8_chance_8 rfl (by decide) rfl ?_
    refine g_aload_n (pc := 9) E dX8_chance_9 0 rfl rfl ?_
    refine g_ifnull (pc := 10) E dX8_chance_10 ?_
    refine g_aload_n (pc := 13) E dX8_chance_13 1 rfl rfl ?_
    refine g_getfield (pc := 14) E uX8_chance_X8 0 (zx_l (by decide)) (fun _ _ => rfl) rfl 0 (by decide) wX8_chance_0 (.ref (ad 1)) rfl dX8_chance_14 ?_
    refine g_iload_n (pc := 17) E dX8_chance_17 3 rfl rfl ?_
    obtain ⟨r9, e8, hf⟩ := fq_b hf
    refine g_callVq (pc := 18) E 1 (zx_l (by decide)) (fun _ _ => rfl) rfl [.int x2] (fun l D sz => qX6_at l D cy ad sz n σ k x2 e8) gX8_chance_X6_at rfl rfl rfl kcX6_at ⟨by decide, by decide⟩ rfl rfl (Nat.le_of_ble_eq_true rfl) dX8_chance_18 ⟨by decide, by decide⟩ ?_
    cases r9 with
    | none =>
      replace hf := fqM_n hf
      refine g_st (st' := [.null]) rfl ?_
      refine g_ifnullN (pc := 21) E 29 dX8_chance_21 (by decide) ?_
      refine g_aload_n (pc := 29) E dX8_chance_29 1 rfl rfl ?_
      refine g_iconst (pc := 30) E (1 : Int32) dX8_chance_30 (by decide) ?_
      obtain ⟨r13, σ14, e12, hf⟩ := fq_b2 hf
      refine g_callVl (pc := 31) E 0 (zx_l (by decide)) (fun _ _ => rfl) rfl [.int (1 : Int32)] (fun l D sz => qX8_finding l D cy ad sz n σ k (1 : Int32) e12) gX8_chance_X8_finding rfl rfl rfl kcX8_finding ⟨by decide, by decide⟩ rfl rfl (Nat.le_of_ble_eq_true rfl) dX8_chance_31 ⟨by decide, by decide⟩ ?_
      exact hret _ _ _ _ dX8_chance_34 (Option.some.inj hf)
    | some z10 =>
      obtain ⟨h11, hf⟩ := fq_g (fqM_s hf)
      refine g_st (st' := [.ref (ad (26 + 4 * z10))]) rfl ?_
      refine g_ifnull (pc := 21) E dX8_chance_21 ?_
      refine g_iload_n (pc := 24) E dX8_chance_24 2 rfl rfl ?_
      refine g_iload_n (pc := 25) E dX8_chance_25 3 rfl rfl ?_
      refine g_icmp_ne (pc := 26) E 35 dX8_chance_26 (by decide) (fun c15 => ?_) (fun c15 => ?_)
      · replace hf := fq_f c15 hf
        refine g_aload_n (pc := 35) E dX8_chance_35 1 rfl rfl ?_
        refine g_getfield (pc := 36) E uX8_chance_X8 0 (zx_l (by decide)) (fun _ _ => rfl) rfl 0 (by decide) wX8_chance_0 (.ref (ad 1)) rfl dX8_chance_36 ?_
        refine g_aload_n (pc := 39) E dX8_chance_39 0 rfl rfl ?_
        refine g_iload_n (pc := 40) E dX8_chance_40 3 rfl rfl ?_
        obtain ⟨r17, e16, hf⟩ := fq_b hf
        refine g_callSi (pc := 41) E [.int x2] (fun l D sz => qX8_bitOf l D cy ad sz n σ k x2 e16) gX8_chance_X8_bitOf rfl rfl rfl kcX8_bitOf ⟨by decide, by decide⟩ rfl rfl (Nat.le_of_ble_eq_true rfl) dX8_chance_41 ⟨by decide, by decide⟩ ?_
        obtain ⟨r19, e18, hf⟩ := fq_b hf
        refine g_callVl (pc := 44) E 1 (zx_l (by decide)) (fun _ _ => rfl) rfl [.ref (ad (26 + 4 * z3)), .int r17] (fun l D sz => qX6_chanceOf l D cy ad sz n σ k z3 r17 h4 e18) gX8_chance_X6_chanceOf rfl rfl rfl kcX6_chanceOf ⟨by decide, by decide⟩ rfl rfl (Nat.le_of_ble_eq_true rfl) dX8_chance_44 ⟨by decide, by decide⟩ ?_
        exact hret _ _ _ _ dX8_chance_47 (Option.some.inj hf)
      · replace hf := fq_t c15 hf
        refine g_aload_n (pc := 29) E dX8_chance_29 1 rfl rfl ?_
        refine g_iconst (pc := 30) E (1 : Int32) dX8_chance_30 (by decide) ?_
        obtain ⟨r21, σ22, e20, hf⟩ := fq_b2 hf
        refine g_callVl (pc := 31) E 0 (zx_l (by decide)) (fun _ _ => rfl) rfl [.int (1 : Int32)] (fun l D sz => qX8_finding l D cy ad sz n σ k (1 : Int32) e20) gX8_chance_X8_finding rfl rfl rfl kcX8_finding ⟨by decide, by decide⟩ rfl rfl (Nat.le_of_ble_eq_true rfl) dX8_chance_31 ⟨by decide, by decide⟩ ?_
        exact hret _ _ _ _ dX8_chance_34 (Option.some.inj hf)

/-! X8_planTick -/
theorem wX8_planTick_0 : Cond.fieldLink RX8 36 "FairQueue" "plan" "LFairQueue$Plan;" ∈ wsX8_planTick := by decide +kernel
theorem uX8_planTick_X8 : ∀ w ∈ u_ws RX8 TX8 13, w ∈ wsX8_planTick := (fun _ h => List.mem_cons_of_mem _ (List.mem_append_left _ (List.mem_append_left _ (List.mem_append_left _ (List.mem_append_left _ (List.mem_append_left _ (List.mem_append_left _ (List.mem_append_left _ (List.mem_append_left _ (List.mem_append_right _ h))))))))))
theorem wX8_planTick_2 : Cond.fieldLink RX8 195 "FairQueue$Plan" "made" "I" ∈ wsX8_planTick := by decide +kernel
theorem uX8_planTick_X4 : ∀ w ∈ u_ws RX4 TX4 3, w ∈ wsX8_planTick := (fun _ h => List.mem_cons_of_mem _ (List.mem_append_left _ (List.mem_append_left _ (List.mem_append_left _ (List.mem_append_left _ (List.mem_append_left _ (List.mem_append_left _ (List.mem_append_left _ (List.mem_append_right _ h)))))))))
theorem wX8_planTick_4 : Cond.fieldLink RX8 43 "FairQueue" "matches" "LFairQueue$Matches;" ∈ wsX8_planTick := by decide +kernel
theorem wX8_planTick_5 : Cond.fieldLink RX8 29 "FairQueue" "pairings" "LFairQueue$Pairings;" ∈ wsX8_planTick := by decide +kernel
theorem wX8_planTick_6 : Cond.fieldLink RX8 182 "FairQueue$Pairings" "first" "I" ∈ wsX8_planTick := by decide +kernel
theorem uX8_planTick_X3 : ∀ w ∈ u_ws RX3 TX3 6, w ∈ wsX8_planTick := (fun _ h => List.mem_cons_of_mem _ (List.mem_append_left _ (List.mem_append_left _ (List.mem_append_left _ (List.mem_append_left _ (List.mem_append_left _ (List.mem_append_left _ (List.mem_append_right _ h))))))))
theorem wX8_planTick_8 : Cond.fieldLink RX8 185 "FairQueue$Pairings" "second" "I" ∈ wsX8_planTick := by decide +kernel
theorem kcX8_planTick : yX8_planTick.cls = RX8 ∧ yX8_planTick.cls ≠ "java/lang/invoke/MethodHandle" ∧ yX8_planTick.cls ≠ "java/lang/invoke/VarHandle" ∧ (parseMethodDescriptor yX8_planTick.desc).map (fun d => d.parameters.length) = some 1 := by decide +kernel
def pX8_planTick_L20b (k n : Nat) (q1 : Nat) (x2 : Int32) (rec : (Int32 × fqS) → Option fqS) (x3 : Int32) (σ : fqS) : Option fqS :=
  (if x2 ≤ x3 then some σ else (fqB2 (pX8_anyPairing k n σ q1) (fun r7 σ8 => (if r7 = 0 then some σ8 else ((pX7_playersAt k n σ8 q1 (fqI σ8 10 3)).bind (fun r11 => ((pX7_playersAt k n σ8 q1 (fqI σ8 10 4)).bind (fun r13 => ((pX4_add k n σ8 r11 r13).bind (fun σ15 => ((pX7_release k n σ15 q1 ((fqI σ15 10 3) ||| (fqI σ15 10 4))).bind (fun σ17 => (rec ((x3 + (1 : Int32)), σ17))))))))))))))
def pX8_planTick_L20 (k n : Nat) (q1 : Nat) (x2 : Int32) : (Int32 × fqS) → Option fqS := fqL (fun rec (s : (Int32 × fqS)) => pX8_planTick_L20b k n q1 x2 rec s.1 s.2) k
def pX8_planTick (k n : Nat) (σ : fqS) (q1 : Nat) : Option fqS :=
  (fqN (fqPI σ 13 2 (0 : Int32)) (fun σ1 => ((pX2_going k n σ1).bind (fun r4 => (pX8_planTick_L20 k n q1 ((5 : Int32) - r4) ((0 : Int32), σ1))))))
set_option maxRecDepth 100000 in
set_option maxHeartbeats 4000000 in
theorem tX8_planTick_L20 {k : Nat} {X : fqX} {cy : Nat → ClassId} {ad : Nat → Nat} {n : Nat} {σ' : fqS} {q1 : Nat} {x2 : Int32} (E : fqE X ({ frames := 5, cells := 0, slots := 0, locals := 111 } : Room) cy cX8_planTick 4 wsX8_planTick RX8) (hret : fqR_v X (TX cy) ZX ad n 4 cX8_planTick σ') (hq1 : q1 = 4 ∨ q1 = 7) : ∀ (s : (Int32 × fqS)), pX8_planTick_L20 k n q1 x2 s = some σ' → fqG X (TX cy) ZX ad n 4 0 0 (s.2) 20 [(0, .ref (ad 0)), (1, .ref (ad q1)), (2, .int x2), (3, .int (s.1))] [] := by
  unfold pX8_planTick_L20
  refine fqL_run (P := fun (s : (Int32 × fqS)) => fqG X (TX cy) ZX ad n 4 0 0 (s.2) 20 [(0, .ref (ad 0)), (1, .ref (ad q1)), (2, .int x2), (3, .int (s.1))] []) (fun rec s hrec hf => ?_) k
  obtain ⟨x3, σ⟩ := s
  have hf : pX8_planTick_L20b k n q1 x2 rec x3 σ = some σ' := hf
  unfold pX8_planTick_L20b at hf
  show fqG X (TX cy) ZX ad n 4 0 0 σ 20 [(0, .ref (ad 0)), (1, .ref (ad q1)), (2, .int x2), (3, .int x3)] []
  refine g_iload_n (pc := 20) E dX8_planTick_20 3 rfl rfl ?_
  refine g_iload_n (pc := 21) E dX8_planTick_21 2 rfl rfl ?_
  refine g_icmp_ge (pc := 22) E 88 dX8_planTick_22 (by decide) (fun c5 => ?_) (fun c5 => ?_)
  · replace hf := fq_t c5 hf
    exact hret _ _ _ dX8_planTick_88 (Option.some.inj hf)
  · replace hf := fq_f c5 hf
    refine g_aload_n (pc := 25) E dX8_planTick_25 0 rfl rfl ?_
    refine g_aload_n (pc := 26) E dX8_planTick_26 1 rfl rfl ?_
    obtain ⟨r7, σ8, e6, hf⟩ := fq_b2 hf
    refine g_callVi (pc := 27) E 0 (zx_l (by decide)) (fun _ _ => rfl) rfl [.ref (ad q1)] (fun l D sz => qX8_anyPairing l D cy ad sz n σ k q1 hq1 e6) gX8_planTick_X8_anyPairing rfl rfl rfl kcX8_anyPairing ⟨by decide, by decide⟩ rfl rfl (Nat.le_of_ble_eq_true rfl) dX8_planTick_27 ⟨by decide, by decide⟩ ?_
    refine g_if_ne (pc := 30) E 34 dX8_planTick_30 (by decide) (fun c9 => ?_) (fun c9 => ?_)
    · replace hf := fq_f c9 hf
      refine g_aload_n (pc := 34) E dX8_planTick_34 0 rfl rfl ?_
      refine g_getfield (pc := 35) E uX8_planTick_X8 0 (zx_l (by decide)) (fun _ _ => rfl) rfl 4 (by decide) wX8_planTick_0 (.ref (ad 13)) rfl dX8_planTick_35 ?_
      refine g_aload_n (pc := 38) E dX8_planTick_38 1 rfl rfl ?_
      refine g_aload_n (pc := 39) E dX8_planTick_39 0 rfl rfl ?_
      refine g_getfield (pc := 40) E uX8_planTick_X8 0 (zx_l (by decide)) (fun _ _ => rfl) rfl 3 (by decide) wX8_planTick_5 (.ref (ad 10)) rfl dX8_planTick_40 ?_
      refine g_getfield (pc := 43) E uX8_planTick_X3 10 (zx_l (by decide)) (fun _ _ => rfl) rfl 3 (by decide) wX8_planTick_6 (.int (fqI σ8 10 3)) rfl dX8_planTick_43 ?_
      obtain ⟨r11, e10, hf⟩ := fq_b hf
      refine g_callVi (pc := 46) E q1 (zx_q hq1) (tx_q cy ad n hq1) rfl [.int (fqI σ8 10 3)] (fun l D sz => qX7_playersAt l D cy ad sz n σ8 k q1 (fqI σ8 10 3) hq1 e10) gX8_planTick_X7_playersAt rfl rfl rfl kcX7_playersAt ⟨by decide, by decide⟩ rfl rfl (Nat.le_of_ble_eq_true rfl) dX8_planTick_46 ⟨by decide, by decide⟩ ?_
      refine g_aload_n (pc := 49) E dX8_planTick_49 1 rfl rfl ?_
      refine g_aload_n (pc := 50) E dX8_planTick_50 0 rfl rfl ?_
      refine g_getfield (pc := 51) E uX8_planTick_X8 0 (zx_l (by decide)) (fun _ _ => rfl) rfl 3 (by decide) wX8_planTick_5 (.ref (ad 10)) rfl dX8_planTick_51 ?_
      refine g_getfield (pc := 54) E uX8_planTick_X3 10 (zx_l (by decide)) (fun _ _ => rfl) rfl 4 (by decide) wX8_planTick_8 (.int (fqI σ8 10 4)) rfl dX8_planTick_54 ?_
      obtain ⟨r13, e12, hf⟩ := fq_b hf
      refine g_callVi (pc := 57) E q1 (zx_q hq1) (tx_q cy ad n hq1) rfl [.int (fqI σ8 10 4)] (fun l D sz => qX7_playersAt l D cy ad sz n σ8 k q1 (fqI σ8 10 4) hq1 e12) gX8_planTick_X7_playersAt rfl rfl rfl kcX7_playersAt ⟨by decide, by decide⟩ rfl rfl (Nat.le_of_ble_eq_true rfl) dX8_planTick_57 ⟨by decide, by decide⟩ ?_
      obtain ⟨σ15, e14, hf⟩ := fq_b hf
      refine g_callVv (pc := 60) E 13 (zx_l (by decide)) (fun _ _ => rfl) rfl [.int r11, .int r13] (fun l D sz => qX4_add l D cy ad sz n σ8 k r11 r13 e14) gX8_planTick_X4_add rfl rfl rfl kcX4_add ⟨by decide, by decide⟩ rfl rfl (Nat.le_of_ble_eq_true rfl) dX8_planTick_60 ⟨by decide, by decide⟩ ?_
      refine g_aload_n (pc := 63) E dX8_planTick_63 1 rfl rfl ?_
      refine g_aload_n (pc := 64) E dX8_planTick_64 0 rfl rfl ?_
      refine g_getfield (pc := 65) E uX8_planTick_X8 0 (zx_l (by decide)) (fun _ _ => rfl) rfl 3 (by decide) wX8_planTick_5 (.ref (ad 10)) rfl dX8_planTick_65 ?_
      refine g_getfield (pc := 68) E uX8_planTick_X3 10 (zx_l (by decide)) (fun _ _ => rfl) rfl 3 (by decide) wX8_planTick_6 (.int (fqI σ15 10 3)) rfl dX8_planTick_68 ?_
      refine g_aload_n (pc := 71) E dX8_planTick_71 0 rfl rfl ?_
      refine g_getfield (pc := 72) E uX8_planTick_X8 0 (zx_l (by decide)) (fun _ _ => rfl) rfl 3 (by decide) wX8_planTick_5 (.ref (ad 10)) rfl dX8_planTick_72 ?_
      refine g_getfield (pc := 75) E uX8_planTick_X3 10 (zx_l (by decide)) (fun _ _ => rfl) rfl 4 (by decide) wX8_planTick_8 (.int (fqI σ15 10 4)) rfl dX8_planTick_75 ?_
      refine g_ior (pc := 78) E dX8_planTick_78 ?_
      obtain ⟨σ17, e16, hf⟩ := fq_b hf
      refine g_callVv (pc := 79) E q1 (zx_q hq1) (tx_q cy ad n hq1) rfl [.int ((fqI σ15 10 3) ||| (fqI σ15 10 4))] (fun l D sz => qX7_release l D cy ad sz n σ15 k q1 ((fqI σ15 10 3) ||| (fqI σ15 10 4)) hq1 e16) gX8_planTick_X7_release rfl rfl rfl kcX7_release ⟨by decide, by decide⟩ rfl rfl (Nat.le_of_ble_eq_true rfl) dX8_planTick_79 ⟨by decide, by decide⟩ ?_
      refine g_iinc (pc := 82) E (x3 + (1 : Int32)) [(3, .int (x3 + (1 : Int32))), (0, .ref (ad 0)), (1, .ref (ad q1)), (2, .int x2)] dX8_planTick_82 3 rfl rfl (by decide) rfl ?_
      refine g_goto (pc := 85) E 20 dX8_planTick_85 (by decide) ?_
      refine g_lv [1, 2, 3, 0] rfl ?_
      exact hrec _ hf
    · replace hf := fq_t c9 hf
      exact hret _ _ _ dX8_planTick_33 (Option.some.inj hf)
set_option maxRecDepth 100000 in
set_option maxHeartbeats 4000000 in
theorem qX8_planTick (l : Launch) (D : va_G) (cy : Nat → ClassId) (ad : Nat → Nat) (sz n : Nat) (σ : fqS) (k : Nat) (q1 : Nat) (hq1 : q1 = 4 ∨ q1 = 7) {σ' : fqS} (hf : pX8_planTick k n σ q1 = some σ') : Met l yX8_planTick wsX8_planTick ({ frames := 5, cells := 0, slots := 0, locals := 111 } : Room) (fqPc (TX cy) ZX D cy ad sz n σ [.ref (ad 0), .ref (ad q1)]) (fqQv (TX cy) ZX D ad sz n σ σ') 0 0 (fqA (TX cy) ZX ad sz n σ) := by
  refine fq_enter_v (cc := cX8_planTick) (maxL := 4) (own := RX8) _ (by decide) rfl (Nat.le_of_ble_eq_true rfl) rfl (fun X E hret => ?_)
  unfold pX8_planTick at hf
  show fqG X (TX cy) ZX ad n 4 0 0 σ 0 [(0, .ref (ad 0)), (1, .ref (ad q1))] []
  refine g_aload_n (pc := 0) E dX8_planTick_0 0 rfl rfl ?_
  refine g_getfield (pc := 1) E uX8_planTick_X8 0 (zx_l (by decide)) (fun _ _ => rfl) rfl 4 (by decide) wX8_planTick_0 (.ref (ad 13)) rfl dX8_planTick_1 ?_
  refine g_iconst (pc := 4) E (0 : Int32) dX8_planTick_4 (by decide) ?_
  refine g_putI (pc := 5) E uX8_planTick_X4 tyX4 tyX4_ok nmX4 13 (zx_l (by decide)) (fun _ _ => rfl) rfl 2 (by decide) wX8_planTick_2 rfl rfl (Nat.le_of_ble_eq_true rfl) rfl dX8_planTick_5 ?_
  obtain ⟨σ1, e2, hf⟩ := fq_n hf
  refine g_sg e2 ?_
  refine g_iconst (pc := 8) E (5 : Int32) dX8_planTick_8 (by decide) ?_
  refine g_aload_n (pc := 9) E dX8_planTick_9 0 rfl rfl ?_
  refine g_getfield (pc := 10) E uX8_planTick_X8 0 (zx_l (by decide)) (fun _ _ => rfl) rfl 5 (by decide) wX8_planTick_4 (.ref (ad 16)) rfl dX8_planTick_10 ?_
  obtain ⟨r4, e3, hf⟩ := fq_b hf
  refine g_callVi (pc := 13) E 16 (zx_l (by decide)) (fun _ _ => rfl) rfl [] (fun l D sz => qX2_going l D cy ad sz n σ1 k e3) gX8_planTick_X2_going rfl rfl rfl kcX2_going ⟨by decide, by decide⟩ rfl rfl (Nat.le_of_ble_eq_true rfl) dX8_planTick_13 ⟨by decide, by decide⟩ ?_
  refine g_isub (pc := 16) E dX8_planTick_16 ?_
  refine g_istore_n (pc := 17) E [(2, .int ((5 : Int32) - r4)), (0, .ref (ad 0)), (1, .ref (ad q1))] dX8_planTick_17 rfl (by decide) rfl ?_
  refine g_iconst (pc := 18) E (0 : Int32) dX8_planTick_18 (by decide) ?_
  refine g_istore_n (pc := 19) E [(3, .int (0 : Int32)), (2, .int ((5 : Int32) - r4)), (0, .ref (ad 0)), (1, .ref (ad q1))] dX8_planTick_19 rfl (by decide) rfl ?_
  refine g_lv [2, 3, 1, 0] rfl ?_
  exact tX8_planTick_L20 E hret hq1 _ hf

/-! X8_isTold -/
theorem wX8_isTold_0 : Cond.fieldLink RX8 54 "FairQueue" "told" "[J" ∈ wsX8_isTold := by decide +kernel
theorem uX8_isTold_X8 : ∀ w ∈ u_ws RX8 TX8 13, w ∈ wsX8_isTold := (fun _ h => List.mem_cons_of_mem _ (List.mem_append_left _ (List.mem_append_right _ h)))
theorem wX8_isTold_2 : Cond.fieldLink RX8 36 "FairQueue" "plan" "LFairQueue$Plan;" ∈ wsX8_isTold := by decide +kernel
theorem kcX8_isTold : yX8_isTold.cls = RX8 ∧ yX8_isTold.cls ≠ "java/lang/invoke/MethodHandle" ∧ yX8_isTold.cls ≠ "java/lang/invoke/VarHandle" ∧ (parseMethodDescriptor yX8_isTold.desc).map (fun d => d.parameters.length) = some 2 := by decide +kernel
def pX8_isTold (k n : Nat) (σ : fqS) (x1 : Int32) (x2 : Int32) : Option Int32 :=
  (if ((2 : Int32) * x1) < 0 then some (0 : Int32) else (if x2 ≤ (((2 : Int32) * x1) + (1 : Int32)) then some (0 : Int32) else (if (((2 : Int32) * x1) + (1 : Int32)) < (20 : Int32) then (if ((2 : Int32) * x1) < 0 ∨ 20 ≤ Int32.toNatClampNeg ((2 : Int32) * x1) then none else ((pX4_firstAt k n σ x1).bind (fun r6 => (if (fqJ σ 24 (Int32.toNatClampNeg ((2 : Int32) * x1))) = (Int32.toInt64 r6) then (if (((2 : Int32) * x1) + (1 : Int32)) < 0 ∨ 20 ≤ Int32.toNatClampNeg (((2 : Int32) * x1) + (1 : Int32)) then none else ((pX4_secondAt k n σ x1).bind (fun r10 => (if (fqJ σ 24 (Int32.toNatClampNeg (((2 : Int32) * x1) + (1 : Int32)))) = (Int32.toInt64 r10) then some (1 : Int32) else some (0 : Int32))))) else some (0 : Int32))))) else some (0 : Int32))))
set_option maxRecDepth 100000 in
set_option maxHeartbeats 4000000 in
theorem qX8_isTold (l : Launch) (D : va_G) (cy : Nat → ClassId) (ad : Nat → Nat) (sz n : Nat) (σ : fqS) (k : Nat) (x1 : Int32) (x2 : Int32) {r : Int32} (hf : pX8_isTold k n σ x1 x2 = some r) : Met l yX8_isTold wsX8_isTold ({ frames := 1, cells := 0, slots := 0, locals := 21 } : Room) (fqPc (TX cy) ZX D cy ad sz n σ [.ref (ad 0), .int x1, .int x2]) (fqQi (TX cy) ZX D ad sz n σ r σ) 0 0 (fqA (TX cy) ZX ad sz n σ) := by
  refine fq_enter_z (cc := cX8_isTold) (maxL := 4) (own := RX8) _ (by decide) rfl (Nat.le_of_ble_eq_true rfl) rfl (fun X E hret => ?_)
  unfold pX8_isTold at hf
  show fqG X (TX cy) ZX ad n 4 0 0 σ 0 [(0, .ref (ad 0)), (1, .int x1), (2, .int x2)] []
  refine g_iconst (pc := 0) E (2 : Int32) dX8_isTold_0 (by decide) ?_
  refine g_iload_n (pc := 1) E dX8_isTold_1 1 rfl rfl ?_
  refine g_imul (pc := 2) E dX8_isTold_2 ?_
  refine g_istore_n (pc := 3) E [(3, .int ((2 : Int32) * x1)), (0, .ref (ad 0)), (1, .int x1), (2, .int x2)] dX8_isTold_3 rfl (by decide) rfl ?_
  refine g_iload_n (pc := 4) E dX8_isTold_4 0 rfl rfl ?_
  refine g_if_lt (pc := 5) E 26 dX8_isTold_5 (by decide) (fun c1 => ?_) (fun c1 => ?_)
  · replace hf := fq_t c1 hf
    refine g_iconst (pc := 26) E (0 : Int32) dX8_isTold_26 (by decide) ?_
    exact hret _ _ _ _ rfl dX8_isTold_27 (congrArg (fun z => (z, σ)) (Option.some.inj hf))
  · replace hf := fq_f c1 hf
    refine g_iload_n (pc := 8) E dX8_isTold_8 0 rfl rfl ?_
    refine g_iconst (pc := 9) E (1 : Int32) dX8_isTold_9 (by decide) ?_
    refine g_iadd (pc := 10) E dX8_isTold_10 ?_
    refine g_iload_n (pc := 11) E dX8_isTold_11 3 rfl rfl ?_
    refine g_icmp_ge (pc := 12) E 26 dX8_isTold_12 (by decide) (fun c2 => ?_) (fun c2 => ?_)
    · replace hf := fq_t c2 hf
      refine g_iconst (pc := 26) E (0 : Int32) dX8_isTold_26 (by decide) ?_
      exact hret _ _ _ _ rfl dX8_isTold_27 (congrArg (fun z => (z, σ)) (Option.some.inj hf))
    · replace hf := fq_f c2 hf
      refine g_iload_n (pc := 15) E dX8_isTold_15 0 rfl rfl ?_
      refine g_iconst (pc := 16) E (1 : Int32) dX8_isTold_16 (by decide) ?_
      refine g_iadd (pc := 17) E dX8_isTold_17 ?_
      refine g_aload_n (pc := 18) E dX8_isTold_18 1 rfl rfl ?_
      refine g_getfield (pc := 19) E uX8_isTold_X8 0 (zx_l (by decide)) (fun _ _ => rfl) rfl 7 (by decide) wX8_isTold_0 (.ref (ad 24)) rfl dX8_isTold_19 ?_
      refine g_alen (pc := 22) E 24 (zx_l (by decide)) 1 (fun _ _ => rfl) rfl (20 : Int32) (by rfl) dX8_isTold_22 ?_
      refine g_icmp_lt (pc := 23) E 28 dX8_isTold_23 (by decide) (fun c3 => ?_) (fun c3 => ?_)
      · replace hf := fq_t c3 hf
        refine g_aload_n (pc := 28) E dX8_isTold_28 1 rfl rfl ?_
        refine g_getfield (pc := 29) E uX8_isTold_X8 0 (zx_l (by decide)) (fun _ _ => rfl) rfl 7 (by decide) wX8_isTold_0 (.ref (ad 24)) rfl dX8_isTold_29 ?_
        refine g_iload_n (pc := 32) E dX8_isTold_32 0 rfl rfl ?_
        obtain ⟨h4, hf⟩ := fq_in hf
        refine g_laload (pc := 33) E 24 (zx_l (by decide)) (fun _ _ => rfl) h4 dX8_isTold_33 ?_
        refine g_aload_n (pc := 34) E dX8_isTold_34 1 rfl rfl ?_
        refine g_getfield (pc := 35) E uX8_isTold_X8 0 (zx_l (by decide)) (fun _ _ => rfl) rfl 4 (by decide) wX8_isTold_2 (.ref (ad 13)) rfl dX8_isTold_35 ?_
        refine g_iload_n (pc := 38) E dX8_isTold_38 2 rfl rfl ?_
        obtain ⟨r6, e5, hf⟩ := fq_b hf
        refine g_callVi (pc := 39) E 13 (zx_l (by decide)) (fun _ _ => rfl) rfl [.int x1] (fun l D sz => qX4_firstAt l D cy ad sz n σ k x1 e5) gX8_isTold_X4_firstAt rfl rfl rfl kcX4_firstAt ⟨by decide, by decide⟩ rfl rfl (Nat.le_of_ble_eq_true rfl) dX8_isTold_39 ⟨by decide, by decide⟩ ?_
        refine g_i2l (pc := 42) E dX8_isTold_42 ?_
        refine g_lif_ne (pc := 43) E 72 dX8_isTold_43 dX8_isTold_44 (by decide) (fun c7 => ?_) (fun c7 => ?_)
        · replace hf := fq_f c7 hf
          refine g_iconst (pc := 72) E (0 : Int32) dX8_isTold_72 (by decide) ?_
          exact hret _ _ _ _ rfl dX8_isTold_73 (congrArg (fun z => (z, σ)) (Option.some.inj hf))
        · replace hf := fq_t c7 hf
          refine g_aload_n (pc := 47) E dX8_isTold_47 1 rfl rfl ?_
          refine g_getfield (pc := 48) E uX8_isTold_X8 0 (zx_l (by decide)) (fun _ _ => rfl) rfl 7 (by decide) wX8_isTold_0 (.ref (ad 24)) rfl dX8_isTold_48 ?_
          refine g_iload_n (pc := 51) E dX8_isTold_51 0 rfl rfl ?_
          refine g_iconst (pc := 52) E (1 : Int32) dX8_isTold_52 (by decide) ?_
          refine g_iadd (pc := 53) E dX8_isTold_53 ?_
          obtain ⟨h8, hf⟩ := fq_in hf
          refine g_laload (pc := 54) E 24 (zx_l (by decide)) (fun _ _ => rfl) h8 dX8_isTold_54 ?_
          refine g_aload_n (pc := 55) E dX8_isTold_55 1 rfl rfl ?_
          refine g_getfield (pc := 56) E uX8_isTold_X8 0 (zx_l (by decide)) (fun _ _ => rfl) rfl 4 (by decide) wX8_isTold_2 (.ref (ad 13)) rfl dX8_isTold_56 ?_
          refine g_iload_n (pc := 59) E dX8_isTold_59 2 rfl rfl ?_
          obtain ⟨r10, e9, hf⟩ := fq_b hf
          refine g_callVi (pc := 60) E 13 (zx_l (by decide)) (fun _ _ => rfl) rfl [.int x1] (fun l D sz => qX4_secondAt l D cy ad sz n σ k x1 e9) gX8_isTold_X4_secondAt rfl rfl rfl kcX4_secondAt ⟨by decide, by decide⟩ rfl rfl (Nat.le_of_ble_eq_true rfl) dX8_isTold_60 ⟨by decide, by decide⟩ ?_
          refine g_i2l (pc := 63) E dX8_isTold_63 ?_
          refine g_lif_ne (pc := 64) E 72 dX8_isTold_64 dX8_isTold_65 (by decide) (fun c11 => ?_) (fun c11 => ?_)
          · replace hf := fq_f c11 hf
            refine g_iconst (pc := 72) E (0 : Int32) dX8_isTold_72 (by decide) ?_
            exact hret _ _ _ _ rfl dX8_isTold_73 (congrArg (fun z => (z, σ)) (Option.some.inj hf))
          · replace hf := fq_t c11 hf
            refine g_iconst (pc := 68) E (1 : Int32) dX8_isTold_68 (by decide) ?_
            refine g_goto (pc := 69) E 73 dX8_isTold_69 (by decide) ?_
            exact hret _ _ _ _ rfl dX8_isTold_73 (congrArg (fun z => (z, σ)) (Option.some.inj hf))
      · replace hf := fq_f c3 hf
        refine g_iconst (pc := 26) E (0 : Int32) dX8_isTold_26 (by decide) ?_
        exact hret _ _ _ _ rfl dX8_isTold_27 (congrArg (fun z => (z, σ)) (Option.some.inj hf))

/-! X8_check -/
theorem wX8_check_0 : Cond.fieldLink RX8 23 "FairQueue" "trial" "LFairQueue$Queue;" ∈ wsX8_check := by decide +kernel
theorem uX8_check_X8 : ∀ w ∈ u_ws RX8 TX8 13, w ∈ wsX8_check := (fun _ h => List.mem_cons_of_mem _ (List.mem_append_left _ (List.mem_append_left _ (List.mem_append_left _ (List.mem_append_left _ (List.mem_append_left _ (List.mem_append_left _ (List.mem_append_left _ (List.mem_append_left _ (List.mem_append_right _ h))))))))))
theorem wX8_check_2 : Cond.fieldLink RX8 19 "FairQueue" "queue" "LFairQueue$Queue;" ∈ wsX8_check := by decide +kernel
theorem wX8_check_3 : Cond.fieldLink RX8 61 "FairQueue" "toldCount" "I" ∈ wsX8_check := by decide +kernel
theorem wX8_check_4 : Cond.fieldLink RX8 36 "FairQueue" "plan" "LFairQueue$Plan;" ∈ wsX8_check := by decide +kernel
theorem wX8_check_5 : Cond.fieldLink RX8 195 "FairQueue$Plan" "made" "I" ∈ wsX8_check := by decide +kernel
theorem uX8_check_X4 : ∀ w ∈ u_ws RX4 TX4 3, w ∈ wsX8_check := (fun _ h => List.mem_cons_of_mem _ (List.mem_append_left _ (List.mem_append_left _ (List.mem_append_left _ (List.mem_append_left _ (List.mem_append_left _ (List.mem_append_left _ (List.mem_append_left _ (List.mem_append_right _ h)))))))))
theorem wX8_check_7 : Cond.constantLong RX8 268 (99) ∈ wsX8_check := by decide +kernel
theorem kcX8_check : yX8_check.cls = RX8 ∧ yX8_check.cls ≠ "java/lang/invoke/MethodHandle" ∧ yX8_check.cls ≠ "java/lang/invoke/VarHandle" ∧ (parseMethodDescriptor yX8_check.desc).map (fun d => d.parameters.length) = some 0 := by decide +kernel
def pX8_check_L31b (k n : Nat) (x1 : Int32) (rec : (Int32 × fqS) → Option (Int64 × fqS)) (x2 : Int32) (σ : fqS) : Option (Int64 × fqS) :=
  (if (fqI σ 13 2) ≤ x2 then (if x1 ≤ ((2 : Int32) * (fqI σ 13 2)) then some ((0 : Int64), σ) else some ((99 : Int64), σ)) else ((pX8_isTold k n σ x2 x1).bind (fun r10 => (if r10 = 0 then some (((1 : Int64) + (Int32.toInt64 x2)), σ) else (rec ((x2 + (1 : Int32)), σ))))))
def pX8_check_L31 (k n : Nat) (x1 : Int32) : (Int32 × fqS) → Option (Int64 × fqS) := fqL (fun rec (s : (Int32 × fqS)) => pX8_check_L31b k n x1 rec s.1 s.2) k
def pX8_check (k n : Nat) (σ : fqS) : Option (Int64 × fqS) :=
  ((pX7_copyOf k n σ 7 4).bind (fun σ2 => ((pX8_planTick k n σ2 7).bind (fun σ4 => (fqN (fqPI σ4 0 9 (0 : Int32)) (fun σ5 => (pX8_check_L31 k n (fqI σ4 0 9) ((0 : Int32), σ5))))))))
set_option maxRecDepth 100000 in
set_option maxHeartbeats 4000000 in
theorem tX8_check_L31 {k : Nat} {X : fqX} {cy : Nat → ClassId} {ad : Nat → Nat} {n : Nat} {r : Int64} {σ' : fqS} {x1 : Int32} (E : fqE X ({ frames := 6, cells := 0, slots := 0, locals := 134 } : Room) cy cX8_check 3 wsX8_check RX8) (hret : fqR_l X (TX cy) ZX ad n 3 cX8_check r σ') : ∀ (s : (Int32 × fqS)), pX8_check_L31 k n x1 s = some (r, σ') → fqG X (TX cy) ZX ad n 3 0 0 (s.2) 31 [(0, .ref (ad 0)), (1, .int x1), (2, .int (s.1))] [] := by
  unfold pX8_check_L31
  refine fqL_run (P := fun (s : (Int32 × fqS)) => fqG X (TX cy) ZX ad n 3 0 0 (s.2) 31 [(0, .ref (ad 0)), (1, .int x1), (2, .int (s.1))] []) (fun rec s hrec hf => ?_) k
  obtain ⟨x2, σ⟩ := s
  have hf : pX8_check_L31b k n x1 rec x2 σ = some (r, σ') := hf
  unfold pX8_check_L31b at hf
  show fqG X (TX cy) ZX ad n 3 0 0 σ 31 [(0, .ref (ad 0)), (1, .int x1), (2, .int x2)] []
  refine g_iload_n (pc := 31) E dX8_check_31 2 rfl rfl ?_
  refine g_aload_n (pc := 32) E dX8_check_32 0 rfl rfl ?_
  refine g_getfield (pc := 33) E uX8_check_X8 0 (zx_l (by decide)) (fun _ _ => rfl) rfl 4 (by decide) wX8_check_4 (.ref (ad 13)) rfl dX8_check_33 ?_
  refine g_getfield (pc := 36) E uX8_check_X4 13 (zx_l (by decide)) (fun _ _ => rfl) rfl 2 (by decide) wX8_check_5 (.int (fqI σ 13 2)) rfl dX8_check_36 ?_
  refine g_icmp_ge (pc := 39) E 62 dX8_check_39 (by decide) (fun c7 => ?_) (fun c7 => ?_)
  · replace hf := fq_t c7 hf
    refine g_iload_n (pc := 62) E dX8_check_62 1 rfl rfl ?_
    refine g_iconst (pc := 63) E (2 : Int32) dX8_check_63 (by decide) ?_
    refine g_aload_n (pc := 64) E dX8_check_64 0 rfl rfl ?_
    refine g_getfield (pc := 65) E uX8_check_X8 0 (zx_l (by decide)) (fun _ _ => rfl) rfl 4 (by decide) wX8_check_4 (.ref (ad 13)) rfl dX8_check_65 ?_
    refine g_getfield (pc := 68) E uX8_check_X4 13 (zx_l (by decide)) (fun _ _ => rfl) rfl 2 (by decide) wX8_check_5 (.int (fqI σ 13 2)) rfl dX8_check_68 ?_
    refine g_imul (pc := 71) E dX8_check_71 ?_
    refine g_icmp_le (pc := 72) E 81 dX8_check_72 (by decide) (fun c8 => ?_) (fun c8 => ?_)
    · replace hf := fq_t c8 hf
      refine g_lconst (pc := 81) E (0 : Int64) dX8_check_81 (by decide) ?_
      exact hret _ _ _ _ dX8_check_82 (Option.some.inj hf)
    · replace hf := fq_f c8 hf
      refine g_ldc2_w (pc := 75) E dX8_check_75 wX8_check_7 ?_
      refine g_goto (pc := 78) E 82 dX8_check_78 (by decide) ?_
      exact hret _ _ _ _ dX8_check_82 (Option.some.inj hf)
  · replace hf := fq_f c7 hf
    refine g_aload_n (pc := 42) E dX8_check_42 0 rfl rfl ?_
    refine g_iload_n (pc := 43) E dX8_check_43 2 rfl rfl ?_
    refine g_iload_n (pc := 44) E dX8_check_44 1 rfl rfl ?_
    obtain ⟨r10, e9, hf⟩ := fq_b hf
    refine g_callVi (pc := 45) E 0 (zx_l (by decide)) (fun _ _ => rfl) rfl [.int x2, .int x1] (fun l D sz => qX8_isTold l D cy ad sz n σ k x2 x1 e9) gX8_check_X8_isTold rfl rfl rfl kcX8_isTold ⟨by decide, by decide⟩ rfl rfl (Nat.le_of_ble_eq_true rfl) dX8_check_45 ⟨by decide, by decide⟩ ?_
    refine g_if_ne (pc := 48) E 56 dX8_check_48 (by decide) (fun c11 => ?_) (fun c11 => ?_)
    · replace hf := fq_f c11 hf
      refine g_iinc (pc := 56) E (x2 + (1 : Int32)) [(2, .int (x2 + (1 : Int32))), (0, .ref (ad 0)), (1, .int x1)] dX8_check_56 2 rfl rfl (by decide) rfl ?_
      refine g_goto (pc := 59) E 31 dX8_check_59 (by decide) ?_
      refine g_lv [1, 2, 0] rfl ?_
      exact hrec _ hf
    · replace hf := fq_t c11 hf
      refine g_lconst (pc := 51) E (1 : Int64) dX8_check_51 (by decide) ?_
      refine g_iload_n (pc := 52) E dX8_check_52 2 rfl rfl ?_
      refine g_i2l (pc := 53) E dX8_check_53 ?_
      refine g_ladd (pc := 54) E dX8_check_54 ?_
      exact hret _ _ _ _ dX8_check_55 (Option.some.inj hf)
set_option maxRecDepth 100000 in
set_option maxHeartbeats 4000000 in
theorem qX8_check (l : Launch) (D : va_G) (cy : Nat → ClassId) (ad : Nat → Nat) (sz n : Nat) (σ : fqS) (k : Nat) {r : Int64} {σ' : fqS} (hf : pX8_check k n σ = some (r, σ')) : Met l yX8_check wsX8_check ({ frames := 6, cells := 0, slots := 0, locals := 134 } : Room) (fqPc (TX cy) ZX D cy ad sz n σ [.ref (ad 0)]) (fqQl (TX cy) ZX D ad sz n σ r σ') 0 0 (fqA (TX cy) ZX ad sz n σ) := by
  refine fq_enter_l (cc := cX8_check) (maxL := 3) (own := RX8) _ (by decide) rfl (Nat.le_of_ble_eq_true rfl) rfl (fun X E hret => ?_)
  unfold pX8_check at hf
  show fqG X (TX cy) ZX ad n 3 0 0 σ 0 [(0, .ref (ad 0))] []
  refine g_aload_n (pc := 0) E dX8_check_0 0 rfl rfl ?_
  refine g_getfield (pc := 1) E uX8_check_X8 0 (zx_l (by decide)) (fun _ _ => rfl) rfl 2 (by decide) wX8_check_0 (.ref (ad 7)) rfl dX8_check_1 ?_
  refine g_aload_n (pc := 4) E dX8_check_4 0 rfl rfl ?_
  refine g_getfield (pc := 5) E uX8_check_X8 0 (zx_l (by decide)) (fun _ _ => rfl) rfl 1 (by decide) wX8_check_2 (.ref (ad 4)) rfl dX8_check_5 ?_
  obtain ⟨σ2, e1, hf⟩ := fq_b hf
  refine g_callVv (pc := 8) E 7 (zx_q (Or.inr rfl)) (tx_q cy ad n (Or.inr rfl)) rfl [.ref (ad 4)] (fun l D sz => qX7_copyOf l D cy ad sz n σ k 7 4 (Or.inr rfl) (Or.inl rfl) e1) gX8_check_X7_copyOf rfl rfl rfl kcX7_copyOf ⟨by decide, by decide⟩ rfl rfl (Nat.le_of_ble_eq_true rfl) dX8_check_8 ⟨by decide, by decide⟩ ?_
  refine g_aload_n (pc := 11) E dX8_check_11 0 rfl rfl ?_
  refine g_aload_n (pc := 12) E dX8_check_12 0 rfl rfl ?_
  refine g_getfield (pc := 13) E uX8_check_X8 0 (zx_l (by decide)) (fun _ _ => rfl) rfl 2 (by decide) wX8_check_0 (.ref (ad 7)) rfl dX8_check_13 ?_
  obtain ⟨σ4, e3, hf⟩ := fq_b hf
  refine g_callVv (pc := 16) E 0 (zx_l (by decide)) (fun _ _ => rfl) rfl [.ref (ad 7)] (fun l D sz => qX8_planTick l D cy ad sz n σ2 k 7 (Or.inr rfl) e3) gX8_check_X8_planTick rfl rfl rfl kcX8_planTick ⟨by decide, by decide⟩ rfl rfl (Nat.le_of_ble_eq_true rfl) dX8_check_16 ⟨by decide, by decide⟩ ?_
  refine g_aload_n (pc := 19) E dX8_check_19 0 rfl rfl ?_
  refine g_getfield (pc := 20) E uX8_check_X8 0 (zx_l (by decide)) (fun _ _ => rfl) rfl 9 (by decide) wX8_check_3 (.int (fqI σ4 0 9)) rfl dX8_check_20 ?_
  refine g_istore_n (pc := 23) E [(1, .int (fqI σ4 0 9)), (0, .ref (ad 0))] dX8_check_23 rfl (by decide) rfl ?_
  refine g_aload_n (pc := 24) E dX8_check_24 1 rfl rfl ?_
  refine g_iconst (pc := 25) E (0 : Int32) dX8_check_25 (by decide) ?_
  refine g_putI (pc := 26) E uX8_check_X8 tyX8 tyX8_ok nmX8 0 (zx_l (by decide)) (fun _ _ => rfl) rfl 9 (by decide) wX8_check_3 rfl rfl (Nat.le_of_ble_eq_true rfl) rfl dX8_check_26 ?_
  obtain ⟨σ5, e6, hf⟩ := fq_n hf
  refine g_sg e6 ?_
  refine g_iconst (pc := 29) E (0 : Int32) dX8_check_29 (by decide) ?_
  refine g_istore_n (pc := 30) E [(2, .int (0 : Int32)), (1, .int (fqI σ4 0 9)), (0, .ref (ad 0))] dX8_check_30 rfl (by decide) rfl ?_
  refine g_lv [2, 1, 0] rfl ?_
  exact tX8_check_L31 E hret _ hf

/-! X8_count -/
theorem wX8_count_0 : Cond.fieldLink RX8 10 "FairQueue" "players" "LFairQueue$Players;" ∈ wsX8_count := by decide +kernel
theorem uX8_count_X8 : ∀ w ∈ u_ws RX8 TX8 13, w ∈ wsX8_count := (fun _ h => List.mem_cons_of_mem _ (List.mem_append_left _ (List.mem_append_left _ (List.mem_append_left _ (List.mem_append_left _ (List.mem_append_right _ h))))))
theorem wX8_count_2 : Cond.fieldLink RX8 122 "FairQueue$Players" "number" "I" ∈ wsX8_count := by decide +kernel
theorem uX8_count_X6 : ∀ w ∈ u_ws RX6 TX6 3, w ∈ wsX8_count := (fun _ h => List.mem_cons_of_mem _ (List.mem_append_left _ (List.mem_append_left _ (List.mem_append_left _ (List.mem_append_right _ h)))))
theorem wX8_count_4 : Cond.fieldLink RX8 74 "FairQueue" "tick" "J" ∈ wsX8_count := by decide +kernel
theorem wX8_count_5 : Cond.fieldLink RX8 19 "FairQueue" "queue" "LFairQueue$Queue;" ∈ wsX8_count := by decide +kernel
theorem wX8_count_6 : Cond.fieldLink RX8 125 "FairQueue$Queue" "waiting" "I" ∈ wsX8_count := by decide +kernel
theorem uX8_count_X7 : ∀ w ∈ u_ws RX7 TX7 3, w ∈ wsX8_count := (fun _ h => List.mem_cons_of_mem _ (List.mem_append_left _ (List.mem_append_left _ (List.mem_append_right _ h))))
theorem wX8_count_8 : Cond.fieldLink RX8 43 "FairQueue" "matches" "LFairQueue$Matches;" ∈ wsX8_count := by decide +kernel
theorem wX8_count_9 : Cond.fieldLink RX8 270 "FairQueue$Matches" "ended" "J" ∈ wsX8_count := by decide +kernel
theorem uX8_count_X2 : ∀ w ∈ u_ws RX2 TX2 2, w ∈ wsX8_count := (fun _ h => List.mem_cons_of_mem _ (List.mem_append_left _ (List.mem_append_right _ h)))
theorem wX8_count_11 : Cond.fieldLink RX8 61 "FairQueue" "toldCount" "I" ∈ wsX8_count := by decide +kernel
theorem wX8_count_12 : Cond.fieldLink RX8 65 "FairQueue" "teamSize" "I" ∈ wsX8_count := by decide +kernel
theorem kcX8_count : yX8_count.cls = RX8 ∧ yX8_count.cls ≠ "java/lang/invoke/MethodHandle" ∧ yX8_count.cls ≠ "java/lang/invoke/VarHandle" ∧ (parseMethodDescriptor yX8_count.desc).map (fun d => d.parameters.length) = some 1 := by decide +kernel
def pX8_count (k n : Nat) (σ : fqS) (x1 : Int32) : Option (Int64 × fqS) :=
  (if x1 = 0 then some ((Int32.toInt64 (fqI σ 1 2)), σ) else (if x1 = 1 then some ((fqJ σ 0 12), σ) else (if x1 = 2 then some ((Int32.toInt64 (fqI σ 4 2)), σ) else (if x1 = 3 then ((pX2_going k n σ).bind (fun r6 => some ((Int32.toInt64 r6), σ))) else (if x1 = 4 then some ((fqJ σ 16 1), σ) else (if x1 = 5 then some ((Int32.toInt64 (fqI σ 0 9)), σ) else (if x1 = 6 then some ((Int32.toInt64 (fqI σ 0 10)), σ) else (fqB2 (pX8_finding k n σ (1 : Int32)) (fun r11 σ12 => some (r11, σ12))))))))))
set_option maxRecDepth 100000 in
set_option maxHeartbeats 4000000 in
theorem qX8_count (l : Launch) (D : va_G) (cy : Nat → ClassId) (ad : Nat → Nat) (sz n : Nat) (σ : fqS) (k : Nat) (x1 : Int32) {r : Int64} {σ' : fqS} (hf : pX8_count k n σ x1 = some (r, σ')) : Met l yX8_count wsX8_count ({ frames := 2, cells := 0, slots := 0, locals := 43 } : Room) (fqPc (TX cy) ZX D cy ad sz n σ [.ref (ad 0), .int x1]) (fqQl (TX cy) ZX D ad sz n σ r σ') 0 0 (fqA (TX cy) ZX ad sz n σ) := by
  refine fq_enter_l (cc := cX8_count) (maxL := 2) (own := RX8) _ (by decide) rfl (Nat.le_of_ble_eq_true rfl) rfl (fun X E hret => ?_)
  unfold pX8_count at hf
  show fqG X (TX cy) ZX ad n 2 0 0 σ 0 [(0, .ref (ad 0)), (1, .int x1)] []
  refine g_iload_n (pc := 0) E dX8_count_0 1 rfl rfl ?_
  by_cases c1 : x1 = 0
  · replace hf := fq_t c1 hf
    refine g_tableIn (pc := 1) E (off := 43) 44 dX8_count_1 (by rw [c1]; decide) (by rw [c1]; decide) (by rw [c1]; rfl) (by decide) ?_
    refine g_aload_n (pc := 44) E dX8_count_44 0 rfl rfl ?_
    refine g_getfield (pc := 45) E uX8_count_X8 0 (zx_l (by decide)) (fun _ _ => rfl) rfl 0 (by decide) wX8_count_0 (.ref (ad 1)) rfl dX8_count_45 ?_
    refine g_getfield (pc := 48) E uX8_count_X6 1 (zx_l (by decide)) (fun _ _ => rfl) rfl 2 (by decide) wX8_count_2 (.int (fqI σ 1 2)) rfl dX8_count_48 ?_
    refine g_i2l (pc := 51) E dX8_count_51 ?_
    exact hret _ _ _ _ dX8_count_52 (Option.some.inj hf)
  replace hf := fq_f c1 hf
  by_cases c2 : x1 = 1
  · replace hf := fq_t c2 hf
    refine g_tableIn (pc := 1) E (off := 52) 53 dX8_count_1 (by rw [c2]; decide) (by rw [c2]; decide) (by rw [c2]; rfl) (by decide) ?_
    refine g_aload_n (pc := 53) E dX8_count_53 0 rfl rfl ?_
    refine g_getfield (pc := 54) E uX8_count_X8 0 (zx_l (by decide)) (fun _ _ => rfl) rfl 12 (by decide) wX8_count_4 (.long (fqJ σ 0 12)) rfl dX8_count_54 ?_
    exact hret _ _ _ _ dX8_count_57 (Option.some.inj hf)
  replace hf := fq_f c2 hf
  by_cases c3 : x1 = 2
  · replace hf := fq_t c3 hf
    refine g_tableIn (pc := 1) E (off := 57) 58 dX8_count_1 (by rw [c3]; decide) (by rw [c3]; decide) (by rw [c3]; rfl) (by decide) ?_
    refine g_aload_n (pc := 58) E dX8_count_58 0 rfl rfl ?_
    refine g_getfield (pc := 59) E uX8_count_X8 0 (zx_l (by decide)) (fun _ _ => rfl) rfl 1 (by decide) wX8_count_5 (.ref (ad 4)) rfl dX8_count_59 ?_
    refine g_getfield (pc := 62) E uX8_count_X7 4 (zx_q (Or.inl rfl)) (tx_q cy ad n (Or.inl rfl)) rfl 2 (by decide) wX8_count_6 (.int (fqI σ 4 2)) rfl dX8_count_62 ?_
    refine g_i2l (pc := 65) E dX8_count_65 ?_
    exact hret _ _ _ _ dX8_count_66 (Option.some.inj hf)
  replace hf := fq_f c3 hf
  by_cases c4 : x1 = 3
  · replace hf := fq_t c4 hf
    refine g_tableIn (pc := 1) E (off := 66) 67 dX8_count_1 (by rw [c4]; decide) (by rw [c4]; decide) (by rw [c4]; rfl) (by decide) ?_
    refine g_aload_n (pc := 67) E dX8_count_67 0 rfl rfl ?_
    refine g_getfield (pc := 68) E uX8_count_X8 0 (zx_l (by decide)) (fun _ _ => rfl) rfl 5 (by decide) wX8_count_8 (.ref (ad 16)) rfl dX8_count_68 ?_
    obtain ⟨r6, e5, hf⟩ := fq_b hf
    refine g_callVi (pc := 71) E 16 (zx_l (by decide)) (fun _ _ => rfl) rfl [] (fun l D sz => qX2_going l D cy ad sz n σ k e5) gX8_count_X2_going rfl rfl rfl kcX2_going ⟨by decide, by decide⟩ rfl rfl (Nat.le_of_ble_eq_true rfl) dX8_count_71 ⟨by decide, by decide⟩ ?_
    refine g_i2l (pc := 74) E dX8_count_74 ?_
    exact hret _ _ _ _ dX8_count_75 (Option.some.inj hf)
  replace hf := fq_f c4 hf
  by_cases c7 : x1 = 4
  · replace hf := fq_t c7 hf
    refine g_tableIn (pc := 1) E (off := 75) 76 dX8_count_1 (by rw [c7]; decide) (by rw [c7]; decide) (by rw [c7]; rfl) (by decide) ?_
    refine g_aload_n (pc := 76) E dX8_count_76 0 rfl rfl ?_
    refine g_getfield (pc := 77) E uX8_count_X8 0 (zx_l (by decide)) (fun _ _ => rfl) rfl 5 (by decide) wX8_count_8 (.ref (ad 16)) rfl dX8_count_77 ?_
    refine g_getfield (pc := 80) E uX8_count_X2 16 (zx_l (by decide)) (fun _ _ => rfl) rfl 1 (by decide) wX8_count_9 (.long (fqJ σ 16 1)) rfl dX8_count_80 ?_
    exact hret _ _ _ _ dX8_count_83 (Option.some.inj hf)
  replace hf := fq_f c7 hf
  by_cases c8 : x1 = 5
  · replace hf := fq_t c8 hf
    refine g_tableIn (pc := 1) E (off := 83) 84 dX8_count_1 (by rw [c8]; decide) (by rw [c8]; decide) (by rw [c8]; rfl) (by decide) ?_
    refine g_aload_n (pc := 84) E dX8_count_84 0 rfl rfl ?_
    refine g_getfield (pc := 85) E uX8_count_X8 0 (zx_l (by decide)) (fun _ _ => rfl) rfl 9 (by decide) wX8_count_11 (.int (fqI σ 0 9)) rfl dX8_count_85 ?_
    refine g_i2l (pc := 88) E dX8_count_88 ?_
    exact hret _ _ _ _ dX8_count_89 (Option.some.inj hf)
  replace hf := fq_f c8 hf
  by_cases c9 : x1 = 6
  · replace hf := fq_t c9 hf
    refine g_tableIn (pc := 1) E (off := 89) 90 dX8_count_1 (by rw [c9]; decide) (by rw [c9]; decide) (by rw [c9]; rfl) (by decide) ?_
    refine g_aload_n (pc := 90) E dX8_count_90 0 rfl rfl ?_
    refine g_getfield (pc := 91) E uX8_count_X8 0 (zx_l (by decide)) (fun _ _ => rfl) rfl 10 (by decide) wX8_count_12 (.int (fqI σ 0 10)) rfl dX8_count_91 ?_
    refine g_i2l (pc := 94) E dX8_count_94 ?_
    exact hret _ _ _ _ dX8_count_95 (Option.some.inj hf)
  replace hf := fq_f c9 hf
  refine g_tableOut (pc := 1) E 96 dX8_count_1 (fq_sw7 c1 c2 c3 c4 c7 c8 c9) (by decide) ?_
  refine g_aload_n (pc := 96) E dX8_count_96 0 rfl rfl ?_
  refine g_iconst (pc := 97) E (1 : Int32) dX8_count_97 (by decide) ?_
  obtain ⟨r11, σ12, e10, hf⟩ := fq_b2 hf
  refine g_callVl (pc := 98) E 0 (zx_l (by decide)) (fun _ _ => rfl) rfl [.int (1 : Int32)] (fun l D sz => qX8_finding l D cy ad sz n σ k (1 : Int32) e10) gX8_count_X8_finding rfl rfl rfl kcX8_finding ⟨by decide, by decide⟩ rfl rfl (Nat.le_of_ble_eq_true rfl) dX8_count_98 ⟨by decide, by decide⟩ ?_
  exact hret _ _ _ _ dX8_count_101 (Option.some.inj hf)
