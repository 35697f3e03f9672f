/-! X2_finish -/
theorem wX2_finish_0 : Cond.fieldLink RX2 30 "FairQueue$Match" "first" "I" ∈ wsX2_finish := by decide +kernel
theorem uX2_finish_X1 : ∀ w ∈ u_ws RX1 TX1 4, w ∈ wsX2_finish := (fun _ h => List.mem_cons_of_mem _ (List.mem_append_left _ (List.mem_append_left _ (List.mem_append_left _ (List.mem_append_right _ h)))))
theorem wX2_finish_2 : Cond.fieldLink RX2 37 "FairQueue$Match" "dropped" "I" ∈ wsX2_finish := by decide +kernel
theorem wX2_finish_3 : Cond.fieldLink RX2 34 "FairQueue$Match" "second" "I" ∈ wsX2_finish := by decide +kernel
theorem wX2_finish_4 : Cond.fieldLink RX2 18 "FairQueue$Matches" "ended" "J" ∈ wsX2_finish := by decide +kernel
theorem uX2_finish_X2 : ∀ w ∈ u_ws RX2 TX2 2, w ∈ wsX2_finish := (fun _ h => List.mem_cons_of_mem _ (List.mem_append_left _ (List.mem_append_left _ (List.mem_append_right _ h))))
theorem kcX2_finish : yX2_finish.cls = RX2 ∧ yX2_finish.cls ≠ "java/lang/invoke/MethodHandle" ∧ yX2_finish.cls ≠ "java/lang/invoke/VarHandle" ∧ (parseMethodDescriptor yX2_finish.desc).map (fun d => d.parameters.length) = some 3 := by decide +kernel
def pX2_finish (k n : Nat) (σ : fqS) (m1 : Nat) (x2 : Int32) : Option (Int32 × fqS) :=
  (fqB2 (pX6_reckonTeam k n σ ((fqI σ (18 + m1) 0) &&& ((fqI σ (18 + m1) 2) ^^^ (-1 : Int32))) (fqI σ (18 + m1) 1) x2) (fun r2 σ3 => (fqB2 (pX6_reckonTeam k n σ3 ((fqI σ3 (18 + m1) 1) &&& ((fqI σ3 (18 + m1) 2) ^^^ (-1 : Int32))) (fqI σ3 (18 + m1) 0) ((2 : Int32) - x2)) (fun r5 σ6 => ((pX6_settleTeam k n σ6 (r2 ||| r5)).bind (fun σ8 => ((pX1_clear k n σ8 m1).bind (fun σ10 => (fqN (fqPJ σ10 16 1 ((fqJ σ10 16 1) + (1 : Int64))) (fun σ11 => ((pJ6_bitCount_0f7a4 k n σ11 (r2 ||| r5)).bind (fun r14 => some (r14, σ11)))))))))))))
set_option maxRecDepth 100000 in
set_option maxHeartbeats 4000000 in
theorem qX2_finish (l : Launch) (D : va_G) (cy : Nat → ClassId) (ad : Nat → Nat) (sz n : Nat) (σ : fqS) (k : Nat) (m1 : Nat) (x2 : Int32) (hm1 : m1 < 5) {r : Int32} {σ' : fqS} (hf : pX2_finish k n σ m1 x2 = some (r, σ')) : Met l yX2_finish wsX2_finish ({ frames := 5, cells := 0, slots := 0, locals := 128 } : Room) (fqPc (TX cy) ZX D cy ad sz n σ [.ref (ad 16), .ref (ad (18 + m1)), .int x2, .ref (ad 1)]) (fqQi (TX cy) ZX D ad sz n σ r σ') 0 0 (fqA (TX cy) ZX ad sz n σ) := by
  refine fq_enter_i (cc := cX2_finish) (maxL := 5) (own := RX2) _ (by decide) rfl (Nat.le_of_ble_eq_true rfl) rfl (fun X E hret => ?_)
  unfold pX2_finish at hf
  show fqG X (TX cy) ZX ad n 5 0 0 σ 0 [(0, .ref (ad 16)), (1, .ref (ad (18 + m1))), (2, .int x2), (3, .ref (ad 1))] []
  refine g_aload_n (pc := 0) E dX2_finish_0 3 rfl rfl ?_
  refine g_aload_n (pc := 1) E dX2_finish_1 1 rfl rfl ?_
  refine g_getfield (pc := 2) E uX2_finish_X1 (18 + m1) (zx_m hm1) (tx_m cy ad n hm1) rfl 0 (by decide) wX2_finish_0 (.int (fqI σ (18 + m1) 0)) rfl dX2_finish_2 ?_
  refine g_aload_n (pc := 5) E dX2_finish_5 1 rfl rfl ?_
  refine g_getfield (pc := 6) E uX2_finish_X1 (18 + m1) (zx_m hm1) (tx_m cy ad n hm1) rfl 2 (by decide) wX2_finish_2 (.int (fqI σ (18 + m1) 2)) rfl dX2_finish_6 ?_
  refine g_iconst (pc := 9) E (-1 : Int32) dX2_finish_9 (by decide) ?_
  refine g_ixor (pc := 10) E dX2_finish_10 ?_
  refine g_iand (pc := 11) E dX2_finish_11 ?_
  refine g_aload_n (pc := 12) E dX2_finish_12 1 rfl rfl ?_
  refine g_getfield (pc := 13) E uX2_finish_X1 (18 + m1) (zx_m hm1) (tx_m cy ad n hm1) rfl 1 (by decide) wX2_finish_3 (.int (fqI σ (18 + m1) 1)) rfl dX2_finish_13 ?_
  refine g_iload_n (pc := 16) E dX2_finish_16 2 rfl rfl ?_
  obtain ⟨r2, σ3, e1, hf⟩ := fq_b2 hf
  refine g_callVi (pc := 17) E 1 (zx_l (by decide)) (fun _ _ => rfl) rfl [.int ((fqI σ (18 + m1) 0) &&& ((fqI σ (18 + m1) 2) ^^^ (-1 : Int32))), .int (fqI σ (18 + m1) 1), .int x2] (fun l D sz => qX6_reckonTeam l D cy ad sz n σ k ((fqI σ (18 + m1) 0) &&& ((fqI σ (18 + m1) 2) ^^^ (-1 : Int32))) (fqI σ (18 + m1) 1) x2 e1) gX2_finish_X6_reckonTeam rfl rfl rfl kcX6_reckonTeam ⟨by decide, by decide⟩ rfl rfl (Nat.le_of_ble_eq_true rfl) dX2_finish_17 ⟨by decide, by decide⟩ ?_
  refine g_aload_n (pc := 20) E dX2_finish_20 3 rfl rfl ?_
  refine g_aload_n (pc := 21) E dX2_finish_21 1 rfl rfl ?_
  refine g_getfield (pc := 22) E uX2_finish_X1 (18 + m1) (zx_m hm1) (tx_m cy ad n hm1) rfl 1 (by decide) wX2_finish_3 (.int (fqI σ3 (18 + m1) 1)) rfl dX2_finish_22 ?_
  refine g_aload_n (pc := 25) E dX2_finish_25 1 rfl rfl ?_
  refine g_getfield (pc := 26) E uX2_finish_X1 (18 + m1) (zx_m hm1) (tx_m cy ad n hm1) rfl 2 (by decide) wX2_finish_2 (.int (fqI σ3 (18 + m1) 2)) rfl dX2_finish_26 ?_
  refine g_iconst (pc := 29) E (-1 : Int32) dX2_finish_29 (by decide) ?_
  refine g_ixor (pc := 30) E dX2_finish_30 ?_
  refine g_iand (pc := 31) E dX2_finish_31 ?_
  refine g_aload_n (pc := 32) E dX2_finish_32 1 rfl rfl ?_
  refine g_getfield (pc := 33) E uX2_finish_X1 (18 + m1) (zx_m hm1) (tx_m cy ad n hm1) rfl 0 (by decide) wX2_finish_0 (.int (fqI σ3 (18 + m1) 0)) rfl dX2_finish_33 ?_
  refine g_iconst (pc := 36) E (2 : Int32) dX2_finish_36 (by decide) ?_
  refine g_iload_n (pc := 37) E dX2_finish_37 2 rfl rfl ?_
  refine g_isub (pc := 38) E dX2_finish_38 ?_
  obtain ⟨r5, σ6, e4, hf⟩ := fq_b2 hf
  refine g_callVi (pc := 39) E 1 (zx_l (by decide)) (fun _ _ => rfl) rfl [.int ((fqI σ3 (18 + m1) 1) &&& ((fqI σ3 (18 + m1) 2) ^^^ (-1 : Int32))), .int (fqI σ3 (18 + m1) 0), .int ((2 : Int32) - x2)] (fun l D sz => qX6_reckonTeam l D cy ad sz n σ3 k ((fqI σ3 (18 + m1) 1) &&& ((fqI σ3 (18 + m1) 2) ^^^ (-1 : Int32))) (fqI σ3 (18 + m1) 0) ((2 : Int32) - x2) e4) gX2_finish_X6_reckonTeam rfl rfl rfl kcX6_reckonTeam ⟨by decide, by decide⟩ rfl rfl (Nat.le_of_ble_eq_true rfl) dX2_finish_39 ⟨by decide, by decide⟩ ?_
  refine g_ior (pc := 42) E dX2_finish_42 ?_
  refine g_istore (pc := 43) E [(4, .int (r2 ||| r5)), (0, .ref (ad 16)), (1, .ref (ad (18 + m1))), (2, .int x2), (3, .ref (ad 1))] dX2_finish_43 (by decide) rfl ?_
  refine g_aload_n (pc := 45) E dX2_finish_45 4 rfl rfl ?_
  refine g_iload (pc := 46) E dX2_finish_46 0 rfl ?_
  obtain ⟨σ8, e7, hf⟩ := fq_b hf
  refine g_callVv (pc := 48) E 1 (zx_l (by decide)) (fun _ _ => rfl) rfl [.int (r2 ||| r5)] (fun l D sz => qX6_settleTeam l D cy ad sz n σ6 k (r2 ||| r5) e7) gX2_finish_X6_settleTeam rfl rfl rfl kcX6_settleTeam ⟨by decide, by decide⟩ rfl rfl (Nat.le_of_ble_eq_true rfl) dX2_finish_48 ⟨by decide, by decide⟩ ?_
  refine g_aload_n (pc := 51) E dX2_finish_51 2 rfl rfl ?_
  obtain ⟨σ10, e9, hf⟩ := fq_b hf
  refine g_callVv (pc := 52) E (18 + m1) (zx_m hm1) (tx_m cy ad n hm1) rfl [] (fun l D sz => qX1_clear l D cy ad sz n σ8 k m1 hm1 e9) gX2_finish_X1_clear rfl rfl rfl kcX1_clear ⟨by decide, by decide⟩ rfl rfl (Nat.le_of_ble_eq_true rfl) dX2_finish_52 ⟨by decide, by decide⟩ ?_
  refine g_aload_n (pc := 55) E dX2_finish_55 1 rfl rfl ?_
  refine g_dup (pc := 56) E dX2_finish_56 rfl ?_
  refine g_getfield (pc := 57) E uX2_finish_X2 16 (zx_l (by decide)) (fun _ _ => rfl) rfl 1 (by decide) wX2_finish_4 (.long (fqJ σ10 16 1)) rfl dX2_finish_57 ?_
  refine g_lconst (pc := 60) E (1 : Int64) dX2_finish_60 (by decide) ?_
  refine g_ladd (pc := 61) E dX2_finish_61 ?_
  refine g_putJ (pc := 62) E uX2_finish_X2 tyX2 tyX2_ok nmX2 16 (zx_l (by decide)) (fun _ _ => rfl) rfl 1 (by decide) wX2_finish_4 rfl rfl (Nat.le_of_ble_eq_true rfl) rfl dX2_finish_62 ?_
  obtain ⟨σ11, e12, hf⟩ := fq_n hf
  refine g_sg e12 ?_
  refine g_iload (pc := 65) E dX2_finish_65 0 rfl ?_
  obtain ⟨r14, e13, hf⟩ := fq_b hf
  refine g_callSi (pc := 67) E [.int (r2 ||| r5)] (fun l D sz => qJ6_bitCount_0f7a4 l D cy ad sz n σ11 k (r2 ||| r5) e13) gX2_finish_J6_bitCount_0f7a4 rfl rfl rfl kcJ6_bitCount_0f7a4 ⟨by decide, by decide⟩ rfl rfl (Nat.le_of_ble_eq_true rfl) dX2_finish_67 ⟨by decide, by decide⟩ ?_
  exact hret _ _ _ _ dX2_finish_70 (Option.some.inj hf)

/-! X2_going -/
theorem wX2_going_0 : Cond.fieldLink RX2 11 "FairQueue$Matches" "row" "[LFairQueue$Match;" ∈ wsX2_going := by decide +kernel
theorem uX2_going_X2 : ∀ w ∈ u_ws RX2 TX2 2, w ∈ wsX2_going := (fun _ h => List.mem_cons_of_mem _ (List.mem_append_left _ (List.mem_append_right _ h)))
theorem kcX2_going : yX2_going.cls = RX2 ∧ yX2_going.cls ≠ "java/lang/invoke/MethodHandle" ∧ yX2_going.cls ≠ "java/lang/invoke/VarHandle" ∧ (parseMethodDescriptor yX2_going.desc).map (fun d => d.parameters.length) = some 0 := by decide +kernel
def pX2_going_L4b (k n : Nat) (σ : fqS) (rec : (Int32 × Int32) → Option Int32) (x1 : Int32) (x2 : Int32) : Option Int32 :=
  (if (5 : Int32) ≤ x2 then some x1 else (if x2 < 0 ∨ 5 ≤ Int32.toNatClampNeg x2 then none else ((pX1_goesOn k n σ (Int32.toNatClampNeg x2)).bind (fun r4 => (if r4 = 0 then (rec (x1, (x2 + (1 : Int32)))) else (rec ((x1 + (1 : Int32)), (x2 + (1 : Int32)))))))))
def pX2_going_L4 (k n : Nat) (σ : fqS) : (Int32 × Int32) → Option Int32 := fqL (fun rec (s : (Int32 × Int32)) => pX2_going_L4b k n σ rec s.1 s.2) k
def pX2_going (k n : Nat) (σ : fqS) : Option Int32 :=
  (pX2_going_L4 k n σ ((0 : Int32), (0 : Int32)))
set_option maxRecDepth 100000 in
set_option maxHeartbeats 4000000 in
theorem tX2_going_L4 {k : Nat} {X : fqX} {cy : Nat → ClassId} {ad : Nat → Nat} {n : Nat} {σ : fqS} {r : Int32} (E : fqE X ({ frames := 1, cells := 0, slots := 0, locals := 20 } : Room) cy cX2_going 4 wsX2_going RX2) (hret : fqR_i X (TX cy) ZX ad n 4 cX2_going r σ) : ∀ (s : (Int32 × Int32)), pX2_going_L4 k n σ s = some r → fqG X (TX cy) ZX ad n 4 0 0 σ 4 [(0, .ref (ad 16)), (1, .int (s.1)), (2, .int (s.2))] [] := by
  unfold pX2_going_L4
  refine fqL_run (P := fun (s : (Int32 × Int32)) => fqG X (TX cy) ZX ad n 4 0 0 σ 4 [(0, .ref (ad 16)), (1, .int (s.1)), (2, .int (s.2))] []) (fun rec s hrec hf => ?_) k
  obtain ⟨x1, x2⟩ := s
  have hf : pX2_going_L4b k n σ rec x1 x2 = some r := hf
  unfold pX2_going_L4b at hf
  show fqG X (TX cy) ZX ad n 4 0 0 σ 4 [(0, .ref (ad 16)), (1, .int x1), (2, .int x2)] []
  refine g_iload_n (pc := 4) E dX2_going_4 2 rfl rfl ?_
  refine g_aload_n (pc := 5) E dX2_going_5 0 rfl rfl ?_
  refine g_getfield (pc := 6) E uX2_going_X2 16 (zx_l (by decide)) (fun _ _ => rfl) rfl 0 (by decide) wX2_going_0 (.ref (ad 17)) rfl dX2_going_6 ?_
  refine g_alen (pc := 9) E 17 (zx_l (by decide)) 3 (fun _ _ => rfl) rfl (5 : Int32) (by rfl) dX2_going_9 ?_
  refine g_icmp_ge (pc := 10) E 40 dX2_going_10 (by decide) (fun c1 => ?_) (fun c1 => ?_)
  · replace hf := fq_t c1 hf
    refine g_iload_n (pc := 40) E dX2_going_40 1 rfl rfl ?_
    exact hret _ _ _ _ dX2_going_41 (congrArg (fun z => (z, σ)) (Option.some.inj hf))
  · replace hf := fq_f c1 hf
    refine g_aload_n (pc := 13) E dX2_going_13 0 rfl rfl ?_
    refine g_getfield (pc := 14) E uX2_going_X2 16 (zx_l (by decide)) (fun _ _ => rfl) rfl 0 (by decide) wX2_going_0 (.ref (ad 17)) rfl dX2_going_14 ?_
    refine g_iload_n (pc := 17) E dX2_going_17 2 rfl rfl ?_
    obtain ⟨h2, hf⟩ := fq_in hf
    refine g_aaload (pc := 18) E 17 (zx_l (by decide)) 3 (fun _ _ => rfl) rfl h2 dX2_going_18 ?_
    refine g_st (st' := [.ref (ad (18 + (Int32.toNatClampNeg x2)))]) (fq_mrow (fq_lt h2)) ?_
    refine g_astore_n (pc := 19) E [(3, .ref (ad (18 + (Int32.toNatClampNeg x2)))), (0, .ref (ad 16)), (1, .int x1), (2, .int x2)] dX2_going_19 rfl (by decide) rfl ?_
    refine g_aload_n (pc := 20) E dX2_going_20 0 rfl rfl ?_
    refine g_ifnull (pc := 21) E dX2_going_21 ?_
    refine g_aload_n (pc := 24) E dX2_going_24 0 rfl rfl ?_
    obtain ⟨r4, e3, hf⟩ := fq_b hf
    refine g_callVi (pc := 25) E (18 + (Int32.toNatClampNeg x2)) (zx_m (fq_lt h2)) (tx_m cy ad n (fq_lt h2)) rfl [] (fun l D sz => qX1_goesOn l D cy ad sz n σ k (Int32.toNatClampNeg x2) (fq_lt h2) e3) gX2_going_X1_goesOn rfl rfl rfl kcX1_goesOn ⟨by decide, by decide⟩ rfl rfl (Nat.le_of_ble_eq_true rfl) dX2_going_25 ⟨by decide, by decide⟩ ?_
    refine g_if_eq (pc := 28) E 34 dX2_going_28 (by decide) (fun c5 => ?_) (fun c5 => ?_)
    · replace hf := fq_t c5 hf
      refine g_iinc (pc := 34) E (x2 + (1 : Int32)) [(2, .int (x2 + (1 : Int32))), (3, .ref (ad (18 + (Int32.toNatClampNeg x2)))), (0, .ref (ad 16)), (1, .int x1)] dX2_going_34 3 rfl rfl (by decide) rfl ?_
      refine g_goto (pc := 37) E 4 dX2_going_37 (by decide) ?_
      refine g_lv [2, 3, 0] rfl ?_
      exact hrec _ hf
    · replace hf := fq_f c5 hf
      refine g_iinc (pc := 31) E (x1 + (1 : Int32)) [(1, .int (x1 + (1 : Int32))), (3, .ref (ad (18 + (Int32.toNatClampNeg x2)))), (0, .ref (ad 16)), (2, .int x2)] dX2_going_31 2 rfl rfl (by decide) rfl ?_
      refine g_iinc (pc := 34) E (x2 + (1 : Int32)) [(2, .int (x2 + (1 : Int32))), (1, .int (x1 + (1 : Int32))), (3, .ref (ad (18 + (Int32.toNatClampNeg x2)))), (0, .ref (ad 16))] dX2_going_34 3 rfl rfl (by decide) rfl ?_
      refine g_goto (pc := 37) E 4 dX2_going_37 (by decide) ?_
      refine g_lv [3, 1, 0] rfl ?_
      exact hrec _ hf
set_option maxRecDepth 100000 in
set_option maxHeartbeats 4000000 in
theorem qX2_going (l : Launch) (D : va_G) (cy : Nat → ClassId) (ad : Nat → Nat) (sz n : Nat) (σ : fqS) (k : Nat) {r : Int32} (hf : pX2_going k n σ = some r) : Met l yX2_going wsX2_going ({ frames := 1, cells := 0, slots := 0, locals := 20 } : Room) (fqPc (TX cy) ZX D cy ad sz n σ [.ref (ad 16)]) (fqQi (TX cy) ZX D ad sz n σ r σ) 0 0 (fqA (TX cy) ZX ad sz n σ) := by
  refine fq_enter_i (cc := cX2_going) (maxL := 4) (own := RX2) _ (by decide) rfl (Nat.le_of_ble_eq_true rfl) rfl (fun X E hret => ?_)
  unfold pX2_going at hf
  show fqG X (TX cy) ZX ad n 4 0 0 σ 0 [(0, .ref (ad 16))] []
  refine g_iconst (pc := 0) E (0 : Int32) dX2_going_0 (by decide) ?_
  refine g_istore_n (pc := 1) E [(1, .int (0 : Int32)), (0, .ref (ad 16))] dX2_going_1 rfl (by decide) rfl ?_
  refine g_iconst (pc := 2) E (0 : Int32) dX2_going_2 (by decide) ?_
  refine g_istore_n (pc := 3) E [(2, .int (0 : Int32)), (1, .int (0 : Int32)), (0, .ref (ad 16))] dX2_going_3 rfl (by decide) rfl ?_
  refine g_lv [2, 1, 0] rfl ?_
  exact tX2_going_L4 E hret _ hf

/-! X2_withPlayer -/
theorem wX2_withPlayer_0 : Cond.fieldLink RX2 11 "FairQueue$Matches" "row" "[LFairQueue$Match;" ∈ wsX2_withPlayer := by decide +kernel
theorem uX2_withPlayer_X2 : ∀ w ∈ u_ws RX2 TX2 2, w ∈ wsX2_withPlayer := (fun _ h => List.mem_cons_of_mem _ (List.mem_append_left _ (List.mem_append_right _ h)))
theorem kcX2_withPlayer : yX2_withPlayer.cls = RX2 ∧ yX2_withPlayer.cls ≠ "java/lang/invoke/MethodHandle" ∧ yX2_withPlayer.cls ≠ "java/lang/invoke/VarHandle" ∧ (parseMethodDescriptor yX2_withPlayer.desc).map (fun d => d.parameters.length) = some 1 := by decide +kernel
def pX2_withPlayer_L2b (k n : Nat) (σ : fqS) (x1 : Int32) (rec : (Int32) → Option (Option Nat)) (x2 : Int32) : Option (Option Nat) :=
  (if (5 : Int32) ≤ x2 then some none else (if x2 < 0 ∨ 5 ≤ Int32.toNatClampNeg x2 then none else ((pX1_playing k n σ (Int32.toNatClampNeg x2)).bind (fun r4 => (if (r4 &&& x1) = 0 then (rec ((x2 + (1 : Int32)))) else some (some (Int32.toNatClampNeg x2)))))))
def pX2_withPlayer_L2 (k n : Nat) (σ : fqS) (x1 : Int32) : (Int32) → Option (Option Nat) := fqL (fun rec (s : (Int32)) => pX2_withPlayer_L2b k n σ x1 rec s) k
def pX2_withPlayer (k n : Nat) (σ : fqS) (x1 : Int32) : Option (Option Nat) :=
  (pX2_withPlayer_L2 k n σ x1 ((0 : Int32)))
set_option maxRecDepth 100000 in
set_option maxHeartbeats 4000000 in
theorem tX2_withPlayer_L2 {k : Nat} {X : fqX} {cy : Nat → ClassId} {ad : Nat → Nat} {n : Nat} {σ : fqS} {r : (Option Nat)} {x1 : Int32} (E : fqE X ({ frames := 1, cells := 0, slots := 0, locals := 20 } : Room) cy cX2_withPlayer 4 wsX2_withPlayer RX2) (hret : fqR_q X (TX cy) ZX ad n 4 cX2_withPlayer (r.map (fun z => ad (18 + z))) σ) : ∀ (s : (Int32)), pX2_withPlayer_L2 k n σ x1 s = some r → fqG X (TX cy) ZX ad n 4 0 0 σ 2 [(0, .ref (ad 16)), (1, .int x1), (2, .int (s))] [] := by
  unfold pX2_withPlayer_L2
  refine fqL_run (P := fun (s : (Int32)) => fqG X (TX cy) ZX ad n 4 0 0 σ 2 [(0, .ref (ad 16)), (1, .int x1), (2, .int (s))] []) (fun rec s hrec hf => ?_) k
  obtain ⟨x2, rfl⟩ : ∃ z, z = s := ⟨_, rfl⟩
  have hf : pX2_withPlayer_L2b k n σ x1 rec x2 = some r := hf
  unfold pX2_withPlayer_L2b at hf
  show fqG X (TX cy) ZX ad n 4 0 0 σ 2 [(0, .ref (ad 16)), (1, .int x1), (2, .int x2)] []
  refine g_iload_n (pc := 2) E dX2_withPlayer_2 2 rfl rfl ?_
  refine g_aload_n (pc := 3) E dX2_withPlayer_3 0 rfl rfl ?_
  refine g_getfield (pc := 4) E uX2_withPlayer_X2 16 (zx_l (by decide)) (fun _ _ => rfl) rfl 0 (by decide) wX2_withPlayer_0 (.ref (ad 17)) rfl dX2_withPlayer_4 ?_
  refine g_alen (pc := 7) E 17 (zx_l (by decide)) 3 (fun _ _ => rfl) rfl (5 : Int32) (by rfl) dX2_withPlayer_7 ?_
  refine g_icmp_ge (pc := 8) E 39 dX2_withPlayer_8 (by decide) (fun c1 => ?_) (fun c1 => ?_)
  · replace hf := fq_t c1 hf
    refine g_null (pc := 39) E dX2_withPlayer_39 ?_
    refine g_st (st' := [va_rf none]) rfl ?_
    exact hret _ _ _ _ dX2_withPlayer_40 (by cases hf; rfl)
  · replace hf := fq_f c1 hf
    refine g_aload_n (pc := 11) E dX2_withPlayer_11 0 rfl rfl ?_
    refine g_getfield (pc := 12) E uX2_withPlayer_X2 16 (zx_l (by decide)) (fun _ _ => rfl) rfl 0 (by decide) wX2_withPlayer_0 (.ref (ad 17)) rfl dX2_withPlayer_12 ?_
    refine g_iload_n (pc := 15) E dX2_withPlayer_15 2 rfl rfl ?_
    obtain ⟨h2, hf⟩ := fq_in hf
    refine g_aaload (pc := 16) E 17 (zx_l (by decide)) 3 (fun _ _ => rfl) rfl h2 dX2_withPlayer_16 ?_
    refine g_st (st' := [.ref (ad (18 + (Int32.toNatClampNeg x2)))]) (fq_mrow (fq_lt h2)) ?_
    refine g_astore_n (pc := 17) E [(3, .ref (ad (18 + (Int32.toNatClampNeg x2)))), (0, .ref (ad 16)), (1, .int x1), (2, .int x2)] dX2_withPlayer_17 rfl (by decide) rfl ?_
    refine g_aload_n (pc := 18) E dX2_withPlayer_18 0 rfl rfl ?_
    refine g_ifnull (pc := 19) E dX2_withPlayer_19 ?_
    refine g_aload_n (pc := 22) E dX2_withPlayer_22 0 rfl rfl ?_
    obtain ⟨r4, e3, hf⟩ := fq_b hf
    refine g_callVi (pc := 23) E (18 + (Int32.toNatClampNeg x2)) (zx_m (fq_lt h2)) (tx_m cy ad n (fq_lt h2)) rfl [] (fun l D sz => qX1_playing l D cy ad sz n σ k (Int32.toNatClampNeg x2) (fq_lt h2) e3) gX2_withPlayer_X1_playing rfl rfl rfl kcX1_playing ⟨by decide, by decide⟩ rfl rfl (Nat.le_of_ble_eq_true rfl) dX2_withPlayer_23 ⟨by decide, by decide⟩ ?_
    refine g_iload_n (pc := 26) E dX2_withPlayer_26 2 rfl rfl ?_
    refine g_iand (pc := 27) E dX2_withPlayer_27 ?_
    refine g_if_eq (pc := 28) E 33 dX2_withPlayer_28 (by decide) (fun c5 => ?_) (fun c5 => ?_)
    · replace hf := fq_t c5 hf
      refine g_iinc (pc := 33) E (x2 + (1 : Int32)) [(2, .int (x2 + (1 : Int32))), (3, .ref (ad (18 + (Int32.toNatClampNeg x2)))), (0, .ref (ad 16)), (1, .int x1)] dX2_withPlayer_33 3 rfl rfl (by decide) rfl ?_
      refine g_goto (pc := 36) E 2 dX2_withPlayer_36 (by decide) ?_
      refine g_lv [2, 3, 0] rfl ?_
      exact hrec _ hf
    · replace hf := fq_f c5 hf
      refine g_aload_n (pc := 31) E dX2_withPlayer_31 0 rfl rfl ?_
      refine g_st (st' := [va_rf (some (ad (18 + (Int32.toNatClampNeg x2))))]) rfl ?_
      exact hret _ _ _ _ dX2_withPlayer_32 (by cases hf; rfl)
set_option maxRecDepth 100000 in
set_option maxHeartbeats 4000000 in
theorem qX2_withPlayer (l : Launch) (D : va_G) (cy : Nat → ClassId) (ad : Nat → Nat) (sz n : Nat) (σ : fqS) (k : Nat) (x1 : Int32) {r : (Option Nat)} (hf : pX2_withPlayer k n σ x1 = some r) : Met l yX2_withPlayer wsX2_withPlayer ({ frames := 1, cells := 0, slots := 0, locals := 20 } : Room) (fqPc (TX cy) ZX D cy ad sz n σ [.ref (ad 16), .int x1]) (fqQq (TX cy) ZX D ad sz n σ (r.map (fun z => ad (18 + z))) σ) 0 0 (fqA (TX cy) ZX ad sz n σ) := by
  refine fq_enter_q (cc := cX2_withPlayer) (maxL := 4) (own := RX2) _ (by decide) rfl (Nat.le_of_ble_eq_true rfl) rfl (fun X E hret => ?_)
  unfold pX2_withPlayer at hf
  show fqG X (TX cy) ZX ad n 4 0 0 σ 0 [(0, .ref (ad 16)), (1, .int x1)] []
  refine g_iconst (pc := 0) E (0 : Int32) dX2_withPlayer_0 (by decide) ?_
  refine g_istore_n (pc := 1) E [(2, .int (0 : Int32)), (0, .ref (ad 16)), (1, .int x1)] dX2_withPlayer_1 rfl (by decide) rfl ?_
  refine g_lv [1, 2, 0] rfl ?_
  exact tX2_withPlayer_L2 E hret _ hf

/-! X3_add -/
theorem wX3_add_0 : Cond.fieldLink RX3 19 "FairQueue$Pairings" "number" "I" ∈ wsX3_add := by decide +kernel
theorem uX3_add_X3 : ∀ w ∈ u_ws RX3 TX3 6, w ∈ wsX3_add := (fun _ h => List.mem_cons_of_mem _ (List.mem_append_right _ h))
theorem wX3_add_2 : Cond.fieldLink RX3 9 "FairQueue$Pairings" "teams" "[I" ∈ wsX3_add := by decide +kernel
theorem wX3_add_3 : Cond.fieldLink RX3 15 "FairQueue$Pairings" "means" "[J" ∈ wsX3_add := by decide +kernel
theorem kcX3_add : yX3_add.cls = RX3 ∧ yX3_add.cls ≠ "java/lang/invoke/MethodHandle" ∧ yX3_add.cls ≠ "java/lang/invoke/VarHandle" ∧ (parseMethodDescriptor yX3_add.desc).map (fun d => d.parameters.length) = some 2 := by decide +kernel
def pX3_add (k n : Nat) (σ : fqS) (x1 : Int32) (x2 : Int64) : Option fqS :=
  (if (fqI σ 10 2) < 0 then some σ else (if (175 : Int32) ≤ (fqI σ 10 2) then some σ else (if (175 : Int32) ≤ (fqI σ 10 2) then some σ else (if (fqI σ 10 2) < 0 ∨ 175 ≤ Int32.toNatClampNeg (fqI σ 10 2) then none else (fqN (fqPI σ 11 (Int32.toNatClampNeg (fqI σ 10 2)) x1) (fun σ5 => (if (fqI σ5 10 2) < 0 ∨ 175 ≤ Int32.toNatClampNeg (fqI σ5 10 2) then none else (fqN (fqPJ σ5 12 (Int32.toNatClampNeg (fqI σ5 10 2)) x2) (fun σ8 => (fqN (fqPI σ8 10 2 ((fqI σ8 10 2) + (1 : Int32))) (fun σ10 => some σ10)))))))))))
set_option maxRecDepth 100000 in
set_option maxHeartbeats 4000000 in
theorem qX3_add (l : Launch) (D : va_G) (cy : Nat → ClassId) (ad : Nat → Nat) (sz n : Nat) (σ : fqS) (k : Nat) (x1 : Int32) (x2 : Int64) {σ' : fqS} (hf : pX3_add k n σ x1 x2 = some σ') : Met l yX3_add wsX3_add ({ frames := 0, cells := 0, slots := 0, locals := 0 } : Room) (fqPc (TX cy) ZX D cy ad sz n σ [.ref (ad 10), .int x1, .long x2]) (fqQv (TX cy) ZX D ad sz n σ σ') 0 0 (fqA (TX cy) ZX ad sz n σ) := by
  refine fq_enter_v (cc := cX3_add) (maxL := 4) (own := RX3) _ (by decide) rfl (Nat.le_of_ble_eq_true rfl) rfl (fun X E hret => ?_)
  unfold pX3_add at hf
  show fqG X (TX cy) ZX ad n 4 0 0 σ 0 [(0, .ref (ad 10)), (1, .int x1), (2, .long x2)] []
  refine g_aload_n (pc := 0) E dX3_add_0 0 rfl rfl ?_
  refine g_getfield (pc := 1) E uX3_add_X3 10 (zx_l (by decide)) (fun _ _ => rfl) rfl 2 (by decide) wX3_add_0 (.int (fqI σ 10 2)) rfl dX3_add_1 ?_
  refine g_if_lt (pc := 4) E 61 dX3_add_4 (by decide) (fun c1 => ?_) (fun c1 => ?_)
  · replace hf := fq_t c1 hf
    exact hret _ _ _ dX3_add_61 (Option.some.inj hf)
  · replace hf := fq_f c1 hf
    refine g_aload_n (pc := 7) E dX3_add_7 0 rfl rfl ?_
    refine g_getfield (pc := 8) E uX3_add_X3 10 (zx_l (by decide)) (fun _ _ => rfl) rfl 2 (by decide) wX3_add_0 (.int (fqI σ 10 2)) rfl dX3_add_8 ?_
    refine g_aload_n (pc := 11) E dX3_add_11 0 rfl rfl ?_
    refine g_getfield (pc := 12) E uX3_add_X3 10 (zx_l (by decide)) (fun _ _ => rfl) rfl 0 (by decide) wX3_add_2 (.ref (ad 11)) rfl dX3_add_12 ?_
    refine g_alen (pc := 15) E 11 (zx_l (by decide)) 0 (fun _ _ => rfl) rfl (175 : Int32) (by rfl) dX3_add_15 ?_
    refine g_icmp_ge (pc := 16) E 61 dX3_add_16 (by decide) (fun c2 => ?_) (fun c2 => ?_)
    · replace hf := fq_t c2 hf
      exact hret _ _ _ dX3_add_61 (Option.some.inj hf)
    · replace hf := fq_f c2 hf
      refine g_aload_n (pc := 19) E dX3_add_19 0 rfl rfl ?_
      refine g_getfield (pc := 20) E uX3_add_X3 10 (zx_l (by decide)) (fun _ _ => rfl) rfl 2 (by decide) wX3_add_0 (.int (fqI σ 10 2)) rfl dX3_add_20 ?_
      refine g_aload_n (pc := 23) E dX3_add_23 0 rfl rfl ?_
      refine g_getfield (pc := 24) E uX3_add_X3 10 (zx_l (by decide)) (fun _ _ => rfl) rfl 1 (by decide) wX3_add_3 (.ref (ad 12)) rfl dX3_add_24 ?_
      refine g_alen (pc := 27) E 12 (zx_l (by decide)) 1 (fun _ _ => rfl) rfl (175 : Int32) (by rfl) dX3_add_27 ?_
      refine g_icmp_ge (pc := 28) E 61 dX3_add_28 (by decide) (fun c3 => ?_) (fun c3 => ?_)
      · replace hf := fq_t c3 hf
        exact hret _ _ _ dX3_add_61 (Option.some.inj hf)
      · replace hf := fq_f c3 hf
        refine g_aload_n (pc := 31) E dX3_add_31 0 rfl rfl ?_
        refine g_getfield (pc := 32) E uX3_add_X3 10 (zx_l (by decide)) (fun _ _ => rfl) rfl 0 (by decide) wX3_add_2 (.ref (ad 11)) rfl dX3_add_32 ?_
        refine g_aload_n (pc := 35) E dX3_add_35 0 rfl rfl ?_
        refine g_getfield (pc := 36) E uX3_add_X3 10 (zx_l (by decide)) (fun _ _ => rfl) rfl 2 (by decide) wX3_add_0 (.int (fqI σ 10 2)) rfl dX3_add_36 ?_
        refine g_iload_n (pc := 39) E dX3_add_39 1 rfl rfl ?_
        obtain ⟨h4, hf⟩ := fq_in hf
        refine g_iastore (pc := 40) E 11 (zx_l (by decide)) (fun _ _ => rfl) h4 dX3_add_40 ?_
        obtain ⟨σ5, e6, hf⟩ := fq_n hf
        refine g_sg e6 ?_
        refine g_aload_n (pc := 41) E dX3_add_41 0 rfl rfl ?_
        refine g_getfield (pc := 42) E uX3_add_X3 10 (zx_l (by decide)) (fun _ _ => rfl) rfl 1 (by decide) wX3_add_3 (.ref (ad 12)) rfl dX3_add_42 ?_
        refine g_aload_n (pc := 45) E dX3_add_45 0 rfl rfl ?_
        refine g_getfield (pc := 46) E uX3_add_X3 10 (zx_l (by decide)) (fun _ _ => rfl) rfl 2 (by decide) wX3_add_0 (.int (fqI σ5 10 2)) rfl dX3_add_46 ?_
        refine g_lload_n (pc := 49) E dX3_add_49 2 rfl rfl ?_
        obtain ⟨h7, hf⟩ := fq_in hf
        refine g_lastore (pc := 50) E 12 (zx_l (by decide)) (fun _ _ => rfl) h7 dX3_add_50 ?_
        obtain ⟨σ8, e9, hf⟩ := fq_n hf
        refine g_sg e9 ?_
        refine g_aload_n (pc := 51) E dX3_add_51 0 rfl rfl ?_
        refine g_dup (pc := 52) E dX3_add_52 rfl ?_
        refine g_getfield (pc := 53) E uX3_add_X3 10 (zx_l (by decide)) (fun _ _ => rfl) rfl 2 (by decide) wX3_add_0 (.int (fqI σ8 10 2)) rfl dX3_add_53 ?_
        refine g_iconst (pc := 56) E (1 : Int32) dX3_add_56 (by decide) ?_
        refine g_iadd (pc := 57) E dX3_add_57 ?_
        refine g_putI (pc := 58) E uX3_add_X3 tyX3 tyX3_ok nmX3 10 (zx_l (by decide)) (fun _ _ => rfl) rfl 2 (by decide) wX3_add_0 rfl rfl (Nat.le_of_ble_eq_true rfl) rfl dX3_add_58 ?_
        obtain ⟨σ10, e11, hf⟩ := fq_n hf
        refine g_sg e11 ?_
        exact hret _ _ _ dX3_add_61 (Option.some.inj hf)

/-! X7_partyAt -/
theorem wX7_partyAt_0 : Cond.fieldLink RX7 19 "FairQueue$Queue" "waiting" "I" ∈ wsX7_partyAt := by decide +kernel
theorem uX7_partyAt_X7 : ∀ w ∈ u_ws RX7 TX7 3, w ∈ wsX7_partyAt := (fun _ h => List.mem_cons_of_mem _ (List.mem_append_right _ h))
theorem wX7_partyAt_2 : Cond.fieldLink RX7 9 "FairQueue$Queue" "parties" "[I" ∈ wsX7_partyAt := by decide +kernel
theorem kcX7_partyAt : yX7_partyAt.cls = RX7 ∧ yX7_partyAt.cls ≠ "java/lang/invoke/MethodHandle" ∧ yX7_partyAt.cls ≠ "java/lang/invoke/VarHandle" ∧ (parseMethodDescriptor yX7_partyAt.desc).map (fun d => d.parameters.length) = some 1 := by decide +kernel
def pX7_partyAt (k n : Nat) (σ : fqS) (q : Nat) (x1 : Int32) : Option Int32 :=
  (if x1 < 0 then some (0 : Int32) else (if (fqI σ q 2) ≤ x1 then some (0 : Int32) else (if (10 : Int32) ≤ x1 then some (0 : Int32) else (if x1 < 0 ∨ 10 ≤ Int32.toNatClampNeg x1 then none else some (fqI σ (q + 1) (Int32.toNatClampNeg x1))))))
set_option maxRecDepth 100000 in
set_option maxHeartbeats 4000000 in
theorem qX7_partyAt (l : Launch) (D : va_G) (cy : Nat → ClassId) (ad : Nat → Nat) (sz n : Nat) (σ : fqS) (k : Nat) (q : Nat) (x1 : Int32) (hq : q = 4 ∨ q = 7) {r : Int32} (hf : pX7_partyAt k n σ q x1 = some r) : Met l yX7_partyAt wsX7_partyAt ({ frames := 0, cells := 0, slots := 0, locals := 0 } : Room) (fqPc (TX cy) ZX D cy ad sz n σ [.ref (ad q), .int x1]) (fqQi (TX cy) ZX D ad sz n σ r σ) 0 0 (fqA (TX cy) ZX ad sz n σ) := by
  refine fq_enter_i (cc := cX7_partyAt) (maxL := 2) (own := RX7) _ (by decide) rfl (Nat.le_of_ble_eq_true rfl) rfl (fun X E hret => ?_)
  unfold pX7_partyAt at hf
  show fqG X (TX cy) ZX ad n 2 0 0 σ 0 [(0, .ref (ad q)), (1, .int x1)] []
  refine g_iload_n (pc := 0) E dX7_partyAt_0 1 rfl rfl ?_
  refine g_if_lt (pc := 1) E 30 dX7_partyAt_1 (by decide) (fun c1 => ?_) (fun c1 => ?_)
  · replace hf := fq_t c1 hf
    refine g_iconst (pc := 30) E (0 : Int32) dX7_partyAt_30 (by decide) ?_
    exact hret _ _ _ _ dX7_partyAt_31 (congrArg (fun z => (z, σ)) (Option.some.inj hf))
  · replace hf := fq_f c1 hf
    refine g_iload_n (pc := 4) E dX7_partyAt_4 1 rfl rfl ?_
    refine g_aload_n (pc := 5) E dX7_partyAt_5 0 rfl rfl ?_
    refine g_getfield (pc := 6) E uX7_partyAt_X7 q (zx_q hq) (tx_q cy ad n hq) rfl 2 (by decide) wX7_partyAt_0 (.int (fqI σ q 2)) rfl dX7_partyAt_6 ?_
    refine g_icmp_ge (pc := 9) E 30 dX7_partyAt_9 (by decide) (fun c2 => ?_) (fun c2 => ?_)
    · replace hf := fq_t c2 hf
      refine g_iconst (pc := 30) E (0 : Int32) dX7_partyAt_30 (by decide) ?_
      exact hret _ _ _ _ dX7_partyAt_31 (congrArg (fun z => (z, σ)) (Option.some.inj hf))
    · replace hf := fq_f c2 hf
      refine g_iload_n (pc := 12) E dX7_partyAt_12 1 rfl rfl ?_
      refine g_aload_n (pc := 13) E dX7_partyAt_13 0 rfl rfl ?_
      refine g_getfield (pc := 14) E uX7_partyAt_X7 q (zx_q hq) (tx_q cy ad n hq) rfl 0 (by decide) wX7_partyAt_2 (.ref (ad (q + 1))) rfl dX7_partyAt_14 ?_
      refine g_alen (pc := 17) E (q + 1) (zx_qj hq (by decide)) 0 (tx_q1 cy ad n hq) rfl (10 : Int32) (by rfl) dX7_partyAt_17 ?_
      refine g_icmp_ge (pc := 18) E 30 dX7_partyAt_18 (by decide) (fun c3 => ?_) (fun c3 => ?_)
      · replace hf := fq_t c3 hf
        refine g_iconst (pc := 30) E (0 : Int32) dX7_partyAt_30 (by decide) ?_
        exact hret _ _ _ _ dX7_partyAt_31 (congrArg (fun z => (z, σ)) (Option.some.inj hf))
      · replace hf := fq_f c3 hf
        refine g_aload_n (pc := 21) E dX7_partyAt_21 0 rfl rfl ?_
        refine g_getfield (pc := 22) E uX7_partyAt_X7 q (zx_q hq) (tx_q cy ad n hq) rfl 0 (by decide) wX7_partyAt_2 (.ref (ad (q + 1))) rfl dX7_partyAt_22 ?_
        refine g_iload_n (pc := 25) E dX7_partyAt_25 1 rfl rfl ?_
        obtain ⟨h4, hf⟩ := fq_in hf
        refine g_iaload (pc := 26) E (q + 1) (zx_qj hq (by decide)) (tx_q1 cy ad n hq) h4 dX7_partyAt_26 ?_
        refine g_goto (pc := 27) E 31 dX7_partyAt_27 (by decide) ?_
        exact hret _ _ _ _ dX7_partyAt_31 (congrArg (fun z => (z, σ)) (Option.some.inj hf))

/-! X7_playersAt -/
theorem wX7_playersAt_0 : Cond.fieldLink RX7 9 "FairQueue$Queue" "parties" "[I" ∈ wsX7_playersAt := by decide +kernel
theorem uX7_playersAt_X7 : ∀ w ∈ u_ws RX7 TX7 3, w ∈ wsX7_playersAt := (fun _ h => List.mem_cons_of_mem _ (List.mem_append_right _ h))
theorem wX7_playersAt_2 : Cond.initialized RX8 ∈ wsX7_playersAt := by decide +kernel
theorem wX7_playersAt_3 : Cond.static yX8_hasBit ∈ wsX7_playersAt := by decide +kernel
theorem kcX7_playersAt : yX7_playersAt.cls = RX7 ∧ yX7_playersAt.cls ≠ "java/lang/invoke/MethodHandle" ∧ yX7_playersAt.cls ≠ "java/lang/invoke/VarHandle" ∧ (parseMethodDescriptor yX7_playersAt.desc).map (fun d => d.parameters.length) = some 1 := by decide +kernel
def pX7_playersAt_L4b (k n : Nat) (σ : fqS) (q : Nat) (x1 : Int32) (rec : (Int32 × Int32) → Option Int32) (x2 : Int32) (x3 : Int32) : Option Int32 :=
  (if (10 : Int32) ≤ x3 then some x2 else ((pX8_hasBit k n σ x1 x3).bind (fun r3 => (if r3 = 0 then (rec (x2, (x3 + (1 : Int32)))) else ((pX7_partyAt k n σ q x3).bind (fun r6 => (rec ((x2 ||| r6), (x3 + (1 : Int32))))))))))
def pX7_playersAt_L4 (k n : Nat) (σ : fqS) (q : Nat) (x1 : Int32) : (Int32 × Int32) → Option Int32 := fqL (fun rec (s : (Int32 × Int32)) => pX7_playersAt_L4b k n σ q x1 rec s.1 s.2) k
def pX7_playersAt (k n : Nat) (σ : fqS) (q : Nat) (x1 : Int32) : Option Int32 :=
  (pX7_playersAt_L4 k n σ q x1 ((0 : Int32), (0 : Int32)))
set_option maxRecDepth 100000 in
set_option maxHeartbeats 4000000 in
theorem tX7_playersAt_L4 {k : Nat} {X : fqX} {cy : Nat → ClassId} {ad : Nat → Nat} {n : Nat} {σ : fqS} {r : Int32} {q : Nat} {x1 : Int32} (E : fqE X ({ frames := 1, cells := 0, slots := 0, locals := 21 } : Room) cy cX7_playersAt 4 wsX7_playersAt RX7) (hret : fqR_i X (TX cy) ZX ad n 4 cX7_playersAt r σ) (hq : q = 4 ∨ q = 7) : ∀ (s : (Int32 × Int32)), pX7_playersAt_L4 k n σ q x1 s = some r → fqG X (TX cy) ZX ad n 4 0 0 σ 4 [(0, .ref (ad q)), (1, .int x1), (2, .int (s.1)), (3, .int (s.2))] [] := by
  unfold pX7_playersAt_L4
  refine fqL_run (P := fun (s : (Int32 × Int32)) => fqG X (TX cy) ZX ad n 4 0 0 σ 4 [(0, .ref (ad q)), (1, .int x1), (2, .int (s.1)), (3, .int (s.2))] []) (fun rec s hrec hf => ?_) k
  obtain ⟨x2, x3⟩ := s
  have hf : pX7_playersAt_L4b k n σ q x1 rec x2 x3 = some r := hf
  unfold pX7_playersAt_L4b at hf
  show fqG X (TX cy) ZX ad n 4 0 0 σ 4 [(0, .ref (ad q)), (1, .int x1), (2, .int x2), (3, .int x3)] []
  refine g_iload_n (pc := 4) E dX7_playersAt_4 3 rfl rfl ?_
  refine g_aload_n (pc := 5) E dX7_playersAt_5 0 rfl rfl ?_
  refine g_getfield (pc := 6) E uX7_playersAt_X7 q (zx_q hq) (tx_q cy ad n hq) rfl 0 (by decide) wX7_playersAt_0 (.ref (ad (q + 1))) rfl dX7_playersAt_6 ?_
  refine g_alen (pc := 9) E (q + 1) (zx_qj hq (by decide)) 0 (tx_q1 cy ad n hq) rfl (10 : Int32) (by rfl) dX7_playersAt_9 ?_
  refine g_icmp_ge (pc := 10) E 35 dX7_playersAt_10 (by decide) (fun c1 => ?_) (fun c1 => ?_)
  · replace hf := fq_t c1 hf
    refine g_iload_n (pc := 35) E dX7_playersAt_35 2 rfl rfl ?_
    exact hret _ _ _ _ dX7_playersAt_36 (congrArg (fun z => (z, σ)) (Option.some.inj hf))
  · replace hf := fq_f c1 hf
    refine g_iload_n (pc := 13) E dX7_playersAt_13 1 rfl rfl ?_
    refine g_iload_n (pc := 14) E dX7_playersAt_14 3 rfl rfl ?_
    obtain ⟨r3, e2, hf⟩ := fq_b hf
    refine g_callNi (pc := 15) E [.int x1, .int x3] (fun l D sz => qX8_hasBit l D cy ad sz n σ k x1 x3 e2) gX7_playersAt_X8_hasBit_n34 rfl rfl rfl (fun U h => h.2.2.2.1) wX7_playersAt_2 wX7_playersAt_3 kcX8_hasBit ⟨by decide, by decide⟩ rfl rfl (Nat.le_of_ble_eq_true rfl) dX7_playersAt_15 ⟨by decide, by decide⟩ ?_
    refine g_if_eq (pc := 18) E 29 dX7_playersAt_18 (by decide) (fun c4 => ?_) (fun c4 => ?_)
    · replace hf := fq_t c4 hf
      refine g_iinc (pc := 29) E (x3 + (1 : Int32)) [(3, .int (x3 + (1 : Int32))), (0, .ref (ad q)), (1, .int x1), (2, .int x2)] dX7_playersAt_29 3 rfl rfl (by decide) rfl ?_
      refine g_goto (pc := 32) E 4 dX7_playersAt_32 (by decide) ?_
      refine g_lv [1, 2, 3, 0] rfl ?_
      exact hrec _ hf
    · replace hf := fq_f c4 hf
      refine g_iload_n (pc := 21) E dX7_playersAt_21 2 rfl rfl ?_
      refine g_aload_n (pc := 22) E dX7_playersAt_22 0 rfl rfl ?_
      refine g_iload_n (pc := 23) E dX7_playersAt_23 3 rfl rfl ?_
      obtain ⟨r6, e5, hf⟩ := fq_b hf
      refine g_callVi (pc := 24) E q (zx_q hq) (tx_q cy ad n hq) rfl [.int x3] (fun l D sz => qX7_partyAt l D cy ad sz n σ k q x3 hq e5) gX7_playersAt_X7_partyAt rfl rfl rfl kcX7_partyAt ⟨by decide, by decide⟩ rfl rfl (Nat.le_of_ble_eq_true rfl) dX7_playersAt_24 ⟨by decide, by decide⟩ ?_
      refine g_ior (pc := 27) E dX7_playersAt_27 ?_
      refine g_istore_n (pc := 28) E [(2, .int (x2 ||| r6)), (0, .ref (ad q)), (1, .int x1), (3, .int x3)] dX7_playersAt_28 rfl (by decide) rfl ?_
      refine g_iinc (pc := 29) E (x3 + (1 : Int32)) [(3, .int (x3 + (1 : Int32))), (2, .int (x2 ||| r6)), (0, .ref (ad q)), (1, .int x1)] dX7_playersAt_29 3 rfl rfl (by decide) rfl ?_
      refine g_goto (pc := 32) E 4 dX7_playersAt_32 (by decide) ?_
      refine g_lv [2, 3, 1, 0] rfl ?_
      exact hrec _ hf
set_option maxRecDepth 100000 in
set_option maxHeartbeats 4000000 in
theorem qX7_playersAt (l : Launch) (D : va_G) (cy : Nat → ClassId) (ad : Nat → Nat) (sz n : Nat) (σ : fqS) (k : Nat) (q : Nat) (x1 : Int32) (hq : q = 4 ∨ q = 7) {r : Int32} (hf : pX7_playersAt k n σ q x1 = some r) : Met l yX7_playersAt wsX7_playersAt ({ frames := 1, cells := 0, slots := 0, locals := 21 } : Room) (fqPc (TX cy) ZX D cy ad sz n σ [.ref (ad q), .int x1]) (fqQi (TX cy) ZX D ad sz n σ r σ) 0 0 (fqA (TX cy) ZX ad sz n σ) := by
  refine fq_enter_i (cc := cX7_playersAt) (maxL := 4) (own := RX7) _ (by decide) rfl (Nat.le_of_ble_eq_true rfl) rfl (fun X E hret => ?_)
  unfold pX7_playersAt at hf
  show fqG X (TX cy) ZX ad n 4 0 0 σ 0 [(0, .ref (ad q)), (1, .int x1)] []
  refine g_iconst (pc := 0) E (0 : Int32) dX7_playersAt_0 (by decide) ?_
  refine g_istore_n (pc := 1) E [(2, .int (0 : Int32)), (0, .ref (ad q)), (1, .int x1)] dX7_playersAt_1 rfl (by decide) rfl ?_
  refine g_iconst (pc := 2) E (0 : Int32) dX7_playersAt_2 (by decide) ?_
  refine g_istore_n (pc := 3) E [(3, .int (0 : Int32)), (2, .int (0 : Int32)), (0, .ref (ad q)), (1, .int x1)] dX7_playersAt_3 rfl (by decide) rfl ?_
  refine g_lv [2, 3, 1, 0] rfl ?_
  exact tX7_playersAt_L4 E hret hq _ hf

/-! X5_ownMean -/
theorem wX5_ownMean_0 : Cond.fieldLink RX5 15 "FairQueue$Player" "shares" "[J" ∈ wsX5_ownMean := by decide +kernel
theorem uX5_ownMean_X5 : ∀ w ∈ u_ws RX5 TX5 5, w ∈ wsX5_ownMean := (fun _ h => List.mem_cons_of_mem _ (List.mem_append_right _ h))
theorem kcX5_ownMean : yX5_ownMean.cls = RX5 ∧ yX5_ownMean.cls ≠ "java/lang/invoke/MethodHandle" ∧ yX5_ownMean.cls ≠ "java/lang/invoke/VarHandle" ∧ (parseMethodDescriptor yX5_ownMean.desc).map (fun d => d.parameters.length) = some 0 := by decide +kernel
def pX5_ownMean_L4b (k n : Nat) (σ : fqS) (p : Nat) (rec : (Int64 × Int32) → Option Int64) (x1 : Int64) (x3 : Int32) : Option Int64 :=
  (if (7 : Int32) ≤ x3 then some x1 else (if x3 < 0 ∨ 7 ≤ Int32.toNatClampNeg x3 then none else (rec ((x1 + ((Int32.toInt64 x3) * (fqJ σ (26 + 4 * p + 1) (Int32.toNatClampNeg x3)))), (x3 + (1 : Int32))))))
def pX5_ownMean_L4 (k n : Nat) (σ : fqS) (p : Nat) : (Int64 × Int32) → Option Int64 := fqL (fun rec (s : (Int64 × Int32)) => pX5_ownMean_L4b k n σ p rec s.1 s.2) k
def pX5_ownMean (k n : Nat) (σ : fqS) (p : Nat) : Option Int64 :=
  (pX5_ownMean_L4 k n σ p ((0 : Int64), (0 : Int32)))
set_option maxRecDepth 100000 in
set_option maxHeartbeats 4000000 in
theorem tX5_ownMean_L4 {k : Nat} {X : fqX} {cy : Nat → ClassId} {ad : Nat → Nat} {n : Nat} {σ : fqS} {r : Int64} {p : Nat} (E : fqE X ({ frames := 0, cells := 0, slots := 0, locals := 0 } : Room) cy cX5_ownMean 4 wsX5_ownMean RX5) (hret : fqR_l X (TX cy) ZX ad n 4 cX5_ownMean r σ) (hp : p < n) : ∀ (s : (Int64 × Int32)), pX5_ownMean_L4 k n σ p s = some r → fqG X (TX cy) ZX ad n 4 0 0 σ 4 [(0, .ref (ad (26 + 4 * p))), (1, .long (s.1)), (3, .int (s.2))] [] := by
  unfold pX5_ownMean_L4
  refine fqL_run (P := fun (s : (Int64 × Int32)) => fqG X (TX cy) ZX ad n 4 0 0 σ 4 [(0, .ref (ad (26 + 4 * p))), (1, .long (s.1)), (3, .int (s.2))] []) (fun rec s hrec hf => ?_) k
  obtain ⟨x1, x3⟩ := s
  have hf : pX5_ownMean_L4b k n σ p rec x1 x3 = some r := hf
  unfold pX5_ownMean_L4b at hf
  show fqG X (TX cy) ZX ad n 4 0 0 σ 4 [(0, .ref (ad (26 + 4 * p))), (1, .long x1), (3, .int x3)] []
  refine g_iload_n (pc := 4) E dX5_ownMean_4 2 rfl rfl ?_
  refine g_aload_n (pc := 5) E dX5_ownMean_5 0 rfl rfl ?_
  refine g_getfield (pc := 6) E uX5_ownMean_X5 (26 + 4 * p) (zx_p0 hp) (tx_p cy ad n p) rfl 1 (by decide) wX5_ownMean_0 (.ref (ad (26 + 4 * p + 1))) rfl dX5_ownMean_6 ?_
  refine g_alen (pc := 9) E (26 + 4 * p + 1) (zx_p hp (by decide)) 1 (tx_p1 cy ad n p) rfl (7 : Int32) (by rfl) dX5_ownMean_9 ?_
  refine g_icmp_ge (pc := 10) E 31 dX5_ownMean_10 (by decide) (fun c1 => ?_) (fun c1 => ?_)
  · replace hf := fq_t c1 hf
    refine g_lload_n (pc := 31) E dX5_ownMean_31 1 rfl rfl ?_
    exact hret _ _ _ _ dX5_ownMean_32 (congrArg (fun z => (z, σ)) (Option.some.inj hf))
  · replace hf := fq_f c1 hf
    refine g_lload_n (pc := 13) E dX5_ownMean_13 1 rfl rfl ?_
    refine g_iload_n (pc := 14) E dX5_ownMean_14 2 rfl rfl ?_
    refine g_i2l (pc := 15) E dX5_ownMean_15 ?_
    refine g_aload_n (pc := 16) E dX5_ownMean_16 0 rfl rfl ?_
    refine g_getfield (pc := 17) E uX5_ownMean_X5 (26 + 4 * p) (zx_p0 hp) (tx_p cy ad n p) rfl 1 (by decide) wX5_ownMean_0 (.ref (ad (26 + 4 * p + 1))) rfl dX5_ownMean_17 ?_
    refine g_iload_n (pc := 20) E dX5_ownMean_20 2 rfl rfl ?_
    obtain ⟨h2, hf⟩ := fq_in hf
    refine g_laload (pc := 21) E (26 + 4 * p + 1) (zx_p hp (by decide)) (tx_p1 cy ad n p) h2 dX5_ownMean_21 ?_
    refine g_lmul (pc := 22) E dX5_ownMean_22 ?_
    refine g_ladd (pc := 23) E dX5_ownMean_23 ?_
    refine g_lstore_n (pc := 24) E [(1, .long (x1 + ((Int32.toInt64 x3) * (fqJ σ (26 + 4 * p + 1) (Int32.toNatClampNeg x3))))), (0, .ref (ad (26 + 4 * p))), (3, .int x3)] dX5_ownMean_24 rfl (by decide) rfl ?_
    refine g_iinc (pc := 25) E (x3 + (1 : Int32)) [(3, .int (x3 + (1 : Int32))), (1, .long (x1 + ((Int32.toInt64 x3) * (fqJ σ (26 + 4 * p + 1) (Int32.toNatClampNeg x3))))), (0, .ref (ad (26 + 4 * p)))] dX5_ownMean_25 2 rfl rfl (by decide) rfl ?_
    refine g_goto (pc := 28) E 4 dX5_ownMean_28 (by decide) ?_
    refine g_lv [2, 1, 0] rfl ?_
    exact hrec _ hf
set_option maxRecDepth 100000 in
set_option maxHeartbeats 4000000 in
theorem qX5_ownMean (l : Launch) (D : va_G) (cy : Nat → ClassId) (ad : Nat → Nat) (sz n : Nat) (σ : fqS) (k : Nat) (p : Nat) (hp : p < n) {r : Int64} (hf : pX5_ownMean k n σ p = some r) : Met l yX5_ownMean wsX5_ownMean ({ frames := 0, cells := 0, slots := 0, locals := 0 } : Room) (fqPc (TX cy) ZX D cy ad sz n σ [.ref (ad (26 + 4 * p))]) (fqQl (TX cy) ZX D ad sz n σ r σ) 0 0 (fqA (TX cy) ZX ad sz n σ) := by
  refine fq_enter_l (cc := cX5_ownMean) (maxL := 4) (own := RX5) _ (by decide) rfl (Nat.le_of_ble_eq_true rfl) rfl (fun X E hret => ?_)
  unfold pX5_ownMean at hf
  show fqG X (TX cy) ZX ad n 4 0 0 σ 0 [(0, .ref (ad (26 + 4 * p)))] []
  refine g_lconst (pc := 0) E (0 : Int64) dX5_ownMean_0 (by decide) ?_
  refine g_lstore_n (pc := 1) E [(1, .long (0 : Int64)), (0, .ref (ad (26 + 4 * p)))] dX5_ownMean_1 rfl (by decide) rfl ?_
  refine g_iconst (pc := 2) E (0 : Int32) dX5_ownMean_2 (by decide) ?_
  refine g_istore_n (pc := 3) E [(3, .int (0 : Int32)), (1, .long (0 : Int64)), (0, .ref (ad (26 + 4 * p)))] dX5_ownMean_3 rfl (by decide) rfl ?_
  refine g_lv [2, 1, 0] rfl ?_
  exact tX5_ownMean_L4 E hret hp _ hf

/-! X6_meansOf -/
theorem wX6_meansOf_0 : Cond.fieldLink RX6 11 "FairQueue$Players" "row" "[LFairQueue$Player;" ∈ wsX6_meansOf := by decide +kernel
theorem uX6_meansOf_X6 : ∀ w ∈ u_ws RX6 TX6 3, w ∈ wsX6_meansOf := (fun _ h => List.mem_cons_of_mem _ (List.mem_append_left _ (List.mem_append_right _ h)))
theorem wX6_meansOf_2 : Cond.initialized RX8 ∈ wsX6_meansOf := by decide +kernel
theorem wX6_meansOf_3 : Cond.static yX8_hasBit ∈ wsX6_meansOf := by decide +kernel
theorem kcX6_meansOf : yX6_meansOf.cls = RX6 ∧ yX6_meansOf.cls ≠ "java/lang/invoke/MethodHandle" ∧ yX6_meansOf.cls ≠ "java/lang/invoke/VarHandle" ∧ (parseMethodDescriptor yX6_meansOf.desc).map (fun d => d.parameters.length) = some 1 := by decide +kernel
def pX6_meansOf_L5b (k n : Nat) (σ : fqS) (x1 : Int32) (rec : (Int64 × Int32) → Option Int64) (x2 : Int64) (x4 : Int32) : Option Int64 :=
  (if (16 : Int32) ≤ x4 then some x2 else ((pX6_at k n σ x4).bind (fun r3 => (fqM r3 ((rec (x2, (x4 + (1 : Int32))))) (fun z4 => (if z4 < n then ((pX8_hasBit k n σ x1 x4).bind (fun r7 => (if r7 = 0 then (rec (x2, (x4 + (1 : Int32)))) else ((pX5_ownMean k n σ z4).bind (fun r10 => (rec ((x2 + r10), (x4 + (1 : Int32))))))))) else none))))))
def pX6_meansOf_L5 (k n : Nat) (σ : fqS) (x1 : Int32) : (Int64 × Int32) → Option Int64 := fqL (fun rec (s : (Int64 × Int32)) => pX6_meansOf_L5b k n σ x1 rec s.1 s.2) k
def pX6_meansOf (k n : Nat) (σ : fqS) (x1 : Int32) : Option Int64 :=
  (pX6_meansOf_L5 k n σ x1 ((0 : Int64), (0 : Int32)))
set_option maxRecDepth 100000 in
set_option maxHeartbeats 4000000 in
theorem tX6_meansOf_L5 {k : Nat} {X : fqX} {cy : Nat → ClassId} {ad : Nat → Nat} {n : Nat} {σ : fqS} {r : Int64} {x1 : Int32} (E : fqE X ({ frames := 1, cells := 0, slots := 0, locals := 23 } : Room) cy cX6_meansOf 6 wsX6_meansOf RX6) (hret : fqR_l X (TX cy) ZX ad n 6 cX6_meansOf r σ) : ∀ (s : (Int64 × Int32)), pX6_meansOf_L5 k n σ x1 s = some r → fqG X (TX cy) ZX ad n 6 0 0 σ 5 [(0, .ref (ad 1)), (1, .int x1), (2, .long (s.1)), (4, .int (s.2))] [] := by
  unfold pX6_meansOf_L5
  refine fqL_run (P := fun (s : (Int64 × Int32)) => fqG X (TX cy) ZX ad n 6 0 0 σ 5 [(0, .ref (ad 1)), (1, .int x1), (2, .long (s.1)), (4, .int (s.2))] []) (fun rec s hrec hf => ?_) k
  obtain ⟨x2, x4⟩ := s
  have hf : pX6_meansOf_L5b k n σ x1 rec x2 x4 = some r := hf
  unfold pX6_meansOf_L5b at hf
  show fqG X (TX cy) ZX ad n 6 0 0 σ 5 [(0, .ref (ad 1)), (1, .int x1), (2, .long x2), (4, .int x4)] []
  refine g_iload (pc := 5) E dX6_meansOf_5 3 rfl ?_
  refine g_aload_n (pc := 7) E dX6_meansOf_7 0 rfl rfl ?_
  refine g_getfield (pc := 8) E uX6_meansOf_X6 1 (zx_l (by decide)) (fun _ _ => rfl) rfl 0 (by decide) wX6_meansOf_0 (.ref (ad 2)) rfl dX6_meansOf_8 ?_
  refine g_alen (pc := 11) E 2 (zx_l (by decide)) 4 (fun _ _ => rfl) rfl (16 : Int32) (by rfl) dX6_meansOf_11 ?_
  refine g_icmp_ge (pc := 12) E 51 dX6_meansOf_12 (by decide) (fun c1 => ?_) (fun c1 => ?_)
  · replace hf := fq_t c1 hf
    refine g_lload_n (pc := 51) E dX6_meansOf_51 2 rfl rfl ?_
    exact hret _ _ _ _ dX6_meansOf_52 (congrArg (fun z => (z, σ)) (Option.some.inj hf))
  · replace hf := fq_f c1 hf
    refine g_aload_n (pc := 15) E dX6_meansOf_15 0 rfl rfl ?_
    refine g_iload (pc := 16) E dX6_meansOf_16 3 rfl ?_
    obtain ⟨r3, e2, hf⟩ := fq_b hf
    refine g_callVq (pc := 18) E 1 (zx_l (by decide)) (fun _ _ => rfl) rfl [.int x4] (fun l D sz => qX6_at l D cy ad sz n σ k x4 e2) gX6_meansOf_X6_at rfl rfl rfl kcX6_at ⟨by decide, by decide⟩ rfl rfl (Nat.le_of_ble_eq_true rfl) dX6_meansOf_18 ⟨by decide, by decide⟩ ?_
    cases r3 with
    | none =>
      replace hf := fqM_n hf
      refine g_st (st' := [.null]) rfl ?_
      refine g_astoreN (pc := 21) E [(5, .null), (0, .ref (ad 1)), (1, .int x1), (2, .long x2), (4, .int x4)] dX6_meansOf_21 (by decide) rfl ?_
      refine g_aloadN (pc := 23) E dX6_meansOf_23 0 rfl ?_
      refine g_ifnullN (pc := 25) E 45 dX6_meansOf_25 (by decide) ?_
      refine g_iinc (pc := 45) E (x4 + (1 : Int32)) [(4, .int (x4 + (1 : Int32))), (5, .null), (0, .ref (ad 1)), (1, .int x1), (2, .long x2)] dX6_meansOf_45 4 rfl rfl (by decide) rfl ?_
      refine g_goto (pc := 48) E 5 dX6_meansOf_48 (by decide) ?_
      refine g_lv [2, 3, 4, 0] rfl ?_
      exact hrec _ hf
    | some z4 =>
      obtain ⟨h5, hf⟩ := fq_g (fqM_s hf)
      refine g_st (st' := [.ref (ad (26 + 4 * z4))]) rfl ?_
      refine g_astore (pc := 21) E [(5, .ref (ad (26 + 4 * z4))), (0, .ref (ad 1)), (1, .int x1), (2, .long x2), (4, .int x4)] dX6_meansOf_21 (by decide) rfl ?_
      refine g_aload (pc := 23) E dX6_meansOf_23 0 rfl ?_
      refine g_ifnull (pc := 25) E dX6_meansOf_25 ?_
      refine g_iload_n (pc := 28) E dX6_meansOf_28 2 rfl rfl ?_
      refine g_iload (pc := 29) E dX6_meansOf_29 4 rfl ?_
      obtain ⟨r7, e6, hf⟩ := fq_b hf
      refine g_callNi (pc := 31) E [.int x1, .int x4] (fun l D sz => qX8_hasBit l D cy ad sz n σ k x1 x4 e6) gX6_meansOf_X8_hasBit_n35 rfl rfl rfl (fun U h => h.2.2.1) wX6_meansOf_2 wX6_meansOf_3 kcX8_hasBit ⟨by decide, by decide⟩ rfl rfl (Nat.le_of_ble_eq_true rfl) dX6_meansOf_31 ⟨by decide, by decide⟩ ?_
      refine g_if_eq (pc := 34) E 45 dX6_meansOf_34 (by decide) (fun c8 => ?_) (fun c8 => ?_)
      · replace hf := fq_t c8 hf
        refine g_iinc (pc := 45) E (x4 + (1 : Int32)) [(4, .int (x4 + (1 : Int32))), (5, .ref (ad (26 + 4 * z4))), (0, .ref (ad 1)), (1, .int x1), (2, .long x2)] dX6_meansOf_45 4 rfl rfl (by decide) rfl ?_
        refine g_goto (pc := 48) E 5 dX6_meansOf_48 (by decide) ?_
        refine g_lv [2, 3, 4, 0] rfl ?_
        exact hrec _ hf
      · replace hf := fq_f c8 hf
        refine g_lload_n (pc := 37) E dX6_meansOf_37 3 rfl rfl ?_
        refine g_aload (pc := 38) E dX6_meansOf_38 0 rfl ?_
        obtain ⟨r10, e9, hf⟩ := fq_b hf
        refine g_callVl (pc := 40) E (26 + 4 * z4) (zx_p0 h5) (tx_p cy ad n z4) rfl [] (fun l D sz => qX5_ownMean l D cy ad sz n σ k z4 h5 e9) gX6_meansOf_X5_ownMean rfl rfl rfl kcX5_ownMean ⟨by decide, by decide⟩ rfl rfl (Nat.le_of_ble_eq_true rfl) dX6_meansOf_40 ⟨by decide, by decide⟩ ?_
        refine g_ladd (pc := 43) E dX6_meansOf_43 ?_
        refine g_lstore_n (pc := 44) E [(2, .long (x2 + r10)), (5, .ref (ad (26 + 4 * z4))), (0, .ref (ad 1)), (1, .int x1), (4, .int x4)] dX6_meansOf_44 rfl (by decide) rfl ?_
        refine g_iinc (pc := 45) E (x4 + (1 : Int32)) [(4, .int (x4 + (1 : Int32))), (2, .long (x2 + r10)), (5, .ref (ad (26 + 4 * z4))), (0, .ref (ad 1)), (1, .int x1)] dX6_meansOf_45 4 rfl rfl (by decide) rfl ?_
        refine g_goto (pc := 48) E 5 dX6_meansOf_48 (by decide) ?_
        refine g_lv [3, 4, 1, 0] rfl ?_
        exact hrec _ hf
set_option maxRecDepth 100000 in
set_option maxHeartbeats 4000000 in
theorem qX6_meansOf (l : Launch) (D : va_G) (cy : Nat → ClassId) (ad : Nat → Nat) (sz n : Nat) (σ : fqS) (k : Nat) (x1 : Int32) {r : Int64} (hf : pX6_meansOf k n σ x1 = some r) : Met l yX6_meansOf wsX6_meansOf ({ frames := 1, cells := 0, slots := 0, locals := 23 } : Room) (fqPc (TX cy) ZX D cy ad sz n σ [.ref (ad 1), .int x1]) (fqQl (TX cy) ZX D ad sz n σ r σ) 0 0 (fqA (TX cy) ZX ad sz n σ) := by
  refine fq_enter_l (cc := cX6_meansOf) (maxL := 6) (own := RX6) _ (by decide) rfl (Nat.le_of_ble_eq_true rfl) rfl (fun X E hret => ?_)
  unfold pX6_meansOf at hf
  show fqG X (TX cy) ZX ad n 6 0 0 σ 0 [(0, .ref (ad 1)), (1, .int x1)] []
  refine g_lconst (pc := 0) E (0 : Int64) dX6_meansOf_0 (by decide) ?_
  refine g_lstore_n (pc := 1) E [(2, .long (0 : Int64)), (0, .ref (ad 1)), (1, .int x1)] dX6_meansOf_1 rfl (by decide) rfl ?_
  refine g_iconst (pc := 2) E (0 : Int32) dX6_meansOf_2 (by decide) ?_
  refine g_istore (pc := 3) E [(4, .int (0 : Int32)), (2, .long (0 : Int64)), (0, .ref (ad 1)), (1, .int x1)] dX6_meansOf_3 (by decide) rfl ?_
  refine g_lv [2, 3, 1, 0] rfl ?_
  exact tX6_meansOf_L5 E hret _ hf

/-! X3_gather -/
theorem wX3_gather_0 : Cond.fieldLink RX3 19 "FairQueue$Pairings" "number" "I" ∈ wsX3_gather := by decide +kernel
theorem uX3_gather_X3 : ∀ w ∈ u_ws RX3 TX3 6, w ∈ wsX3_gather := (fun _ h => List.mem_cons_of_mem _ (List.mem_append_left _ (List.mem_append_left _ (List.mem_append_left _ (List.mem_append_right _ h)))))
theorem wX3_gather_2 : Cond.fieldLink RX3 33 "FairQueue$Queue" "waiting" "I" ∈ wsX3_gather := by decide +kernel
theorem uX3_gather_X7 : ∀ w ∈ u_ws RX7 TX7 3, w ∈ wsX3_gather := (fun _ h => List.mem_cons_of_mem _ (List.mem_append_left _ (List.mem_append_left _ (List.mem_append_right _ h))))
theorem wX3_gather_4 : Cond.methodLink RX3 38 Lib.Math.min.name ∈ wsX3_gather := by decide +kernel
theorem wX3_gather_5 : Cond.static Lib.Math.min.name ∈ wsX3_gather := by decide +kernel
theorem wX3_gather_6 : Cond.initialized "java/lang/Math" ∈ wsX3_gather := by decide +kernel
theorem wX3_gather_7 : Cond.code Lib.Math.min.name Lib.Math.min.code 2 (some .int) ∈ wsX3_gather := by decide +kernel
theorem kcX3_gather : yX3_gather.cls = RX3 ∧ yX3_gather.cls ≠ "java/lang/invoke/MethodHandle" ∧ yX3_gather.cls ≠ "java/lang/invoke/VarHandle" ∧ (parseMethodDescriptor yX3_gather.desc).map (fun d => d.parameters.length) = some 3 := by decide +kernel
def pX3_gather_L21b (k n : Nat) (q1 : Nat) (x3 : Int32) (x4 : Int32) (rec : (Int32 × fqS) → Option fqS) (x5 : Int32) (σ : fqS) : Option fqS :=
  (if x4 ≤ x5 then some σ else ((pJ6_bitCount_0f7a4 k n σ x5).bind (fun r5 => (if x3 < r5 then (rec ((x5 + (1 : Int32)), σ)) else ((pX7_playersAt k n σ q1 x5).bind (fun r8 => ((pJ6_bitCount_0f7a4 k n σ r8).bind (fun r10 => (if r10 = x3 then ((pX6_meansOf k n σ r8).bind (fun r13 => ((pX3_add k n σ x5 r13).bind (fun σ15 => (rec ((x5 + (1 : Int32)), σ15)))))) else (rec ((x5 + (1 : Int32)), σ)))))))))))
def pX3_gather_L21 (k n : Nat) (q1 : Nat) (x3 : Int32) (x4 : Int32) : (Int32 × fqS) → Option fqS := fqL (fun rec (s : (Int32 × fqS)) => pX3_gather_L21b k n q1 x3 x4 rec s.1 s.2) k
def pX3_gather (k n : Nat) (σ : fqS) (q1 : Nat) (x3 : Int32) : Option fqS :=
  (fqN (fqPI σ 10 2 (0 : Int32)) (fun σ1 => (pX3_gather_L21 k n q1 x3 ((1 : Int32) <<< ((if (10 : Int32) < (fqI σ1 q1 2) then (10 : Int32) else (fqI σ1 q1 2)) &&& 31)) ((1 : Int32), σ1))))
set_option maxRecDepth 100000 in
set_option maxHeartbeats 4000000 in
theorem tX3_gather_L21 {k : Nat} {X : fqX} {cy : Nat → ClassId} {ad : Nat → Nat} {n : Nat} {σ' : fqS} {q1 : Nat} {x3 : Int32} {x4 : Int32} (E : fqE X ({ frames := 2, cells := 0, slots := 0, locals := 48 } : Room) cy cX3_gather 7 wsX3_gather RX3) (hret : fqR_v X (TX cy) ZX ad n 7 cX3_gather σ') (hq1 : q1 = 4 ∨ q1 = 7) : ∀ (s : (Int32 × fqS)), pX3_gather_L21 k n q1 x3 x4 s = some σ' → fqG X (TX cy) ZX ad n 7 0 0 (s.2) 21 [(0, .ref (ad 10)), (1, .ref (ad q1)), (2, .ref (ad 1)), (3, .int x3), (4, .int x4), (5, .int (s.1))] [] := by
  unfold pX3_gather_L21
  refine fqL_run (P := fun (s : (Int32 × fqS)) => fqG X (TX cy) ZX ad n 7 0 0 (s.2) 21 [(0, .ref (ad 10)), (1, .ref (ad q1)), (2, .ref (ad 1)), (3, .int x3), (4, .int x4), (5, .int (s.1))] []) (fun rec s hrec hf => ?_) k
  obtain ⟨x5, σ⟩ := s
  have hf : pX3_gather_L21b k n q1 x3 x4 rec x5 σ = some σ' := hf
  unfold pX3_gather_L21b at hf
  show fqG X (TX cy) ZX ad n 7 0 0 σ 21 [(0, .ref (ad 10)), (1, .ref (ad q1)), (2, .ref (ad 1)), (3, .int x3), (4, .int x4), (5, .int x5)] []
  refine g_iload (pc := 21) E dX3_gather_21 5 rfl ?_
  refine g_iload (pc := 23) E dX3_gather_23 4 rfl ?_
  refine g_icmp_ge (pc := 25) E 72 dX3_gather_25 (by decide) (fun c3 => ?_) (fun c3 => ?_)
  · replace hf := fq_t c3 hf
    exact hret _ _ _ dX3_gather_72 (Option.some.inj hf)
  · replace hf := fq_f c3 hf
    refine g_iload (pc := 28) E dX3_gather_28 5 rfl ?_
    obtain ⟨r5, e4, hf⟩ := fq_b hf
    refine g_callSi (pc := 30) E [.int x5] (fun l D sz => qJ6_bitCount_0f7a4 l D cy ad sz n σ k x5 e4) gX3_gather_J6_bitCount_0f7a4 rfl rfl rfl kcJ6_bitCount_0f7a4 ⟨by decide, by decide⟩ rfl rfl (Nat.le_of_ble_eq_true rfl) dX3_gather_30 ⟨by decide, by decide⟩ ?_
    refine g_iload_n (pc := 33) E dX3_gather_33 3 rfl rfl ?_
    refine g_icmp_gt (pc := 34) E 66 dX3_gather_34 (by decide) (fun c6 => ?_) (fun c6 => ?_)
    · replace hf := fq_t c6 hf
      refine g_iinc (pc := 66) E (x5 + (1 : Int32)) [(5, .int (x5 + (1 : Int32))), (0, .ref (ad 10)), (1, .ref (ad q1)), (2, .ref (ad 1)), (3, .int x3), (4, .int x4)] dX3_gather_66 5 rfl rfl (by decide) rfl ?_
      refine g_goto (pc := 69) E 21 dX3_gather_69 (by decide) ?_
      refine g_lv [1, 2, 3, 4, 5, 0] rfl ?_
      exact hrec _ hf
    · replace hf := fq_f c6 hf
      refine g_aload_n (pc := 37) E dX3_gather_37 1 rfl rfl ?_
      refine g_iload (pc := 38) E dX3_gather_38 5 rfl ?_
      obtain ⟨r8, e7, hf⟩ := fq_b hf
      refine g_callVi (pc := 40) E q1 (zx_q hq1) (tx_q cy ad n hq1) rfl [.int x5] (fun l D sz => qX7_playersAt l D cy ad sz n σ k q1 x5 hq1 e7) gX3_gather_X7_playersAt rfl rfl rfl kcX7_playersAt ⟨by decide, by decide⟩ rfl rfl (Nat.le_of_ble_eq_true rfl) dX3_gather_40 ⟨by decide, by decide⟩ ?_
      refine g_istore (pc := 43) E [(6, .int r8), (0, .ref (ad 10)), (1, .ref (ad q1)), (2, .ref (ad 1)), (3, .int x3), (4, .int x4), (5, .int x5)] dX3_gather_43 (by decide) rfl ?_
      refine g_iload (pc := 45) E dX3_gather_45 0 rfl ?_
      obtain ⟨r10, e9, hf⟩ := fq_b hf
      refine g_callSi (pc := 47) E [.int r8] (fun l D sz => qJ6_bitCount_0f7a4 l D cy ad sz n σ k r8 e9) gX3_gather_J6_bitCount_0f7a4 rfl rfl rfl kcJ6_bitCount_0f7a4 ⟨by decide, by decide⟩ rfl rfl (Nat.le_of_ble_eq_true rfl) dX3_gather_47 ⟨by decide, by decide⟩ ?_
      refine g_iload_n (pc := 50) E dX3_gather_50 4 rfl rfl ?_
      refine g_icmp_ne (pc := 51) E 66 dX3_gather_51 (by decide) (fun c11 => ?_) (fun c11 => ?_)
      · replace hf := fq_f c11 hf
        refine g_iinc (pc := 66) E (x5 + (1 : Int32)) [(5, .int (x5 + (1 : Int32))), (6, .int r8), (0, .ref (ad 10)), (1, .ref (ad q1)), (2, .ref (ad 1)), (3, .int x3), (4, .int x4)] dX3_gather_66 6 rfl rfl (by decide) rfl ?_
        refine g_goto (pc := 69) E 21 dX3_gather_69 (by decide) ?_
        refine g_lv [2, 3, 4, 5, 6, 0] rfl ?_
        exact hrec _ hf
      · replace hf := fq_t c11 hf
        refine g_aload_n (pc := 54) E dX3_gather_54 1 rfl rfl ?_
        refine g_iload (pc := 55) E dX3_gather_55 6 rfl ?_
        refine g_aload_n (pc := 57) E dX3_gather_57 3 rfl rfl ?_
        refine g_iload (pc := 58) E dX3_gather_58 0 rfl ?_
        obtain ⟨r13, e12, hf⟩ := fq_b hf
        refine g_callVl (pc := 60) E 1 (zx_l (by decide)) (fun _ _ => rfl) rfl [.int r8] (fun l D sz => qX6_meansOf l D cy ad sz n σ k r8 e12) gX3_gather_X6_meansOf rfl rfl rfl kcX6_meansOf ⟨by decide, by decide⟩ rfl rfl (Nat.le_of_ble_eq_true rfl) dX3_gather_60 ⟨by decide, by decide⟩ ?_
        obtain ⟨σ15, e14, hf⟩ := fq_b hf
        refine g_callVv (pc := 63) E 10 (zx_l (by decide)) (fun _ _ => rfl) rfl [.int x5, .long r13] (fun l D sz => qX3_add l D cy ad sz n σ k x5 r13 e14) gX3_gather_X3_add rfl rfl rfl kcX3_add ⟨by decide, by decide⟩ rfl rfl (Nat.le_of_ble_eq_true rfl) dX3_gather_63 ⟨by decide, by decide⟩ ?_
        refine g_iinc (pc := 66) E (x5 + (1 : Int32)) [(5, .int (x5 + (1 : Int32))), (6, .int r8), (0, .ref (ad 10)), (1, .ref (ad q1)), (2, .ref (ad 1)), (3, .int x3), (4, .int x4)] dX3_gather_66 6 rfl rfl (by decide) rfl ?_
        refine g_goto (pc := 69) E 21 dX3_gather_69 (by decide) ?_
        refine g_lv [2, 3, 4, 5, 6, 0] rfl ?_
        exact hrec _ hf
set_option maxRecDepth 100000 in
set_option maxHeartbeats 4000000 in
theorem qX3_gather (l : Launch) (D : va_G) (cy : Nat → ClassId) (ad : Nat → Nat) (sz n : Nat) (σ : fqS) (k : Nat) (q1 : Nat) (x3 : Int32) (hq1 : q1 = 4 ∨ q1 = 7) {σ' : fqS} (hf : pX3_gather k n σ q1 x3 = some σ') : Met l yX3_gather wsX3_gather ({ frames := 2, cells := 0, slots := 0, locals := 48 } : Room) (fqPc (TX cy) ZX D cy ad sz n σ [.ref (ad 10), .ref (ad q1), .ref (ad 1), .int x3]) (fqQv (TX cy) ZX D ad sz n σ σ') 0 0 (fqA (TX cy) ZX ad sz n σ) := by
  refine fq_enter_v (cc := cX3_gather) (maxL := 7) (own := RX3) _ (by decide) rfl (Nat.le_of_ble_eq_true rfl) rfl (fun X E hret => ?_)
  unfold pX3_gather at hf
  show fqG X (TX cy) ZX ad n 7 0 0 σ 0 [(0, .ref (ad 10)), (1, .ref (ad q1)), (2, .ref (ad 1)), (3, .int x3)] []
  refine g_aload_n (pc := 0) E dX3_gather_0 0 rfl rfl ?_
  refine g_iconst (pc := 1) E (0 : Int32) dX3_gather_1 (by decide) ?_
  refine g_putI (pc := 2) E uX3_gather_X3 tyX3 tyX3_ok nmX3 10 (zx_l (by decide)) (fun _ _ => rfl) rfl 2 (by decide) wX3_gather_0 rfl rfl (Nat.le_of_ble_eq_true rfl) rfl dX3_gather_2 ?_
  obtain ⟨σ1, e2, hf⟩ := fq_n hf
  refine g_sg e2 ?_
  refine g_iconst (pc := 5) E (1 : Int32) dX3_gather_5 (by decide) ?_
  refine g_aload_n (pc := 6) E dX3_gather_6 1 rfl rfl ?_
  refine g_getfield (pc := 7) E uX3_gather_X7 q1 (zx_q hq1) (tx_q cy ad n hq1) rfl 2 (by decide) wX3_gather_2 (.int (fqI σ1 q1 2)) rfl dX3_gather_7 ?_
  refine g_bipush (pc := 10) E (10 : Int32) dX3_gather_10 (by decide) ?_
  refine g_mminI (pc := 12) E wX3_gather_4 wX3_gather_5 wX3_gather_6 wX3_gather_7 (by decide) (Nat.le_of_ble_eq_true rfl) (by decide) dX3_gather_12 ?_
  refine g_ishl (pc := 15) E dX3_gather_15 ?_
  refine g_istore (pc := 16) E [(4, .int ((1 : Int32) <<< ((if (10 : Int32) < (fqI σ1 q1 2) then (10 : Int32) else (fqI σ1 q1 2)) &&& 31))), (0, .ref (ad 10)), (1, .ref (ad q1)), (2, .ref (ad 1)), (3, .int x3)] dX3_gather_16 (by decide) rfl ?_
  refine g_iconst (pc := 18) E (1 : Int32) dX3_gather_18 (by decide) ?_
  refine g_istore (pc := 19) E [(5, .int (1 : Int32)), (4, .int ((1 : Int32) <<< ((if (10 : Int32) < (fqI σ1 q1 2) then (10 : Int32) else (fqI σ1 q1 2)) &&& 31))), (0, .ref (ad 10)), (1, .ref (ad q1)), (2, .ref (ad 1)), (3, .int x3)] dX3_gather_19 (by decide) rfl ?_
  refine g_lv [2, 3, 4, 5, 1, 0] rfl ?_
  exact tX3_gather_L21 E hret hq1 _ hf

/-! X3_seekSecond -/
theorem wX3_seekSecond_0 : Cond.fieldLink RX3 9 "FairQueue$Pairings" "teams" "[I" ∈ wsX3_seekSecond := by decide +kernel
theorem uX3_seekSecond_X3 : ∀ w ∈ u_ws RX3 TX3 6, w ∈ wsX3_seekSecond := (fun _ h => List.mem_cons_of_mem _ (List.mem_append_right _ h))
theorem wX3_seekSecond_2 : Cond.fieldLink RX3 15 "FairQueue$Pairings" "means" "[J" ∈ wsX3_seekSecond := by decide +kernel
theorem wX3_seekSecond_3 : Cond.fieldLink RX3 19 "FairQueue$Pairings" "number" "I" ∈ wsX3_seekSecond := by decide +kernel
theorem wX3_seekSecond_4 : Cond.methodLink RX3 71 Lib.MathLoose.abs_long.x ∈ wsX3_seekSecond := by decide +kernel
theorem wX3_seekSecond_5 : Cond.static Lib.MathLoose.abs_long.x ∈ wsX3_seekSecond := by decide +kernel
theorem wX3_seekSecond_6 : Cond.initialized "java/lang/Math" ∈ wsX3_seekSecond := by decide +kernel
theorem wX3_seekSecond_7 : Cond.code Lib.MathLoose.abs_long.x Lib.MathLoose.abs_long.code 2 (some .long) ∈ wsX3_seekSecond := by decide +kernel
theorem wX3_seekSecond_8 : Cond.fieldLink RX3 23 "FairQueue$Pairings" "first" "I" ∈ wsX3_seekSecond := by decide +kernel
theorem wX3_seekSecond_9 : Cond.fieldLink RX3 26 "FairQueue$Pairings" "second" "I" ∈ wsX3_seekSecond := by decide +kernel
theorem wX3_seekSecond_10 : Cond.fieldLink RX3 29 "FairQueue$Pairings" "uneven" "J" ∈ wsX3_seekSecond := by decide +kernel
theorem kcX3_seekSecond : yX3_seekSecond.cls = RX3 ∧ yX3_seekSecond.cls ≠ "java/lang/invoke/MethodHandle" ∧ yX3_seekSecond.cls ≠ "java/lang/invoke/VarHandle" ∧ (parseMethodDescriptor yX3_seekSecond.desc).map (fun d => d.parameters.length) = some 1 := by decide +kernel
def pX3_seekSecond_L25b (k n : Nat) (x1 : Int32) (rec : (Int32 × fqS) → Option fqS) (x2 : Int32) (σ : fqS) : Option fqS :=
  (if (fqI σ 10 2) ≤ x2 then some σ else (if (175 : Int32) ≤ x2 then some σ else (if (175 : Int32) ≤ x2 then some σ else (if x1 < 0 ∨ 175 ≤ Int32.toNatClampNeg x1 then none else (if x2 < 0 ∨ 175 ≤ Int32.toNatClampNeg x2 then none else (if ((fqI σ 11 (Int32.toNatClampNeg x1)) &&& (fqI σ 11 (Int32.toNatClampNeg x2))) = 0 then (if (fqI σ 10 3) = 0 then (fqN (fqPI σ 10 3 (fqI σ 11 (Int32.toNatClampNeg x1))) (fun σ11 => (fqN (fqPI σ11 10 4 (fqI σ11 11 (Int32.toNatClampNeg x2))) (fun σ13 => (fqN (fqPJ σ13 10 5 (if 0 < ((fqJ σ 12 (Int32.toNatClampNeg x1)) - (fqJ σ 12 (Int32.toNatClampNeg x2))) then ((fqJ σ 12 (Int32.toNatClampNeg x1)) - (fqJ σ 12 (Int32.toNatClampNeg x2))) else -((fqJ σ 12 (Int32.toNatClampNeg x1)) - (fqJ σ 12 (Int32.toNatClampNeg x2))))) (fun σ15 => (rec ((x2 + (1 : Int32)), σ15)))))))) else (if (fqJ σ 10 5) ≤ (if 0 < ((fqJ σ 12 (Int32.toNatClampNeg x1)) - (fqJ σ 12 (Int32.toNatClampNeg x2))) then ((fqJ σ 12 (Int32.toNatClampNeg x1)) - (fqJ σ 12 (Int32.toNatClampNeg x2))) else -((fqJ σ 12 (Int32.toNatClampNeg x1)) - (fqJ σ 12 (Int32.toNatClampNeg x2)))) then (rec ((x2 + (1 : Int32)), σ)) else (fqN (fqPI σ 10 3 (fqI σ 11 (Int32.toNatClampNeg x1))) (fun σ18 => (fqN (fqPI σ18 10 4 (fqI σ18 11 (Int32.toNatClampNeg x2))) (fun σ20 => (fqN (fqPJ σ20 10 5 (if 0 < ((fqJ σ 12 (Int32.toNatClampNeg x1)) - (fqJ σ 12 (Int32.toNatClampNeg x2))) then ((fqJ σ 12 (Int32.toNatClampNeg x1)) - (fqJ σ 12 (Int32.toNatClampNeg x2))) else -((fqJ σ 12 (Int32.toNatClampNeg x1)) - (fqJ σ 12 (Int32.toNatClampNeg x2))))) (fun σ22 => (rec ((x2 + (1 : Int32)), σ22)))))))))) else (rec ((x2 + (1 : Int32)), σ))))))))
def pX3_seekSecond_L25 (k n : Nat) (x1 : Int32) : (Int32 × fqS) → Option fqS := fqL (fun rec (s : (Int32 × fqS)) => pX3_seekSecond_L25b k n x1 rec s.1 s.2) k
def pX3_seekSecond (k n : Nat) (σ : fqS) (x1 : Int32) : Option fqS :=
  (if x1 < 0 then some σ else (if (175 : Int32) ≤ x1 then some σ else (if x1 < (175 : Int32) then (pX3_seekSecond_L25 k n x1 ((0 : Int32), σ)) else some σ)))
set_option maxRecDepth 100000 in
set_option maxHeartbeats 4000000 in
theorem tX3_seekSecond_L25 {k : Nat} {X : fqX} {cy : Nat → ClassId} {ad : Nat → Nat} {n : Nat} {σ' : fqS} {x1 : Int32} (E : fqE X ({ frames := 1, cells := 0, slots := 0, locals := 21 } : Room) cy cX3_seekSecond 5 wsX3_seekSecond RX3) (hret : fqR_v X (TX cy) ZX ad n 5 cX3_seekSecond σ') : ∀ (s : (Int32 × fqS)), pX3_seekSecond_L25 k n x1 s = some σ' → fqG X (TX cy) ZX ad n 5 0 0 (s.2) 25 [(0, .ref (ad 10)), (1, .int x1), (2, .int (s.1))] [] := by
  unfold pX3_seekSecond_L25
  refine fqL_run (P := fun (s : (Int32 × fqS)) => fqG X (TX cy) ZX ad n 5 0 0 (s.2) 25 [(0, .ref (ad 10)), (1, .int x1), (2, .int (s.1))] []) (fun rec s hrec hf => ?_) k
  obtain ⟨x2, σ⟩ := s
  have hf : pX3_seekSecond_L25b k n x1 rec x2 σ = some σ' := hf
  unfold pX3_seekSecond_L25b at hf
  show fqG X (TX cy) ZX ad n 5 0 0 σ 25 [(0, .ref (ad 10)), (1, .int x1), (2, .int x2)] []
  refine g_iload_n (pc := 25) E dX3_seekSecond_25 2 rfl rfl ?_
  refine g_aload_n (pc := 26) E dX3_seekSecond_26 0 rfl rfl ?_
  refine g_getfield (pc := 27) E uX3_seekSecond_X3 10 (zx_l (by decide)) (fun _ _ => rfl) rfl 2 (by decide) wX3_seekSecond_3 (.int (fqI σ 10 2)) rfl dX3_seekSecond_27 ?_
  refine g_icmp_ge (pc := 30) E 131 dX3_seekSecond_30 (by decide) (fun c4 => ?_) (fun c4 => ?_)
  · replace hf := fq_t c4 hf
    exact hret _ _ _ dX3_seekSecond_131 (Option.some.inj hf)
  · replace hf := fq_f c4 hf
    refine g_iload_n (pc := 33) E dX3_seekSecond_33 2 rfl rfl ?_
    refine g_aload_n (pc := 34) E dX3_seekSecond_34 0 rfl rfl ?_
    refine g_getfield (pc := 35) E uX3_seekSecond_X3 10 (zx_l (by decide)) (fun _ _ => rfl) rfl 0 (by decide) wX3_seekSecond_0 (.ref (ad 11)) rfl dX3_seekSecond_35 ?_
    refine g_alen (pc := 38) E 11 (zx_l (by decide)) 0 (fun _ _ => rfl) rfl (175 : Int32) (by rfl) dX3_seekSecond_38 ?_
    refine g_icmp_ge (pc := 39) E 131 dX3_seekSecond_39 (by decide) (fun c5 => ?_) (fun c5 => ?_)
    · replace hf := fq_t c5 hf
      exact hret _ _ _ dX3_seekSecond_131 (Option.some.inj hf)
    · replace hf := fq_f c5 hf
      refine g_iload_n (pc := 42) E dX3_seekSecond_42 2 rfl rfl ?_
      refine g_aload_n (pc := 43) E dX3_seekSecond_43 0 rfl rfl ?_
      refine g_getfield (pc := 44) E uX3_seekSecond_X3 10 (zx_l (by decide)) (fun _ _ => rfl) rfl 1 (by decide) wX3_seekSecond_2 (.ref (ad 12)) rfl dX3_seekSecond_44 ?_
      refine g_alen (pc := 47) E 12 (zx_l (by decide)) 1 (fun _ _ => rfl) rfl (175 : Int32) (by rfl) dX3_seekSecond_47 ?_
      refine g_icmp_ge (pc := 48) E 131 dX3_seekSecond_48 (by decide) (fun c6 => ?_) (fun c6 => ?_)
      · replace hf := fq_t c6 hf
        exact hret _ _ _ dX3_seekSecond_131 (Option.some.inj hf)
      · replace hf := fq_f c6 hf
        refine g_aload_n (pc := 51) E dX3_seekSecond_51 0 rfl rfl ?_
        refine g_getfield (pc := 52) E uX3_seekSecond_X3 10 (zx_l (by decide)) (fun _ _ => rfl) rfl 0 (by decide) wX3_seekSecond_0 (.ref (ad 11)) rfl dX3_seekSecond_52 ?_
        refine g_iload_n (pc := 55) E dX3_seekSecond_55 1 rfl rfl ?_
        obtain ⟨h7, hf⟩ := fq_in hf
        refine g_iaload (pc := 56) E 11 (zx_l (by decide)) (fun _ _ => rfl) h7 dX3_seekSecond_56 ?_
        refine g_aload_n (pc := 57) E dX3_seekSecond_57 0 rfl rfl ?_
        refine g_getfield (pc := 58) E uX3_seekSecond_X3 10 (zx_l (by decide)) (fun _ _ => rfl) rfl 0 (by decide) wX3_seekSecond_0 (.ref (ad 11)) rfl dX3_seekSecond_58 ?_
        refine g_iload_n (pc := 61) E dX3_seekSecond_61 2 rfl rfl ?_
        obtain ⟨h8, hf⟩ := fq_in hf
        refine g_iaload (pc := 62) E 11 (zx_l (by decide)) (fun _ _ => rfl) h8 dX3_seekSecond_62 ?_
        refine g_iand (pc := 63) E dX3_seekSecond_63 ?_
        refine g_if_ne (pc := 64) E 125 dX3_seekSecond_64 (by decide) (fun c9 => ?_) (fun c9 => ?_)
        · replace hf := fq_f c9 hf
          refine g_iinc (pc := 125) E (x2 + (1 : Int32)) [(2, .int (x2 + (1 : Int32))), (0, .ref (ad 10)), (1, .int x1)] dX3_seekSecond_125 2 rfl rfl (by decide) rfl ?_
          refine g_goto (pc := 128) E 25 dX3_seekSecond_128 (by decide) ?_
          refine g_lv [1, 2, 0] rfl ?_
          exact hrec _ hf
        · replace hf := fq_t c9 hf
          refine g_aload_n (pc := 67) E dX3_seekSecond_67 0 rfl rfl ?_
          refine g_getfield (pc := 68) E uX3_seekSecond_X3 10 (zx_l (by decide)) (fun _ _ => rfl) rfl 1 (by decide) wX3_seekSecond_2 (.ref (ad 12)) rfl dX3_seekSecond_68 ?_
          refine g_iload_n (pc := 71) E dX3_seekSecond_71 1 rfl rfl ?_
          refine g_laload (pc := 72) E 12 (zx_l (by decide)) (fun _ _ => rfl) h7 dX3_seekSecond_72 ?_
          refine g_aload_n (pc := 73) E dX3_seekSecond_73 0 rfl rfl ?_
          refine g_getfield (pc := 74) E uX3_seekSecond_X3 10 (zx_l (by decide)) (fun _ _ => rfl) rfl 1 (by decide) wX3_seekSecond_2 (.ref (ad 12)) rfl dX3_seekSecond_74 ?_
          refine g_iload_n (pc := 77) E dX3_seekSecond_77 2 rfl rfl ?_
          refine g_laload (pc := 78) E 12 (zx_l (by decide)) (fun _ _ => rfl) h8 dX3_seekSecond_78 ?_
          refine g_lsub (pc := 79) E dX3_seekSecond_79 ?_
          refine g_mabsL (pc := 80) E wX3_seekSecond_4 wX3_seekSecond_5 wX3_seekSecond_6 wX3_seekSecond_7 (by decide) (Nat.le_of_ble_eq_true rfl) (by decide) dX3_seekSecond_80 ?_
          refine g_lstore_n (pc := 83) E [(3, .long (if 0 < ((fqJ σ 12 (Int32.toNatClampNeg x1)) - (fqJ σ 12 (Int32.toNatClampNeg x2))) then ((fqJ σ 12 (Int32.toNatClampNeg x1)) - (fqJ σ 12 (Int32.toNatClampNeg x2))) else -((fqJ σ 12 (Int32.toNatClampNeg x1)) - (fqJ σ 12 (Int32.toNatClampNeg x2))))), (0, .ref (ad 10)), (1, .int x1), (2, .int x2)] dX3_seekSecond_83 rfl (by decide) rfl ?_
          refine g_aload_n (pc := 84) E dX3_seekSecond_84 1 rfl rfl ?_
          refine g_getfield (pc := 85) E uX3_seekSecond_X3 10 (zx_l (by decide)) (fun _ _ => rfl) rfl 3 (by decide) wX3_seekSecond_8 (.int (fqI σ 10 3)) rfl dX3_seekSecond_85 ?_
          refine g_if_eq (pc := 88) E 100 dX3_seekSecond_88 (by decide) (fun c10 => ?_) (fun c10 => ?_)
          · replace hf := fq_t c10 hf
            refine g_aload_n (pc := 100) E dX3_seekSecond_100 1 rfl rfl ?_
            refine g_aload_n (pc := 101) E dX3_seekSecond_101 1 rfl rfl ?_
            refine g_getfield (pc := 102) E uX3_seekSecond_X3 10 (zx_l (by decide)) (fun _ _ => rfl) rfl 0 (by decide) wX3_seekSecond_0 (.ref (ad 11)) rfl dX3_seekSecond_102 ?_
            refine g_iload_n (pc := 105) E dX3_seekSecond_105 2 rfl rfl ?_
            refine g_iaload (pc := 106) E 11 (zx_l (by decide)) (fun _ _ => rfl) h7 dX3_seekSecond_106 ?_
            refine g_putI (pc := 107) E uX3_seekSecond_X3 tyX3 tyX3_ok nmX3 10 (zx_l (by decide)) (fun _ _ => rfl) rfl 3 (by decide) wX3_seekSecond_8 rfl rfl (Nat.le_of_ble_eq_true rfl) rfl dX3_seekSecond_107 ?_
            obtain ⟨σ11, e12, hf⟩ := fq_n hf
            refine g_sg e12 ?_
            refine g_aload_n (pc := 110) E dX3_seekSecond_110 1 rfl rfl ?_
            refine g_aload_n (pc := 111) E dX3_seekSecond_111 1 rfl rfl ?_
            refine g_getfield (pc := 112) E uX3_seekSecond_X3 10 (zx_l (by decide)) (fun _ _ => rfl) rfl 0 (by decide) wX3_seekSecond_0 (.ref (ad 11)) rfl dX3_seekSecond_112 ?_
            refine g_iload_n (pc := 115) E dX3_seekSecond_115 3 rfl rfl ?_
            refine g_iaload (pc := 116) E 11 (zx_l (by decide)) (fun _ _ => rfl) h8 dX3_seekSecond_116 ?_
            refine g_putI (pc := 117) E uX3_seekSecond_X3 tyX3 tyX3_ok nmX3 10 (zx_l (by decide)) (fun _ _ => rfl) rfl 4 (by decide) wX3_seekSecond_9 rfl rfl (Nat.le_of_ble_eq_true rfl) rfl dX3_seekSecond_117 ?_
            obtain ⟨σ13, e14, hf⟩ := fq_n hf
            refine g_sg e14 ?_
            refine g_aload_n (pc := 120) E dX3_seekSecond_120 1 rfl rfl ?_
            refine g_lload_n (pc := 121) E dX3_seekSecond_121 0 rfl rfl ?_
            refine g_putJ (pc := 122) E uX3_seekSecond_X3 tyX3 tyX3_ok nmX3 10 (zx_l (by decide)) (fun _ _ => rfl) rfl 5 (by decide) wX3_seekSecond_10 rfl rfl (Nat.le_of_ble_eq_true rfl) rfl dX3_seekSecond_122 ?_
            obtain ⟨σ15, e16, hf⟩ := fq_n hf
            refine g_sg e16 ?_
            refine g_iinc (pc := 125) E (x2 + (1 : Int32)) [(2, .int (x2 + (1 : Int32))), (3, .long (if 0 < ((fqJ σ 12 (Int32.toNatClampNeg x1)) - (fqJ σ 12 (Int32.toNatClampNeg x2))) then ((fqJ σ 12 (Int32.toNatClampNeg x1)) - (fqJ σ 12 (Int32.toNatClampNeg x2))) else -((fqJ σ 12 (Int32.toNatClampNeg x1)) - (fqJ σ 12 (Int32.toNatClampNeg x2))))), (0, .ref (ad 10)), (1, .int x1)] dX3_seekSecond_125 3 rfl rfl (by decide) rfl ?_
            refine g_goto (pc := 128) E 25 dX3_seekSecond_128 (by decide) ?_
            refine g_lv [2, 3, 0] rfl ?_
            exact hrec _ hf
          · replace hf := fq_f c10 hf
            refine g_lload_n (pc := 91) E dX3_seekSecond_91 0 rfl rfl ?_
            refine g_aload_n (pc := 92) E dX3_seekSecond_92 1 rfl rfl ?_
            refine g_getfield (pc := 93) E uX3_seekSecond_X3 10 (zx_l (by decide)) (fun _ _ => rfl) rfl 5 (by decide) wX3_seekSecond_10 (.long (fqJ σ 10 5)) rfl dX3_seekSecond_93 ?_
            refine g_lif_ge (pc := 96) E 125 dX3_seekSecond_96 dX3_seekSecond_97 (by decide) (fun c17 => ?_) (fun c17 => ?_)
            · replace hf := fq_t c17 hf
              refine g_iinc (pc := 125) E (x2 + (1 : Int32)) [(2, .int (x2 + (1 : Int32))), (3, .long (if 0 < ((fqJ σ 12 (Int32.toNatClampNeg x1)) - (fqJ σ 12 (Int32.toNatClampNeg x2))) then ((fqJ σ 12 (Int32.toNatClampNeg x1)) - (fqJ σ 12 (Int32.toNatClampNeg x2))) else -((fqJ σ 12 (Int32.toNatClampNeg x1)) - (fqJ σ 12 (Int32.toNatClampNeg x2))))), (0, .ref (ad 10)), (1, .int x1)] dX3_seekSecond_125 3 rfl rfl (by decide) rfl ?_
              refine g_goto (pc := 128) E 25 dX3_seekSecond_128 (by decide) ?_
              refine g_lv [2, 3, 0] rfl ?_
              exact hrec _ hf
            · replace hf := fq_f c17 hf
              refine g_aload_n (pc := 100) E dX3_seekSecond_100 1 rfl rfl ?_
              refine g_aload_n (pc := 101) E dX3_seekSecond_101 1 rfl rfl ?_
              refine g_getfield (pc := 102) E uX3_seekSecond_X3 10 (zx_l (by decide)) (fun _ _ => rfl) rfl 0 (by decide) wX3_seekSecond_0 (.ref (ad 11)) rfl dX3_seekSecond_102 ?_
              refine g_iload_n (pc := 105) E dX3_seekSecond_105 2 rfl rfl ?_
              refine g_iaload (pc := 106) E 11 (zx_l (by decide)) (fun _ _ => rfl) h7 dX3_seekSecond_106 ?_
              refine g_putI (pc := 107) E uX3_seekSecond_X3 tyX3 tyX3_ok nmX3 10 (zx_l (by decide)) (fun _ _ => rfl) rfl 3 (by decide) wX3_seekSecond_8 rfl rfl (Nat.le_of_ble_eq_true rfl) rfl dX3_seekSecond_107 ?_
              obtain ⟨σ18, e19, hf⟩ := fq_n hf
              refine g_sg e19 ?_
              refine g_aload_n (pc := 110) E dX3_seekSecond_110 1 rfl rfl ?_
              refine g_aload_n (pc := 111) E dX3_seekSecond_111 1 rfl rfl ?_
              refine g_getfield (pc := 112) E uX3_seekSecond_X3 10 (zx_l (by decide)) (fun _ _ => rfl) rfl 0 (by decide) wX3_seekSecond_0 (.ref (ad 11)) rfl dX3_seekSecond_112 ?_
              refine g_iload_n (pc := 115) E dX3_seekSecond_115 3 rfl rfl ?_
              refine g_iaload (pc := 116) E 11 (zx_l (by decide)) (fun _ _ => rfl) h8 dX3_seekSecond_116 ?_
              refine g_putI (pc := 117) E uX3_seekSecond_X3 tyX3 tyX3_ok nmX3 10 (zx_l (by decide)) (fun _ _ => rfl) rfl 4 (by decide) wX3_seekSecond_9 rfl rfl (Nat.le_of_ble_eq_true rfl) rfl dX3_seekSecond_117 ?_
              obtain ⟨σ20, e21, hf⟩ := fq_n hf
              refine g_sg e21 ?_
              refine g_aload_n (pc := 120) E dX3_seekSecond_120 1 rfl rfl ?_
              refine g_lload_n (pc := 121) E dX3_seekSecond_121 0 rfl rfl ?_
              refine g_putJ (pc := 122) E uX3_seekSecond_X3 tyX3 tyX3_ok nmX3 10 (zx_l (by decide)) (fun _ _ => rfl) rfl 5 (by decide) wX3_seekSecond_10 rfl rfl (Nat.le_of_ble_eq_true rfl) rfl dX3_seekSecond_122 ?_
              obtain ⟨σ22, e23, hf⟩ := fq_n hf
              refine g_sg e23 ?_
              refine g_iinc (pc := 125) E (x2 + (1 : Int32)) [(2, .int (x2 + (1 : Int32))), (3, .long (if 0 < ((fqJ σ 12 (Int32.toNatClampNeg x1)) - (fqJ σ 12 (Int32.toNatClampNeg x2))) then ((fqJ σ 12 (Int32.toNatClampNeg x1)) - (fqJ σ 12 (Int32.toNatClampNeg x2))) else -((fqJ σ 12 (Int32.toNatClampNeg x1)) - (fqJ σ 12 (Int32.toNatClampNeg x2))))), (0, .ref (ad 10)), (1, .int x1)] dX3_seekSecond_125 3 rfl rfl (by decide) rfl ?_
              refine g_goto (pc := 128) E 25 dX3_seekSecond_128 (by decide) ?_
              refine g_lv [2, 3, 0] rfl ?_
              exact hrec _ hf
set_option maxRecDepth 100000 in
set_option maxHeartbeats 4000000 in
theorem qX3_seekSecond (l : Launch) (D : va_G) (cy : Nat → ClassId) (ad : Nat → Nat) (sz n : Nat) (σ : fqS) (k : Nat) (x1 : Int32) {σ' : fqS} (hf : pX3_seekSecond k n σ x1 = some σ') : Met l yX3_seekSecond wsX3_seekSecond ({ frames := 1, cells := 0, slots := 0, locals := 21 } : Room) (fqPc (TX cy) ZX D cy ad sz n σ [.ref (ad 10), .int x1]) (fqQv (TX cy) ZX D ad sz n σ σ') 0 0 (fqA (TX cy) ZX ad sz n σ) := by
  refine fq_enter_v (cc := cX3_seekSecond) (maxL := 5) (own := RX3) _ (by decide) rfl (Nat.le_of_ble_eq_true rfl) rfl (fun X E hret => ?_)
  unfold pX3_seekSecond at hf
  show fqG X (TX cy) ZX ad n 5 0 0 σ 0 [(0, .ref (ad 10)), (1, .int x1)] []
  refine g_iload_n (pc := 0) E dX3_seekSecond_0 1 rfl rfl ?_
  refine g_if_lt (pc := 1) E 22 dX3_seekSecond_1 (by decide) (fun c1 => ?_) (fun c1 => ?_)
  · replace hf := fq_t c1 hf
    exact hret _ _ _ dX3_seekSecond_22 (Option.some.inj hf)
  · replace hf := fq_f c1 hf
    refine g_iload_n (pc := 4) E dX3_seekSecond_4 1 rfl rfl ?_
    refine g_aload_n (pc := 5) E dX3_seekSecond_5 0 rfl rfl ?_
    refine g_getfield (pc := 6) E uX3_seekSecond_X3 10 (zx_l (by decide)) (fun _ _ => rfl) rfl 0 (by decide) wX3_seekSecond_0 (.ref (ad 11)) rfl dX3_seekSecond_6 ?_
    refine g_alen (pc := 9) E 11 (zx_l (by decide)) 0 (fun _ _ => rfl) rfl (175 : Int32) (by rfl) dX3_seekSecond_9 ?_
    refine g_icmp_ge (pc := 10) E 22 dX3_seekSecond_10 (by decide) (fun c2 => ?_) (fun c2 => ?_)
    · replace hf := fq_t c2 hf
      exact hret _ _ _ dX3_seekSecond_22 (Option.some.inj hf)
    · replace hf := fq_f c2 hf
      refine g_iload_n (pc := 13) E dX3_seekSecond_13 1 rfl rfl ?_
      refine g_aload_n (pc := 14) E dX3_seekSecond_14 0 rfl rfl ?_
      refine g_getfield (pc := 15) E uX3_seekSecond_X3 10 (zx_l (by decide)) (fun _ _ => rfl) rfl 1 (by decide) wX3_seekSecond_2 (.ref (ad 12)) rfl dX3_seekSecond_15 ?_
      refine g_alen (pc := 18) E 12 (zx_l (by decide)) 1 (fun _ _ => rfl) rfl (175 : Int32) (by rfl) dX3_seekSecond_18 ?_
      refine g_icmp_lt (pc := 19) E 23 dX3_seekSecond_19 (by decide) (fun c3 => ?_) (fun c3 => ?_)
      · replace hf := fq_t c3 hf
        refine g_iconst (pc := 23) E (0 : Int32) dX3_seekSecond_23 (by decide) ?_
        refine g_istore_n (pc := 24) E [(2, .int (0 : Int32)), (0, .ref (ad 10)), (1, .int x1)] dX3_seekSecond_24 rfl (by decide) rfl ?_
        refine g_lv [1, 2, 0] rfl ?_
        exact tX3_seekSecond_L25 E hret _ hf
      · replace hf := fq_f c3 hf
        exact hret _ _ _ dX3_seekSecond_22 (Option.some.inj hf)

/-! X3_seek -/
theorem wX3_seek_0 : Cond.fieldLink RX3 23 "FairQueue$Pairings" "first" "I" ∈ wsX3_seek := by decide +kernel
theorem uX3_seek_X3 : ∀ w ∈ u_ws RX3 TX3 6, w ∈ wsX3_seek := (fun _ h => List.mem_cons_of_mem _ (List.mem_append_right _ h))
theorem wX3_seek_2 : Cond.fieldLink RX3 26 "FairQueue$Pairings" "second" "I" ∈ wsX3_seek := by decide +kernel
theorem wX3_seek_3 : Cond.fieldLink RX3 29 "FairQueue$Pairings" "uneven" "J" ∈ wsX3_seek := by decide +kernel
theorem wX3_seek_4 : Cond.fieldLink RX3 19 "FairQueue$Pairings" "number" "I" ∈ wsX3_seek := by decide +kernel
theorem wX3_seek_5 : Cond.fieldLink RX3 9 "FairQueue$Pairings" "teams" "[I" ∈ wsX3_seek := by decide +kernel
theorem wX3_seek_6 : Cond.initialized RX8 ∈ wsX3_seek := by decide +kernel
theorem wX3_seek_7 : Cond.static yX8_hasBit ∈ wsX3_seek := by decide +kernel
theorem kcX3_seek : yX3_seek.cls = RX3 ∧ yX3_seek.cls ≠ "java/lang/invoke/MethodHandle" ∧ yX3_seek.cls ≠ "java/lang/invoke/VarHandle" ∧ (parseMethodDescriptor yX3_seek.desc).map (fun d => d.parameters.length) = some 1 := by decide +kernel
def pX3_seek_L17b (k n : Nat) (x1 : Int32) (rec : (Int32 × fqS) → Option (Int32 × fqS)) (x2 : Int32) (σ : fqS) : Option (Int32 × fqS) :=
  (if (fqI σ 10 2) ≤ x2 then (if (fqI σ 10 3) = 0 then some ((0 : Int32), σ) else some ((1 : Int32), σ)) else (if (175 : Int32) ≤ x2 then (if (fqI σ 10 3) = 0 then some ((0 : Int32), σ) else some ((1 : Int32), σ)) else (if x2 < 0 ∨ 175 ≤ Int32.toNatClampNeg x2 then none else ((pX8_hasBit k n σ (fqI σ 11 (Int32.toNatClampNeg x2)) x1).bind (fun r13 => (if r13 = 0 then (rec ((x2 + (1 : Int32)), σ)) else ((pX3_seekSecond k n σ x2).bind (fun σ16 => (rec ((x2 + (1 : Int32)), σ16))))))))))
def pX3_seek_L17 (k n : Nat) (x1 : Int32) : (Int32 × fqS) → Option (Int32 × fqS) := fqL (fun rec (s : (Int32 × fqS)) => pX3_seek_L17b k n x1 rec s.1 s.2) k
def pX3_seek (k n : Nat) (σ : fqS) (x1 : Int32) : Option (Int32 × fqS) :=
  (fqN (fqPI σ 10 3 (0 : Int32)) (fun σ1 => (fqN (fqPI σ1 10 4 (0 : Int32)) (fun σ3 => (fqN (fqPJ σ3 10 5 (0 : Int64)) (fun σ5 => (pX3_seek_L17 k n x1 ((0 : Int32), σ5))))))))
set_option maxRecDepth 100000 in
set_option maxHeartbeats 4000000 in
theorem tX3_seek_L17 {k : Nat} {X : fqX} {cy : Nat → ClassId} {ad : Nat → Nat} {n : Nat} {r : Int32} {σ' : fqS} {x1 : Int32} (E : fqE X ({ frames := 2, cells := 0, slots := 0, locals := 45 } : Room) cy cX3_seek 3 wsX3_seek RX3) (hret : fqR_z X (TX cy) ZX ad n 3 cX3_seek r σ') : ∀ (s : (Int32 × fqS)), pX3_seek_L17 k n x1 s = some (r, σ') → fqG X (TX cy) ZX ad n 3 0 0 (s.2) 17 [(0, .ref (ad 10)), (1, .int x1), (2, .int (s.1))] [] := by
  unfold pX3_seek_L17
  refine fqL_run (P := fun (s : (Int32 × fqS)) => fqG X (TX cy) ZX ad n 3 0 0 (s.2) 17 [(0, .ref (ad 10)), (1, .int x1), (2, .int (s.1))] []) (fun rec s hrec hf => ?_) k
  obtain ⟨x2, σ⟩ := s
  have hf : pX3_seek_L17b k n x1 rec x2 σ = some (r, σ') := hf
  unfold pX3_seek_L17b at hf
  show fqG X (TX cy) ZX ad n 3 0 0 σ 17 [(0, .ref (ad 10)), (1, .int x1), (2, .int x2)] []
  refine g_iload_n (pc := 17) E dX3_seek_17 2 rfl rfl ?_
  refine g_aload_n (pc := 18) E dX3_seek_18 0 rfl rfl ?_
  refine g_getfield (pc := 19) E uX3_seek_X3 10 (zx_l (by decide)) (fun _ _ => rfl) rfl 2 (by decide) wX3_seek_4 (.int (fqI σ 10 2)) rfl dX3_seek_19 ?_
  refine g_icmp_ge (pc := 22) E 58 dX3_seek_22 (by decide) (fun c7 => ?_) (fun c7 => ?_)
  · replace hf := fq_t c7 hf
    refine g_aload_n (pc := 58) E dX3_seek_58 0 rfl rfl ?_
    refine g_getfield (pc := 59) E uX3_seek_X3 10 (zx_l (by decide)) (fun _ _ => rfl) rfl 3 (by decide) wX3_seek_0 (.int (fqI σ 10 3)) rfl dX3_seek_59 ?_
    refine g_if_eq (pc := 62) E 69 dX3_seek_62 (by decide) (fun c8 => ?_) (fun c8 => ?_)
    · replace hf := fq_t c8 hf
      refine g_iconst (pc := 69) E (0 : Int32) dX3_seek_69 (by decide) ?_
      exact hret _ _ _ _ rfl dX3_seek_70 (Option.some.inj hf)
    · replace hf := fq_f c8 hf
      refine g_iconst (pc := 65) E (1 : Int32) dX3_seek_65 (by decide) ?_
      refine g_goto (pc := 66) E 70 dX3_seek_66 (by decide) ?_
      exact hret _ _ _ _ rfl dX3_seek_70 (Option.some.inj hf)
  · replace hf := fq_f c7 hf
    refine g_iload_n (pc := 25) E dX3_seek_25 2 rfl rfl ?_
    refine g_aload_n (pc := 26) E dX3_seek_26 0 rfl rfl ?_
    refine g_getfield (pc := 27) E uX3_seek_X3 10 (zx_l (by decide)) (fun _ _ => rfl) rfl 0 (by decide) wX3_seek_5 (.ref (ad 11)) rfl dX3_seek_27 ?_
    refine g_alen (pc := 30) E 11 (zx_l (by decide)) 0 (fun _ _ => rfl) rfl (175 : Int32) (by rfl) dX3_seek_30 ?_
    refine g_icmp_ge (pc := 31) E 58 dX3_seek_31 (by decide) (fun c9 => ?_) (fun c9 => ?_)
    · replace hf := fq_t c9 hf
      refine g_aload_n (pc := 58) E dX3_seek_58 0 rfl rfl ?_
      refine g_getfield (pc := 59) E uX3_seek_X3 10 (zx_l (by decide)) (fun _ _ => rfl) rfl 3 (by decide) wX3_seek_0 (.int (fqI σ 10 3)) rfl dX3_seek_59 ?_
      refine g_if_eq (pc := 62) E 69 dX3_seek_62 (by decide) (fun c10 => ?_) (fun c10 => ?_)
      · replace hf := fq_t c10 hf
        refine g_iconst (pc := 69) E (0 : Int32) dX3_seek_69 (by decide) ?_
        exact hret _ _ _ _ rfl dX3_seek_70 (Option.some.inj hf)
      · replace hf := fq_f c10 hf
        refine g_iconst (pc := 65) E (1 : Int32) dX3_seek_65 (by decide) ?_
        refine g_goto (pc := 66) E 70 dX3_seek_66 (by decide) ?_
        exact hret _ _ _ _ rfl dX3_seek_70 (Option.some.inj hf)
    · replace hf := fq_f c9 hf
      refine g_aload_n (pc := 34) E dX3_seek_34 0 rfl rfl ?_
      refine g_getfield (pc := 35) E uX3_seek_X3 10 (zx_l (by decide)) (fun _ _ => rfl) rfl 0 (by decide) wX3_seek_5 (.ref (ad 11)) rfl dX3_seek_35 ?_
      refine g_iload_n (pc := 38) E dX3_seek_38 2 rfl rfl ?_
      obtain ⟨h11, hf⟩ := fq_in hf
      refine g_iaload (pc := 39) E 11 (zx_l (by decide)) (fun _ _ => rfl) h11 dX3_seek_39 ?_
      refine g_iload_n (pc := 40) E dX3_seek_40 1 rfl rfl ?_
      obtain ⟨r13, e12, hf⟩ := fq_b hf
      refine g_callNi (pc := 41) E [.int (fqI σ 11 (Int32.toNatClampNeg x2)), .int x1] (fun l D sz => qX8_hasBit l D cy ad sz n σ k (fqI σ 11 (Int32.toNatClampNeg x2)) x1 e12) gX3_seek_X8_hasBit_n63 rfl rfl rfl (fun U h => h.2.2.2.2.1) wX3_seek_6 wX3_seek_7 kcX8_hasBit ⟨by decide, by decide⟩ rfl rfl (Nat.le_of_ble_eq_true rfl) dX3_seek_41 ⟨by decide, by decide⟩ ?_
      refine g_if_eq (pc := 44) E 52 dX3_seek_44 (by decide) (fun c14 => ?_) (fun c14 => ?_)
      · replace hf := fq_t c14 hf
        refine g_iinc (pc := 52) E (x2 + (1 : Int32)) [(2, .int (x2 + (1 : Int32))), (0, .ref (ad 10)), (1, .int x1)] dX3_seek_52 2 rfl rfl (by decide) rfl ?_
        refine g_goto (pc := 55) E 17 dX3_seek_55 (by decide) ?_
        refine g_lv [1, 2, 0] rfl ?_
        exact hrec _ hf
      · replace hf := fq_f c14 hf
        refine g_aload_n (pc := 47) E dX3_seek_47 0 rfl rfl ?_
        refine g_iload_n (pc := 48) E dX3_seek_48 2 rfl rfl ?_
        obtain ⟨σ16, e15, hf⟩ := fq_b hf
        refine g_callVv (pc := 49) E 10 (zx_l (by decide)) (fun _ _ => rfl) rfl [.int x2] (fun l D sz => qX3_seekSecond l D cy ad sz n σ k x2 e15) gX3_seek_X3_seekSecond rfl rfl rfl kcX3_seekSecond ⟨by decide, by decide⟩ rfl rfl (Nat.le_of_ble_eq_true rfl) dX3_seek_49 ⟨by decide, by decide⟩ ?_
        refine g_iinc (pc := 52) E (x2 + (1 : Int32)) [(2, .int (x2 + (1 : Int32))), (0, .ref (ad 10)), (1, .int x1)] dX3_seek_52 2 rfl rfl (by decide) rfl ?_
        refine g_goto (pc := 55) E 17 dX3_seek_55 (by decide) ?_
        refine g_lv [1, 2, 0] rfl ?_
        exact hrec _ hf
set_option maxRecDepth 100000 in
set_option maxHeartbeats 4000000 in
theorem qX3_seek (l : Launch) (D : va_G) (cy : Nat → ClassId) (ad : Nat → Nat) (sz n : Nat) (σ : fqS) (k : Nat) (x1 : Int32) {r : Int32} {σ' : fqS} (hf : pX3_seek k n σ x1 = some (r, σ')) : Met l yX3_seek wsX3_seek ({ frames := 2, cells := 0, slots := 0, locals := 45 } : Room) (fqPc (TX cy) ZX D cy ad sz n σ [.ref (ad 10), .int x1]) (fqQi (TX cy) ZX D ad sz n σ r σ') 0 0 (fqA (TX cy) ZX ad sz n σ) := by
  refine fq_enter_z (cc := cX3_seek) (maxL := 3) (own := RX3) _ (by decide) rfl (Nat.le_of_ble_eq_true rfl) rfl (fun X E hret => ?_)
  unfold pX3_seek at hf
  show fqG X (TX cy) ZX ad n 3 0 0 σ 0 [(0, .ref (ad 10)), (1, .int x1)] []
  refine g_aload_n (pc := 0) E dX3_seek_0 0 rfl rfl ?_
  refine g_iconst (pc := 1) E (0 : Int32) dX3_seek_1 (by decide) ?_
  refine g_putI (pc := 2) E uX3_seek_X3 tyX3 tyX3_ok nmX3 10 (zx_l (by decide)) (fun _ _ => rfl) rfl 3 (by decide) wX3_seek_0 rfl rfl (Nat.le_of_ble_eq_true rfl) rfl dX3_seek_2 ?_
  obtain ⟨σ1, e2, hf⟩ := fq_n hf
  refine g_sg e2 ?_
  refine g_aload_n (pc := 5) E dX3_seek_5 0 rfl rfl ?_
  refine g_iconst (pc := 6) E (0 : Int32) dX3_seek_6 (by decide) ?_
  refine g_putI (pc := 7) E uX3_seek_X3 tyX3 tyX3_ok nmX3 10 (zx_l (by decide)) (fun _ _ => rfl) rfl 4 (by decide) wX3_seek_2 rfl rfl (Nat.le_of_ble_eq_true rfl) rfl dX3_seek_7 ?_
  obtain ⟨σ3, e4, hf⟩ := fq_n hf
  refine g_sg e4 ?_
  refine g_aload_n (pc := 10) E dX3_seek_10 0 rfl rfl ?_
  refine g_lconst (pc := 11) E (0 : Int64) dX3_seek_11 (by decide) ?_
  refine g_putJ (pc := 12) E uX3_seek_X3 tyX3 tyX3_ok nmX3 10 (zx_l (by decide)) (fun _ _ => rfl) rfl 5 (by decide) wX3_seek_3 rfl rfl (Nat.le_of_ble_eq_true rfl) rfl dX3_seek_12 ?_
  obtain ⟨σ5, e6, hf⟩ := fq_n hf
  refine g_sg e6 ?_
  refine g_iconst (pc := 15) E (0 : Int32) dX3_seek_15 (by decide) ?_
  refine g_istore_n (pc := 16) E [(2, .int (0 : Int32)), (0, .ref (ad 10)), (1, .int x1)] dX3_seek_16 rfl (by decide) rfl ?_
  refine g_lv [1, 2, 0] rfl ?_
  exact tX3_seek_L17 E hret _ hf
