/-! X9_laySets -/
theorem wX9_laySets_0 : Cond.fieldLink RX9 159 "FairQueueModel" "parties" "I" ∈ wsX9_laySets := by decide +kernel
theorem uX9_laySets_X9 : ∀ w ∈ u_ws RX9 TX9 33, w ∈ wsX9_laySets := (fun _ h => List.mem_cons_of_mem _ (List.mem_append_right _ h))
theorem wX9_laySets_2 : Cond.fieldLink RX9 74 "FairQueueModel" "setSize" "[I" ∈ wsX9_laySets := by decide +kernel
theorem wX9_laySets_3 : Cond.fieldLink RX9 77 "FairQueueModel" "setMean" "[J" ∈ wsX9_laySets := by decide +kernel
theorem wX9_laySets_4 : Cond.fieldLink RX9 94 "FairQueueModel" "players" "I" ∈ wsX9_laySets := by decide +kernel
theorem kcX9_laySets : yX9_laySets.cls = RX9 ∧ yX9_laySets.cls ≠ "java/lang/invoke/MethodHandle" ∧ yX9_laySets.cls ≠ "java/lang/invoke/VarHandle" ∧ (parseMethodDescriptor yX9_laySets.desc).map (fun d => d.parameters.length) = some 0 := by decide +kernel
def pX9_laySets_L37b (k n : Nat) (x1 : Int32) (x2 : Int32) (rec2 : (Int32 × fqS) → Option fqS) (rec : (Int32 × fqS) → Option fqS) (x3 : Int32) (σ : fqS) : Option fqS :=
  (if (fqI σ 0 1) ≤ x3 then (rec2 ((x1 + (1 : Int32)), σ)) else (if x1 < 0 ∨ 1024 ≤ Int32.toNatClampNeg x1 then none else (if ((x2 >>> (x3 &&& 31)) &&& (1 : Int32)) = (1 : Int32) then ((pX9_meanOf k n σ x3).bind (fun r17 => (fqN (fqPJ σ 16 (Int32.toNatClampNeg x1) ((fqJ σ 16 (Int32.toNatClampNeg x1)) + r17)) (fun σ18 => (rec ((x3 + (1 : Int32)), σ18)))))) else (fqN (fqPJ σ 16 (Int32.toNatClampNeg x1) ((fqJ σ 16 (Int32.toNatClampNeg x1)) + (0 : Int64))) (fun σ14 => (rec ((x3 + (1 : Int32)), σ14)))))))
def pX9_laySets_L37 (k n : Nat) (x1 : Int32) (x2 : Int32) (rec2 : (Int32 × fqS) → Option fqS) : (Int32 × fqS) → Option fqS := fqL (fun rec (s : (Int32 × fqS)) => pX9_laySets_L37b k n x1 x2 rec2 rec s.1 s.2) k
def pX9_laySets_L2b (k n : Nat) (rec : (Int32 × fqS) → Option fqS) (x1 : Int32) (σ : fqS) : Option fqS :=
  (if ((1 : Int32) <<< ((fqI σ 0 11) &&& 31)) ≤ x1 then some σ else ((pX9_playersOf k n σ x1).bind (fun r3 => ((pX9_ones k n σ r3).bind (fun r5 => (if x1 < 0 ∨ 1024 ≤ Int32.toNatClampNeg x1 then none else (fqN (fqPI σ 15 (Int32.toNatClampNeg x1) r5) (fun σ7 => (fqN (fqPJ σ7 16 (Int32.toNatClampNeg x1) (0 : Int64)) (fun σ9 => (pX9_laySets_L37 k n x1 r3 rec ((0 : Int32), σ9))))))))))))
def pX9_laySets_L2 (k n : Nat) : (Int32 × fqS) → Option fqS := fqL (fun rec (s : (Int32 × fqS)) => pX9_laySets_L2b k n rec s.1 s.2) k
def pX9_laySets (k n : Nat) (σ : fqS) : Option fqS :=
  (pX9_laySets_L2 k n ((0 : Int32), σ))
set_option maxRecDepth 100000 in
set_option maxHeartbeats 4000000 in
theorem tX9_laySets_L37 {k : Nat} {X : fqX} {cy : Nat → ClassId} {ad : Nat → Nat} {n : Nat} {σ' : fqS} {x1 : Int32} {x2 : Int32} (E : fqE X ({ frames := 1, cells := 0, slots := 0, locals := 24 } : Room) cy cX9_laySets 4 wsX9_laySets RX9) (hret : fqR_v X (TM cy) ZM ad n 4 cX9_laySets σ') {rec2 : (Int32 × fqS) → Option fqS} (hrec2 : ∀ (s : (Int32 × fqS)), rec2 s = some σ' → fqG X (TM cy) ZM ad n 4 0 0 (s.2) 2 [(0, .ref (ad 0)), (1, .int (s.1))] []) : ∀ (s : (Int32 × fqS)), pX9_laySets_L37 k n x1 x2 rec2 s = some σ' → fqG X (TM cy) ZM ad n 4 0 0 (s.2) 37 [(0, .ref (ad 0)), (1, .int x1), (2, .int x2), (3, .int (s.1))] [] := by
  unfold pX9_laySets_L37
  refine fqL_run (P := fun (s : (Int32 × fqS)) => fqG X (TM cy) ZM ad n 4 0 0 (s.2) 37 [(0, .ref (ad 0)), (1, .int x1), (2, .int x2), (3, .int (s.1))] []) (fun rec s hrec hf => ?_) k
  obtain ⟨x3, σ⟩ := s
  have hf : pX9_laySets_L37b k n x1 x2 rec2 rec x3 σ = some σ' := hf
  unfold pX9_laySets_L37b at hf
  show fqG X (TM cy) ZM ad n 4 0 0 σ 37 [(0, .ref (ad 0)), (1, .int x1), (2, .int x2), (3, .int x3)] []
  refine g_iload_n (pc := 37) E dX9_laySets_37 3 rfl rfl ?_
  refine g_aload_n (pc := 38) E dX9_laySets_38 0 rfl rfl ?_
  refine g_getfield (pc := 39) E uX9_laySets_X9 0 (zm_l (by decide)) (fun _ _ => rfl) rfl 1 (by decide) wX9_laySets_4 (.int (fqI σ 0 1)) rfl dX9_laySets_39 ?_
  refine g_icmp_ge (pc := 42) E 78 dX9_laySets_42 (by decide) (fun c11 => ?_) (fun c11 => ?_)
  · replace hf := fq_t c11 hf
    refine g_iinc (pc := 78) E (x1 + (1 : Int32)) [(1, .int (x1 + (1 : Int32))), (0, .ref (ad 0)), (2, .int x2), (3, .int x3)] dX9_laySets_78 1 rfl rfl (by decide) rfl ?_
    refine g_goto (pc := 81) E 2 dX9_laySets_81 (by decide) ?_
    refine g_lv [1, 0] rfl ?_
    exact hrec2 _ hf
  · replace hf := fq_f c11 hf
    refine g_aload_n (pc := 45) E dX9_laySets_45 0 rfl rfl ?_
    refine g_getfield (pc := 46) E uX9_laySets_X9 0 (zm_l (by decide)) (fun _ _ => rfl) rfl 25 (by decide) wX9_laySets_3 (.ref (ad 16)) rfl dX9_laySets_46 ?_
    refine g_iload_n (pc := 49) E dX9_laySets_49 1 rfl rfl ?_
    refine g_dup2_11 (pc := 50) E dX9_laySets_50 rfl rfl ?_
    obtain ⟨h12, hf⟩ := fq_in hf
    refine g_laload (pc := 51) E 16 (zm_l (by decide)) (fun _ _ => rfl) h12 dX9_laySets_51 ?_
    refine g_iload_n (pc := 52) E dX9_laySets_52 2 rfl rfl ?_
    refine g_iload_n (pc := 53) E dX9_laySets_53 3 rfl rfl ?_
    refine g_ishr (pc := 54) E dX9_laySets_54 ?_
    refine g_iconst (pc := 55) E (1 : Int32) dX9_laySets_55 (by decide) ?_
    refine g_iand (pc := 56) E dX9_laySets_56 ?_
    refine g_iconst (pc := 57) E (1 : Int32) dX9_laySets_57 (by decide) ?_
    refine g_icmp_ne (pc := 58) E 69 dX9_laySets_58 (by decide) (fun c13 => ?_) (fun c13 => ?_)
    · replace hf := fq_f c13 hf
      refine g_lconst (pc := 69) E (0 : Int64) dX9_laySets_69 (by decide) ?_
      refine g_ladd (pc := 70) E dX9_laySets_70 ?_
      refine g_lastore (pc := 71) E 16 (zm_l (by decide)) (fun _ _ => rfl) h12 dX9_laySets_71 ?_
      obtain ⟨σ14, e15, hf⟩ := fq_n hf
      refine g_sg e15 ?_
      refine g_iinc (pc := 72) E (x3 + (1 : Int32)) [(3, .int (x3 + (1 : Int32))), (0, .ref (ad 0)), (1, .int x1), (2, .int x2)] dX9_laySets_72 3 rfl rfl (by decide) rfl ?_
      refine g_goto (pc := 75) E 37 dX9_laySets_75 (by decide) ?_
      refine g_lv [1, 2, 3, 0] rfl ?_
      exact hrec _ hf
    · replace hf := fq_t c13 hf
      refine g_aload_n (pc := 61) E dX9_laySets_61 0 rfl rfl ?_
      refine g_iload_n (pc := 62) E dX9_laySets_62 3 rfl rfl ?_
      obtain ⟨r17, e16, hf⟩ := fq_b hf
      refine g_callVl (pc := 63) E 0 (zm_l (by decide)) (fun _ _ => rfl) rfl [.int x3] (fun l D sz => qX9_meanOf l D cy ad sz n σ k x3 e16) gX9_laySets_X9_meanOf rfl rfl rfl kcX9_meanOf ⟨by decide, by decide⟩ rfl rfl (Nat.le_of_ble_eq_true rfl) dX9_laySets_63 ⟨by decide, by decide⟩ ?_
      refine g_goto (pc := 66) E 70 dX9_laySets_66 (by decide) ?_
      refine g_ladd (pc := 70) E dX9_laySets_70 ?_
      refine g_lastore (pc := 71) E 16 (zm_l (by decide)) (fun _ _ => rfl) h12 dX9_laySets_71 ?_
      obtain ⟨σ18, e19, hf⟩ := fq_n hf
      refine g_sg e19 ?_
      refine g_iinc (pc := 72) E (x3 + (1 : Int32)) [(3, .int (x3 + (1 : Int32))), (0, .ref (ad 0)), (1, .int x1), (2, .int x2)] dX9_laySets_72 3 rfl rfl (by decide) rfl ?_
      refine g_goto (pc := 75) E 37 dX9_laySets_75 (by decide) ?_
      refine g_lv [1, 2, 3, 0] rfl ?_
      exact hrec _ hf
set_option maxRecDepth 100000 in
set_option maxHeartbeats 4000000 in
theorem tX9_laySets_L2 {k : Nat} {X : fqX} {cy : Nat → ClassId} {ad : Nat → Nat} {n : Nat} {σ' : fqS} (E : fqE X ({ frames := 1, cells := 0, slots := 0, locals := 24 } : Room) cy cX9_laySets 4 wsX9_laySets RX9) (hret : fqR_v X (TM cy) ZM ad n 4 cX9_laySets σ') : ∀ (s : (Int32 × fqS)), pX9_laySets_L2 k n s = some σ' → fqG X (TM cy) ZM ad n 4 0 0 (s.2) 2 [(0, .ref (ad 0)), (1, .int (s.1))] [] := by
  unfold pX9_laySets_L2
  refine fqL_run (P := fun (s : (Int32 × fqS)) => fqG X (TM cy) ZM ad n 4 0 0 (s.2) 2 [(0, .ref (ad 0)), (1, .int (s.1))] []) (fun rec s hrec hf => ?_) k
  obtain ⟨x1, σ⟩ := s
  have hf : pX9_laySets_L2b k n rec x1 σ = some σ' := hf
  unfold pX9_laySets_L2b at hf
  show fqG X (TM cy) ZM ad n 4 0 0 σ 2 [(0, .ref (ad 0)), (1, .int x1)] []
  refine g_iload_n (pc := 2) E dX9_laySets_2 1 rfl rfl ?_
  refine g_iconst (pc := 3) E (1 : Int32) dX9_laySets_3 (by decide) ?_
  refine g_aload_n (pc := 4) E dX9_laySets_4 0 rfl rfl ?_
  refine g_getfield (pc := 5) E uX9_laySets_X9 0 (zm_l (by decide)) (fun _ _ => rfl) rfl 11 (by decide) wX9_laySets_0 (.int (fqI σ 0 11)) rfl dX9_laySets_5 ?_
  refine g_ishl (pc := 8) E dX9_laySets_8 ?_
  refine g_icmp_ge (pc := 9) E 84 dX9_laySets_9 (by decide) (fun c1 => ?_) (fun c1 => ?_)
  · replace hf := fq_t c1 hf
    exact hret _ _ _ dX9_laySets_84 (Option.some.inj hf)
  · replace hf := fq_f c1 hf
    refine g_aload_n (pc := 12) E dX9_laySets_12 0 rfl rfl ?_
    refine g_iload_n (pc := 13) E dX9_laySets_13 1 rfl rfl ?_
    obtain ⟨r3, e2, hf⟩ := fq_b hf
    refine g_callVi (pc := 14) E 0 (zm_l (by decide)) (fun _ _ => rfl) rfl [.int x1] (fun l D sz => qX9_playersOf l D cy ad sz n σ k x1 e2) gX9_laySets_X9_playersOf rfl rfl rfl kcX9_playersOf ⟨by decide, by decide⟩ rfl rfl (Nat.le_of_ble_eq_true rfl) dX9_laySets_14 ⟨by decide, by decide⟩ ?_
    refine g_istore_n (pc := 17) E [(2, .int r3), (0, .ref (ad 0)), (1, .int x1)] dX9_laySets_17 rfl (by decide) rfl ?_
    refine g_aload_n (pc := 18) E dX9_laySets_18 1 rfl rfl ?_
    refine g_getfield (pc := 19) E uX9_laySets_X9 0 (zm_l (by decide)) (fun _ _ => rfl) rfl 24 (by decide) wX9_laySets_2 (.ref (ad 15)) rfl dX9_laySets_19 ?_
    refine g_iload_n (pc := 22) E dX9_laySets_22 2 rfl rfl ?_
    refine g_iload_n (pc := 23) E dX9_laySets_23 0 rfl rfl ?_
    obtain ⟨r5, e4, hf⟩ := fq_b hf
    refine g_callSi (pc := 24) E [.int r3] (fun l D sz => qX9_ones l D cy ad sz n σ k r3 e4) gX9_laySets_X9_ones rfl rfl rfl kcX9_ones ⟨by decide, by decide⟩ rfl rfl (Nat.le_of_ble_eq_true rfl) dX9_laySets_24 ⟨by decide, by decide⟩ ?_
    obtain ⟨h6, hf⟩ := fq_in hf
    refine g_iastore (pc := 27) E 15 (zm_l (by decide)) (fun _ _ => rfl) h6 dX9_laySets_27 ?_
    obtain ⟨σ7, e8, hf⟩ := fq_n hf
    refine g_sg e8 ?_
    refine g_aload_n (pc := 28) E dX9_laySets_28 1 rfl rfl ?_
    refine g_getfield (pc := 29) E uX9_laySets_X9 0 (zm_l (by decide)) (fun _ _ => rfl) rfl 25 (by decide) wX9_laySets_3 (.ref (ad 16)) rfl dX9_laySets_29 ?_
    refine g_iload_n (pc := 32) E dX9_laySets_32 2 rfl rfl ?_
    refine g_lconst (pc := 33) E (0 : Int64) dX9_laySets_33 (by decide) ?_
    refine g_lastore (pc := 34) E 16 (zm_l (by decide)) (fun _ _ => rfl) h6 dX9_laySets_34 ?_
    obtain ⟨σ9, e10, hf⟩ := fq_n hf
    refine g_sg e10 ?_
    refine g_iconst (pc := 35) E (0 : Int32) dX9_laySets_35 (by decide) ?_
    refine g_istore_n (pc := 36) E [(3, .int (0 : Int32)), (2, .int r3), (0, .ref (ad 0)), (1, .int x1)] dX9_laySets_36 rfl (by decide) rfl ?_
    refine g_lv [2, 3, 1, 0] rfl ?_
    exact tX9_laySets_L37 E hret hrec _ hf
set_option maxRecDepth 100000 in
set_option maxHeartbeats 4000000 in
theorem qX9_laySets (l : Launch) (D : va_G) (cy : Nat → ClassId) (ad : Nat → Nat) (sz n : Nat) (σ : fqS) (k : Nat) {σ' : fqS} (hf : pX9_laySets k n σ = some σ') : Met l yX9_laySets wsX9_laySets ({ frames := 1, cells := 0, slots := 0, locals := 24 } : Room) (fqPc (TM cy) ZM D cy ad sz n σ [.ref (ad 0)]) (fqQv (TM cy) ZM D ad sz n σ σ') 0 0 (fqA (TM cy) ZM ad sz n σ) := by
  refine fq_enter_v (cc := cX9_laySets) (maxL := 4) (own := RX9) _ (by decide) rfl (Nat.le_of_ble_eq_true rfl) rfl (fun X E hret => ?_)
  unfold pX9_laySets at hf
  show fqG X (TM cy) ZM ad n 4 0 0 σ 0 [(0, .ref (ad 0))] []
  refine g_iconst (pc := 0) E (0 : Int32) dX9_laySets_0 (by decide) ?_
  refine g_istore_n (pc := 1) E [(1, .int (0 : Int32)), (0, .ref (ad 0))] dX9_laySets_1 rfl (by decide) rfl ?_
  refine g_lv [1, 0] rfl ?_
  exact tX9_laySets_L2 E hret _ hf

/-! X9_playing -/
theorem wX9_playing_0 : Cond.fieldLink RX9 48 "FairQueueModel" "goesOn" "[Z" ∈ wsX9_playing := by decide +kernel
theorem uX9_playing_X9 : ∀ w ∈ u_ws RX9 TX9 33, w ∈ wsX9_playing := (fun _ h => List.mem_cons_of_mem _ (List.mem_append_right _ h))
theorem kcX9_playing : yX9_playing.cls = RX9 ∧ yX9_playing.cls ≠ "java/lang/invoke/MethodHandle" ∧ yX9_playing.cls ≠ "java/lang/invoke/VarHandle" ∧ (parseMethodDescriptor yX9_playing.desc).map (fun d => d.parameters.length) = some 0 := by decide +kernel
def pX9_playing_L4b (k n : Nat) (σ : fqS) (rec : (Int32 × Int32) → Option Int32) (x1 : Int32) (x2 : Int32) : Option Int32 :=
  (if (5 : Int32) ≤ x2 then some x1 else (if x2 < 0 ∨ 5 ≤ Int32.toNatClampNeg x2 then none else (if (fqI σ 8 (Int32.toNatClampNeg x2)) = 0 then (rec ((x1 + (0 : Int32)), (x2 + (1 : Int32)))) else (rec ((x1 + (1 : Int32)), (x2 + (1 : Int32)))))))
def pX9_playing_L4 (k n : Nat) (σ : fqS) : (Int32 × Int32) → Option Int32 := fqL (fun rec (s : (Int32 × Int32)) => pX9_playing_L4b k n σ rec s.1 s.2) k
def pX9_playing (k n : Nat) (σ : fqS) : Option Int32 :=
  (pX9_playing_L4 k n σ ((0 : Int32), (0 : Int32)))
set_option maxRecDepth 100000 in
set_option maxHeartbeats 4000000 in
theorem tX9_playing_L4 {k : Nat} {X : fqX} {cy : Nat → ClassId} {ad : Nat → Nat} {n : Nat} {σ : fqS} {r : Int32} (E : fqE X ({ frames := 0, cells := 0, slots := 0, locals := 0 } : Room) cy cX9_playing 3 wsX9_playing RX9) (hret : fqR_i X (TM cy) ZM ad n 3 cX9_playing r σ) : ∀ (s : (Int32 × Int32)), pX9_playing_L4 k n σ s = some r → fqG X (TM cy) ZM ad n 3 0 0 σ 4 [(0, .ref (ad 0)), (1, .int (s.1)), (2, .int (s.2))] [] := by
  unfold pX9_playing_L4
  refine fqL_run (P := fun (s : (Int32 × Int32)) => fqG X (TM cy) ZM ad n 3 0 0 σ 4 [(0, .ref (ad 0)), (1, .int (s.1)), (2, .int (s.2))] []) (fun rec s hrec hf => ?_) k
  obtain ⟨x1, x2⟩ := s
  have hf : pX9_playing_L4b k n σ rec x1 x2 = some r := hf
  unfold pX9_playing_L4b at hf
  show fqG X (TM cy) ZM ad n 3 0 0 σ 4 [(0, .ref (ad 0)), (1, .int x1), (2, .int x2)] []
  refine g_iload_n (pc := 4) E dX9_playing_4 2 rfl rfl ?_
  refine g_iconst (pc := 5) E (5 : Int32) dX9_playing_5 (by decide) ?_
  refine g_icmp_ge (pc := 6) E 32 dX9_playing_6 (by decide) (fun c1 => ?_) (fun c1 => ?_)
  · replace hf := fq_t c1 hf
    refine g_iload_n (pc := 32) E dX9_playing_32 1 rfl rfl ?_
    exact hret _ _ _ _ dX9_playing_33 (congrArg (fun z => (z, σ)) (Option.some.inj hf))
  · replace hf := fq_f c1 hf
    refine g_iload_n (pc := 9) E dX9_playing_9 1 rfl rfl ?_
    refine g_aload_n (pc := 10) E dX9_playing_10 0 rfl rfl ?_
    refine g_getfield (pc := 11) E uX9_playing_X9 0 (zm_l (by decide)) (fun _ _ => rfl) rfl 14 (by decide) wX9_playing_0 (.ref (ad 8)) rfl dX9_playing_11 ?_
    refine g_iload_n (pc := 14) E dX9_playing_14 2 rfl rfl ?_
    obtain ⟨h2, hf⟩ := fq_in hf
    refine g_baload (pc := 15) E 8 (zm_l (by decide)) (fun _ _ => rfl) h2 dX9_playing_15 ?_
    refine g_if_eq (pc := 16) E 23 dX9_playing_16 (by decide) (fun c3 => ?_) (fun c3 => ?_)
    · replace hf := fq_t c3 hf
      refine g_iconst (pc := 23) E (0 : Int32) dX9_playing_23 (by decide) ?_
      refine g_iadd (pc := 24) E dX9_playing_24 ?_
      refine g_istore_n (pc := 25) E [(1, .int (x1 + (0 : Int32))), (0, .ref (ad 0)), (2, .int x2)] dX9_playing_25 rfl (by decide) rfl ?_
      refine g_iinc (pc := 26) E (x2 + (1 : Int32)) [(2, .int (x2 + (1 : Int32))), (1, .int (x1 + (0 : Int32))), (0, .ref (ad 0))] dX9_playing_26 2 rfl rfl (by decide) rfl ?_
      refine g_goto (pc := 29) E 4 dX9_playing_29 (by decide) ?_
      refine g_lv [2, 1, 0] rfl ?_
      exact hrec _ hf
    · replace hf := fq_f c3 hf
      refine g_iconst (pc := 19) E (1 : Int32) dX9_playing_19 (by decide) ?_
      refine g_goto (pc := 20) E 24 dX9_playing_20 (by decide) ?_
      refine g_iadd (pc := 24) E dX9_playing_24 ?_
      refine g_istore_n (pc := 25) E [(1, .int (x1 + (1 : Int32))), (0, .ref (ad 0)), (2, .int x2)] dX9_playing_25 rfl (by decide) rfl ?_
      refine g_iinc (pc := 26) E (x2 + (1 : Int32)) [(2, .int (x2 + (1 : Int32))), (1, .int (x1 + (1 : Int32))), (0, .ref (ad 0))] dX9_playing_26 2 rfl rfl (by decide) rfl ?_
      refine g_goto (pc := 29) E 4 dX9_playing_29 (by decide) ?_
      refine g_lv [2, 1, 0] rfl ?_
      exact hrec _ hf
set_option maxRecDepth 100000 in
set_option maxHeartbeats 4000000 in
theorem qX9_playing (l : Launch) (D : va_G) (cy : Nat → ClassId) (ad : Nat → Nat) (sz n : Nat) (σ : fqS) (k : Nat) {r : Int32} (hf : pX9_playing k n σ = some r) : Met l yX9_playing wsX9_playing ({ frames := 0, cells := 0, slots := 0, locals := 0 } : Room) (fqPc (TM cy) ZM D cy ad sz n σ [.ref (ad 0)]) (fqQi (TM cy) ZM D ad sz n σ r σ) 0 0 (fqA (TM cy) ZM ad sz n σ) := by
  refine fq_enter_i (cc := cX9_playing) (maxL := 3) (own := RX9) _ (by decide) rfl (Nat.le_of_ble_eq_true rfl) rfl (fun X E hret => ?_)
  unfold pX9_playing at hf
  show fqG X (TM cy) ZM ad n 3 0 0 σ 0 [(0, .ref (ad 0))] []
  refine g_iconst (pc := 0) E (0 : Int32) dX9_playing_0 (by decide) ?_
  refine g_istore_n (pc := 1) E [(1, .int (0 : Int32)), (0, .ref (ad 0))] dX9_playing_1 rfl (by decide) rfl ?_
  refine g_iconst (pc := 2) E (0 : Int32) dX9_playing_2 (by decide) ?_
  refine g_istore_n (pc := 3) E [(2, .int (0 : Int32)), (1, .int (0 : Int32)), (0, .ref (ad 0))] dX9_playing_3 rfl (by decide) rfl ?_
  refine g_lv [2, 1, 0] rfl ?_
  exact tX9_playing_L4 E hret _ hf

/-! X9_findPairing -/
theorem wX9_findPairing_0 : Cond.fieldLink RX9 185 "FairQueueModel" "bestFirst" "I" ∈ wsX9_findPairing := by decide +kernel
theorem uX9_findPairing_X9 : ∀ w ∈ u_ws RX9 TX9 33, w ∈ wsX9_findPairing := (fun _ h => List.mem_cons_of_mem _ (List.mem_append_right _ h))
theorem wX9_findPairing_2 : Cond.fieldLink RX9 159 "FairQueueModel" "parties" "I" ∈ wsX9_findPairing := by decide +kernel
theorem wX9_findPairing_3 : Cond.fieldLink RX9 188 "FairQueueModel" "bestUneven" "J" ∈ wsX9_findPairing := by decide +kernel
theorem wX9_findPairing_4 : Cond.fieldLink RX9 74 "FairQueueModel" "setSize" "[I" ∈ wsX9_findPairing := by decide +kernel
theorem wX9_findPairing_5 : Cond.fieldLink RX9 26 "FairQueueModel" "teamSize" "I" ∈ wsX9_findPairing := by decide +kernel
theorem wX9_findPairing_6 : Cond.fieldLink RX9 77 "FairQueueModel" "setMean" "[J" ∈ wsX9_findPairing := by decide +kernel
theorem wX9_findPairing_7 : Cond.fieldLink RX9 192 "FairQueueModel" "bestSecond" "I" ∈ wsX9_findPairing := by decide +kernel
theorem kcX9_findPairing : yX9_findPairing.cls = RX9 ∧ yX9_findPairing.cls ≠ "java/lang/invoke/MethodHandle" ∧ yX9_findPairing.cls ≠ "java/lang/invoke/VarHandle" ∧ (parseMethodDescriptor yX9_findPairing.desc).map (fun d => d.parameters.length) = some 2 := by decide +kernel
def pX9_findPairing_J139 (k n : Nat) (x1 : Int32) (x2 : Int32) (x3 : Int32) (x4 : Int32) (s0 : Int64) (σ : fqS) (rec7 : (Int32 × fqS) → Option (Int32 × fqS)) (rec50 : (Int32 × fqS) → Option (Int32 × fqS)) : Option (Int32 × fqS) :=
  (if (fqI σ 0 26) < 0 then (fqN (fqPI σ 0 26 x3) (fun σ20 => (fqN (fqPI σ20 0 27 x4) (fun σ22 => (fqN (fqPJ σ22 0 28 s0) (fun σ24 => (rec50 ((x4 + (1 : Int32)), σ24)))))))) else (if (fqJ σ 0 28) ≤ s0 then (rec50 ((x4 + (1 : Int32)), σ)) else (fqN (fqPI σ 0 26 x3) (fun σ27 => (fqN (fqPI σ27 0 27 x4) (fun σ29 => (fqN (fqPJ σ29 0 28 s0) (fun σ31 => (rec50 ((x4 + (1 : Int32)), σ31))))))))))
def pX9_findPairing_L50b (k n : Nat) (x1 : Int32) (x2 : Int32) (x3 : Int32) (rec7 : (Int32 × fqS) → Option (Int32 × fqS)) (rec : (Int32 × fqS) → Option (Int32 × fqS)) (x4 : Int32) (σ : fqS) : Option (Int32 × fqS) :=
  (if ((1 : Int32) <<< ((fqI σ 0 11) &&& 31)) ≤ x4 then (rec7 ((x3 + (1 : Int32)), σ)) else (if (x4 &&& (x2 ^^^ (-1 : Int32))) = 0 then (if (x3 &&& x4) = 0 then (if x4 < 0 ∨ 1024 ≤ Int32.toNatClampNeg x4 then none else (if (fqI σ 15 (Int32.toNatClampNeg x4)) = (fqI σ 0 6) then (if x3 < 0 ∨ 1024 ≤ Int32.toNatClampNeg x3 then none else (if (fqJ σ 16 (Int32.toNatClampNeg x4)) ≤ (fqJ σ 16 (Int32.toNatClampNeg x3)) then (pX9_findPairing_J139 k n x1 x2 x3 x4 ((fqJ σ 16 (Int32.toNatClampNeg x3)) - (fqJ σ 16 (Int32.toNatClampNeg x4))) σ rec7 rec) else (pX9_findPairing_J139 k n x1 x2 x3 x4 ((fqJ σ 16 (Int32.toNatClampNeg x4)) - (fqJ σ 16 (Int32.toNatClampNeg x3))) σ rec7 rec))) else (rec ((x4 + (1 : Int32)), σ)))) else (rec ((x4 + (1 : Int32)), σ))) else (rec ((x4 + (1 : Int32)), σ))))
def pX9_findPairing_L50 (k n : Nat) (x1 : Int32) (x2 : Int32) (x3 : Int32) (rec7 : (Int32 × fqS) → Option (Int32 × fqS)) : (Int32 × fqS) → Option (Int32 × fqS) := fqL (fun rec (s : (Int32 × fqS)) => pX9_findPairing_L50b k n x1 x2 x3 rec7 rec s.1 s.2) k
def pX9_findPairing_L7b (k n : Nat) (x1 : Int32) (x2 : Int32) (rec : (Int32 × fqS) → Option (Int32 × fqS)) (x3 : Int32) (σ : fqS) : Option (Int32 × fqS) :=
  (if ((1 : Int32) <<< ((fqI σ 0 11) &&& 31)) ≤ x3 then (if (fqI σ 0 26) < 0 then some ((0 : Int32), σ) else ((pX9_boundOf k n σ x1).bind (fun r6 => (if r6 < (fqJ σ 0 28) then some ((0 : Int32), σ) else some ((1 : Int32), σ))))) else (if (x3 &&& (x2 ^^^ (-1 : Int32))) = 0 then (if ((x3 >>> (x1 &&& 31)) &&& (1 : Int32)) = (1 : Int32) then (if x3 < 0 ∨ 1024 ≤ Int32.toNatClampNeg x3 then none else (if (fqI σ 15 (Int32.toNatClampNeg x3)) = (fqI σ 0 6) then (pX9_findPairing_L50 k n x1 x2 x3 rec ((0 : Int32), σ)) else (rec ((x3 + (1 : Int32)), σ)))) else (rec ((x3 + (1 : Int32)), σ))) else (rec ((x3 + (1 : Int32)), σ))))
def pX9_findPairing_L7 (k n : Nat) (x1 : Int32) (x2 : Int32) : (Int32 × fqS) → Option (Int32 × fqS) := fqL (fun rec (s : (Int32 × fqS)) => pX9_findPairing_L7b k n x1 x2 rec s.1 s.2) k
def pX9_findPairing (k n : Nat) (σ : fqS) (x1 : Int32) (x2 : Int32) : Option (Int32 × fqS) :=
  (fqN (fqPI σ 0 26 (-1 : Int32)) (fun σ1 => (pX9_findPairing_L7 k n x1 x2 ((0 : Int32), σ1))))
set_option maxRecDepth 100000 in
set_option maxHeartbeats 4000000 in
theorem tX9_findPairing_J139 {k : Nat} {X : fqX} {cy : Nat → ClassId} {ad : Nat → Nat} {n : Nat} {r : Int32} {σ' : fqS} {x1 : Int32} {x2 : Int32} {x3 : Int32} {x4 : Int32} {s0 : Int64} {σ : fqS} (E : fqE X ({ frames := 1, cells := 0, slots := 0, locals := 23 } : Room) cy cX9_findPairing 7 wsX9_findPairing RX9) (hret : fqR_z X (TM cy) ZM ad n 7 cX9_findPairing r σ') {rec7 : (Int32 × fqS) → Option (Int32 × fqS)} (hrec7 : ∀ (s : (Int32 × fqS)), rec7 s = some (r, σ') → fqG X (TM cy) ZM ad n 7 0 0 (s.2) 7 [(0, .ref (ad 0)), (1, .int x1), (2, .int x2), (3, .int (s.1))] []) {rec50 : (Int32 × fqS) → Option (Int32 × fqS)} (hrec50 : ∀ (s : (Int32 × fqS)), rec50 s = some (r, σ') → fqG X (TM cy) ZM ad n 7 0 0 (s.2) 50 [(0, .ref (ad 0)), (1, .int x1), (2, .int x2), (3, .int x3), (4, .int (s.1))] []) (hf : pX9_findPairing_J139 k n x1 x2 x3 x4 s0 σ rec7 rec50 = some (r, σ')) : fqG X (TM cy) ZM ad n 7 0 0 σ 139 [(0, .ref (ad 0)), (1, .int x1), (2, .int x2), (3, .int x3), (4, .int x4)] [.long s0] := by
  unfold pX9_findPairing_J139 at hf
  refine g_lstore (pc := 139) E [(5, .long s0), (0, .ref (ad 0)), (1, .int x1), (2, .int x2), (3, .int x3), (4, .int x4)] dX9_findPairing_139 (by decide) rfl ?_
  refine g_aload_n (pc := 141) E dX9_findPairing_141 1 rfl rfl ?_
  refine g_getfield (pc := 142) E uX9_findPairing_X9 0 (zm_l (by decide)) (fun _ _ => rfl) rfl 26 (by decide) wX9_findPairing_0 (.int (fqI σ 0 26)) rfl dX9_findPairing_142 ?_
  refine g_if_lt (pc := 145) E 158 dX9_findPairing_145 (by decide) (fun c19 => ?_) (fun c19 => ?_)
  · replace hf := fq_t c19 hf
    refine g_aload_n (pc := 158) E dX9_findPairing_158 1 rfl rfl ?_
    refine g_iload_n (pc := 159) E dX9_findPairing_159 4 rfl rfl ?_
    refine g_putI (pc := 160) E uX9_findPairing_X9 tyX9 tyX9_ok nmX9 0 (zm_l (by decide)) (fun _ _ => rfl) rfl 26 (by decide) wX9_findPairing_0 rfl rfl (Nat.le_of_ble_eq_true rfl) rfl dX9_findPairing_160 ?_
    obtain ⟨σ20, e21, hf⟩ := fq_n hf
    refine g_sg e21 ?_
    refine g_aload_n (pc := 163) E dX9_findPairing_163 1 rfl rfl ?_
    refine g_iload (pc := 164) E dX9_findPairing_164 5 rfl ?_
    refine g_putI (pc := 166) E uX9_findPairing_X9 tyX9 tyX9_ok nmX9 0 (zm_l (by decide)) (fun _ _ => rfl) rfl 27 (by decide) wX9_findPairing_7 rfl rfl (Nat.le_of_ble_eq_true rfl) rfl dX9_findPairing_166 ?_
    obtain ⟨σ22, e23, hf⟩ := fq_n hf
    refine g_sg e23 ?_
    refine g_aload_n (pc := 169) E dX9_findPairing_169 1 rfl rfl ?_
    refine g_lload (pc := 170) E dX9_findPairing_170 0 rfl ?_
    refine g_putJ (pc := 172) E uX9_findPairing_X9 tyX9 tyX9_ok nmX9 0 (zm_l (by decide)) (fun _ _ => rfl) rfl 28 (by decide) wX9_findPairing_3 rfl rfl (Nat.le_of_ble_eq_true rfl) rfl dX9_findPairing_172 ?_
    obtain ⟨σ24, e25, hf⟩ := fq_n hf
    refine g_sg e25 ?_
    refine g_iinc (pc := 175) E (x4 + (1 : Int32)) [(4, .int (x4 + (1 : Int32))), (5, .long s0), (0, .ref (ad 0)), (1, .int x1), (2, .int x2), (3, .int x3)] dX9_findPairing_175 5 rfl rfl (by decide) rfl ?_
    refine g_goto (pc := 178) E 50 dX9_findPairing_178 (by decide) ?_
    refine g_lv [2, 3, 4, 5, 0] rfl ?_
    exact hrec50 _ hf
  · replace hf := fq_f c19 hf
    refine g_lload (pc := 148) E dX9_findPairing_148 0 rfl ?_
    refine g_aload_n (pc := 150) E dX9_findPairing_150 1 rfl rfl ?_
    refine g_getfield (pc := 151) E uX9_findPairing_X9 0 (zm_l (by decide)) (fun _ _ => rfl) rfl 28 (by decide) wX9_findPairing_3 (.long (fqJ σ 0 28)) rfl dX9_findPairing_151 ?_
    refine g_lif_ge (pc := 154) E 175 dX9_findPairing_154 dX9_findPairing_155 (by decide) (fun c26 => ?_) (fun c26 => ?_)
    · replace hf := fq_t c26 hf
      refine g_iinc (pc := 175) E (x4 + (1 : Int32)) [(4, .int (x4 + (1 : Int32))), (5, .long s0), (0, .ref (ad 0)), (1, .int x1), (2, .int x2), (3, .int x3)] dX9_findPairing_175 5 rfl rfl (by decide) rfl ?_
      refine g_goto (pc := 178) E 50 dX9_findPairing_178 (by decide) ?_
      refine g_lv [2, 3, 4, 5, 0] rfl ?_
      exact hrec50 _ hf
    · replace hf := fq_f c26 hf
      refine g_aload_n (pc := 158) E dX9_findPairing_158 1 rfl rfl ?_
      refine g_iload_n (pc := 159) E dX9_findPairing_159 4 rfl rfl ?_
      refine g_putI (pc := 160) E uX9_findPairing_X9 tyX9 tyX9_ok nmX9 0 (zm_l (by decide)) (fun _ _ => rfl) rfl 26 (by decide) wX9_findPairing_0 rfl rfl (Nat.le_of_ble_eq_true rfl) rfl dX9_findPairing_160 ?_
      obtain ⟨σ27, e28, hf⟩ := fq_n hf
      refine g_sg e28 ?_
      refine g_aload_n (pc := 163) E dX9_findPairing_163 1 rfl rfl ?_
      refine g_iload (pc := 164) E dX9_findPairing_164 5 rfl ?_
      refine g_putI (pc := 166) E uX9_findPairing_X9 tyX9 tyX9_ok nmX9 0 (zm_l (by decide)) (fun _ _ => rfl) rfl 27 (by decide) wX9_findPairing_7 rfl rfl (Nat.le_of_ble_eq_true rfl) rfl dX9_findPairing_166 ?_
      obtain ⟨σ29, e30, hf⟩ := fq_n hf
      refine g_sg e30 ?_
      refine g_aload_n (pc := 169) E dX9_findPairing_169 1 rfl rfl ?_
      refine g_lload (pc := 170) E dX9_findPairing_170 0 rfl ?_
      refine g_putJ (pc := 172) E uX9_findPairing_X9 tyX9 tyX9_ok nmX9 0 (zm_l (by decide)) (fun _ _ => rfl) rfl 28 (by decide) wX9_findPairing_3 rfl rfl (Nat.le_of_ble_eq_true rfl) rfl dX9_findPairing_172 ?_
      obtain ⟨σ31, e32, hf⟩ := fq_n hf
      refine g_sg e32 ?_
      refine g_iinc (pc := 175) E (x4 + (1 : Int32)) [(4, .int (x4 + (1 : Int32))), (5, .long s0), (0, .ref (ad 0)), (1, .int x1), (2, .int x2), (3, .int x3)] dX9_findPairing_175 5 rfl rfl (by decide) rfl ?_
      refine g_goto (pc := 178) E 50 dX9_findPairing_178 (by decide) ?_
      refine g_lv [2, 3, 4, 5, 0] rfl ?_
      exact hrec50 _ hf
set_option maxRecDepth 100000 in
set_option maxHeartbeats 4000000 in
theorem tX9_findPairing_L50 {k : Nat} {X : fqX} {cy : Nat → ClassId} {ad : Nat → Nat} {n : Nat} {r : Int32} {σ' : fqS} {x1 : Int32} {x2 : Int32} {x3 : Int32} (E : fqE X ({ frames := 1, cells := 0, slots := 0, locals := 23 } : Room) cy cX9_findPairing 7 wsX9_findPairing RX9) (hret : fqR_z X (TM cy) ZM ad n 7 cX9_findPairing r σ') {rec7 : (Int32 × fqS) → Option (Int32 × fqS)} (hrec7 : ∀ (s : (Int32 × fqS)), rec7 s = some (r, σ') → fqG X (TM cy) ZM ad n 7 0 0 (s.2) 7 [(0, .ref (ad 0)), (1, .int x1), (2, .int x2), (3, .int (s.1))] []) : ∀ (s : (Int32 × fqS)), pX9_findPairing_L50 k n x1 x2 x3 rec7 s = some (r, σ') → fqG X (TM cy) ZM ad n 7 0 0 (s.2) 50 [(0, .ref (ad 0)), (1, .int x1), (2, .int x2), (3, .int x3), (4, .int (s.1))] [] := by
  unfold pX9_findPairing_L50
  refine fqL_run (P := fun (s : (Int32 × fqS)) => fqG X (TM cy) ZM ad n 7 0 0 (s.2) 50 [(0, .ref (ad 0)), (1, .int x1), (2, .int x2), (3, .int x3), (4, .int (s.1))] []) (fun rec s hrec hf => ?_) k
  obtain ⟨x4, σ⟩ := s
  have hf : pX9_findPairing_L50b k n x1 x2 x3 rec7 rec x4 σ = some (r, σ') := hf
  unfold pX9_findPairing_L50b at hf
  show fqG X (TM cy) ZM ad n 7 0 0 σ 50 [(0, .ref (ad 0)), (1, .int x1), (2, .int x2), (3, .int x3), (4, .int x4)] []
  refine g_iload (pc := 50) E dX9_findPairing_50 4 rfl ?_
  refine g_iconst (pc := 52) E (1 : Int32) dX9_findPairing_52 (by decide) ?_
  refine g_aload_n (pc := 53) E dX9_findPairing_53 0 rfl rfl ?_
  refine g_getfield (pc := 54) E uX9_findPairing_X9 0 (zm_l (by decide)) (fun _ _ => rfl) rfl 11 (by decide) wX9_findPairing_2 (.int (fqI σ 0 11)) rfl dX9_findPairing_54 ?_
  refine g_ishl (pc := 57) E dX9_findPairing_57 ?_
  refine g_icmp_ge (pc := 58) E 181 dX9_findPairing_58 (by decide) (fun c12 => ?_) (fun c12 => ?_)
  · replace hf := fq_t c12 hf
    refine g_iinc (pc := 181) E (x3 + (1 : Int32)) [(3, .int (x3 + (1 : Int32))), (0, .ref (ad 0)), (1, .int x1), (2, .int x2), (4, .int x4)] dX9_findPairing_181 3 rfl rfl (by decide) rfl ?_
    refine g_goto (pc := 184) E 7 dX9_findPairing_184 (by decide) ?_
    refine g_lv [1, 2, 3, 0] rfl ?_
    exact hrec7 _ hf
  · replace hf := fq_f c12 hf
    refine g_iload (pc := 61) E dX9_findPairing_61 4 rfl ?_
    refine g_iload_n (pc := 63) E dX9_findPairing_63 2 rfl rfl ?_
    refine g_iconst (pc := 64) E (-1 : Int32) dX9_findPairing_64 (by decide) ?_
    refine g_ixor (pc := 65) E dX9_findPairing_65 ?_
    refine g_iand (pc := 66) E dX9_findPairing_66 ?_
    refine g_if_ne (pc := 67) E 175 dX9_findPairing_67 (by decide) (fun c13 => ?_) (fun c13 => ?_)
    · replace hf := fq_f c13 hf
      refine g_iinc (pc := 175) E (x4 + (1 : Int32)) [(4, .int (x4 + (1 : Int32))), (0, .ref (ad 0)), (1, .int x1), (2, .int x2), (3, .int x3)] dX9_findPairing_175 4 rfl rfl (by decide) rfl ?_
      refine g_goto (pc := 178) E 50 dX9_findPairing_178 (by decide) ?_
      refine g_lv [1, 2, 3, 4, 0] rfl ?_
      exact hrec _ hf
    · replace hf := fq_t c13 hf
      refine g_iload_n (pc := 70) E dX9_findPairing_70 3 rfl rfl ?_
      refine g_iload (pc := 71) E dX9_findPairing_71 4 rfl ?_
      refine g_iand (pc := 73) E dX9_findPairing_73 ?_
      refine g_if_ne (pc := 74) E 175 dX9_findPairing_74 (by decide) (fun c14 => ?_) (fun c14 => ?_)
      · replace hf := fq_f c14 hf
        refine g_iinc (pc := 175) E (x4 + (1 : Int32)) [(4, .int (x4 + (1 : Int32))), (0, .ref (ad 0)), (1, .int x1), (2, .int x2), (3, .int x3)] dX9_findPairing_175 4 rfl rfl (by decide) rfl ?_
        refine g_goto (pc := 178) E 50 dX9_findPairing_178 (by decide) ?_
        refine g_lv [1, 2, 3, 4, 0] rfl ?_
        exact hrec _ hf
      · replace hf := fq_t c14 hf
        refine g_aload_n (pc := 77) E dX9_findPairing_77 0 rfl rfl ?_
        refine g_getfield (pc := 78) E uX9_findPairing_X9 0 (zm_l (by decide)) (fun _ _ => rfl) rfl 24 (by decide) wX9_findPairing_4 (.ref (ad 15)) rfl dX9_findPairing_78 ?_
        refine g_iload (pc := 81) E dX9_findPairing_81 4 rfl ?_
        obtain ⟨h15, hf⟩ := fq_in hf
        refine g_iaload (pc := 83) E 15 (zm_l (by decide)) (fun _ _ => rfl) h15 dX9_findPairing_83 ?_
        refine g_aload_n (pc := 84) E dX9_findPairing_84 0 rfl rfl ?_
        refine g_getfield (pc := 85) E uX9_findPairing_X9 0 (zm_l (by decide)) (fun _ _ => rfl) rfl 6 (by decide) wX9_findPairing_5 (.int (fqI σ 0 6)) rfl dX9_findPairing_85 ?_
        refine g_icmp_ne (pc := 88) E 175 dX9_findPairing_88 (by decide) (fun c16 => ?_) (fun c16 => ?_)
        · replace hf := fq_f c16 hf
          refine g_iinc (pc := 175) E (x4 + (1 : Int32)) [(4, .int (x4 + (1 : Int32))), (0, .ref (ad 0)), (1, .int x1), (2, .int x2), (3, .int x3)] dX9_findPairing_175 4 rfl rfl (by decide) rfl ?_
          refine g_goto (pc := 178) E 50 dX9_findPairing_178 (by decide) ?_
          refine g_lv [1, 2, 3, 4, 0] rfl ?_
          exact hrec _ hf
        · replace hf := fq_t c16 hf
          refine g_aload_n (pc := 91) E dX9_findPairing_91 0 rfl rfl ?_
          refine g_getfield (pc := 92) E uX9_findPairing_X9 0 (zm_l (by decide)) (fun _ _ => rfl) rfl 25 (by decide) wX9_findPairing_6 (.ref (ad 16)) rfl dX9_findPairing_92 ?_
          refine g_iload_n (pc := 95) E dX9_findPairing_95 3 rfl rfl ?_
          obtain ⟨h17, hf⟩ := fq_in hf
          refine g_laload (pc := 96) E 16 (zm_l (by decide)) (fun _ _ => rfl) h17 dX9_findPairing_96 ?_
          refine g_aload_n (pc := 97) E dX9_findPairing_97 0 rfl rfl ?_
          refine g_getfield (pc := 98) E uX9_findPairing_X9 0 (zm_l (by decide)) (fun _ _ => rfl) rfl 25 (by decide) wX9_findPairing_6 (.ref (ad 16)) rfl dX9_findPairing_98 ?_
          refine g_iload (pc := 101) E dX9_findPairing_101 4 rfl ?_
          refine g_laload (pc := 103) E 16 (zm_l (by decide)) (fun _ _ => rfl) h15 dX9_findPairing_103 ?_
          refine g_lif_ge (pc := 104) E 125 dX9_findPairing_104 dX9_findPairing_105 (by decide) (fun c18 => ?_) (fun c18 => ?_)
          · replace hf := fq_t c18 hf
            refine g_aload_n (pc := 125) E dX9_findPairing_125 0 rfl rfl ?_
            refine g_getfield (pc := 126) E uX9_findPairing_X9 0 (zm_l (by decide)) (fun _ _ => rfl) rfl 25 (by decide) wX9_findPairing_6 (.ref (ad 16)) rfl dX9_findPairing_126 ?_
            refine g_iload_n (pc := 129) E dX9_findPairing_129 3 rfl rfl ?_
            refine g_laload (pc := 130) E 16 (zm_l (by decide)) (fun _ _ => rfl) h17 dX9_findPairing_130 ?_
            refine g_aload_n (pc := 131) E dX9_findPairing_131 0 rfl rfl ?_
            refine g_getfield (pc := 132) E uX9_findPairing_X9 0 (zm_l (by decide)) (fun _ _ => rfl) rfl 25 (by decide) wX9_findPairing_6 (.ref (ad 16)) rfl dX9_findPairing_132 ?_
            refine g_iload (pc := 135) E dX9_findPairing_135 4 rfl ?_
            refine g_laload (pc := 137) E 16 (zm_l (by decide)) (fun _ _ => rfl) h15 dX9_findPairing_137 ?_
            refine g_lsub (pc := 138) E dX9_findPairing_138 ?_
            exact tX9_findPairing_J139 E hret hrec7 hrec hf
          · replace hf := fq_f c18 hf
            refine g_aload_n (pc := 108) E dX9_findPairing_108 0 rfl rfl ?_
            refine g_getfield (pc := 109) E uX9_findPairing_X9 0 (zm_l (by decide)) (fun _ _ => rfl) rfl 25 (by decide) wX9_findPairing_6 (.ref (ad 16)) rfl dX9_findPairing_109 ?_
            refine g_iload (pc := 112) E dX9_findPairing_112 4 rfl ?_
            refine g_laload (pc := 114) E 16 (zm_l (by decide)) (fun _ _ => rfl) h15 dX9_findPairing_114 ?_
            refine g_aload_n (pc := 115) E dX9_findPairing_115 0 rfl rfl ?_
            refine g_getfield (pc := 116) E uX9_findPairing_X9 0 (zm_l (by decide)) (fun _ _ => rfl) rfl 25 (by decide) wX9_findPairing_6 (.ref (ad 16)) rfl dX9_findPairing_116 ?_
            refine g_iload_n (pc := 119) E dX9_findPairing_119 3 rfl rfl ?_
            refine g_laload (pc := 120) E 16 (zm_l (by decide)) (fun _ _ => rfl) h17 dX9_findPairing_120 ?_
            refine g_lsub (pc := 121) E dX9_findPairing_121 ?_
            refine g_goto (pc := 122) E 139 dX9_findPairing_122 (by decide) ?_
            exact tX9_findPairing_J139 E hret hrec7 hrec hf
set_option maxRecDepth 100000 in
set_option maxHeartbeats 4000000 in
theorem tX9_findPairing_L7 {k : Nat} {X : fqX} {cy : Nat → ClassId} {ad : Nat → Nat} {n : Nat} {r : Int32} {σ' : fqS} {x1 : Int32} {x2 : Int32} (E : fqE X ({ frames := 1, cells := 0, slots := 0, locals := 23 } : Room) cy cX9_findPairing 7 wsX9_findPairing RX9) (hret : fqR_z X (TM cy) ZM ad n 7 cX9_findPairing r σ') : ∀ (s : (Int32 × fqS)), pX9_findPairing_L7 k n x1 x2 s = some (r, σ') → fqG X (TM cy) ZM ad n 7 0 0 (s.2) 7 [(0, .ref (ad 0)), (1, .int x1), (2, .int x2), (3, .int (s.1))] [] := by
  unfold pX9_findPairing_L7
  refine fqL_run (P := fun (s : (Int32 × fqS)) => fqG X (TM cy) ZM ad n 7 0 0 (s.2) 7 [(0, .ref (ad 0)), (1, .int x1), (2, .int x2), (3, .int (s.1))] []) (fun rec s hrec hf => ?_) k
  obtain ⟨x3, σ⟩ := s
  have hf : pX9_findPairing_L7b k n x1 x2 rec x3 σ = some (r, σ') := hf
  unfold pX9_findPairing_L7b at hf
  show fqG X (TM cy) ZM ad n 7 0 0 σ 7 [(0, .ref (ad 0)), (1, .int x1), (2, .int x2), (3, .int x3)] []
  refine g_iload_n (pc := 7) E dX9_findPairing_7 3 rfl rfl ?_
  refine g_iconst (pc := 8) E (1 : Int32) dX9_findPairing_8 (by decide) ?_
  refine g_aload_n (pc := 9) E dX9_findPairing_9 0 rfl rfl ?_
  refine g_getfield (pc := 10) E uX9_findPairing_X9 0 (zm_l (by decide)) (fun _ _ => rfl) rfl 11 (by decide) wX9_findPairing_2 (.int (fqI σ 0 11)) rfl dX9_findPairing_10 ?_
  refine g_ishl (pc := 13) E dX9_findPairing_13 ?_
  refine g_icmp_ge (pc := 14) E 187 dX9_findPairing_14 (by decide) (fun c3 => ?_) (fun c3 => ?_)
  · replace hf := fq_t c3 hf
    refine g_aload_n (pc := 187) E dX9_findPairing_187 0 rfl rfl ?_
    refine g_getfield (pc := 188) E uX9_findPairing_X9 0 (zm_l (by decide)) (fun _ _ => rfl) rfl 26 (by decide) wX9_findPairing_0 (.int (fqI σ 0 26)) rfl dX9_findPairing_188 ?_
    refine g_if_lt (pc := 191) E 211 dX9_findPairing_191 (by decide) (fun c4 => ?_) (fun c4 => ?_)
    · replace hf := fq_t c4 hf
      refine g_iconst (pc := 211) E (0 : Int32) dX9_findPairing_211 (by decide) ?_
      exact hret _ _ _ _ rfl dX9_findPairing_212 (Option.some.inj hf)
    · replace hf := fq_f c4 hf
      refine g_aload_n (pc := 194) E dX9_findPairing_194 0 rfl rfl ?_
      refine g_getfield (pc := 195) E uX9_findPairing_X9 0 (zm_l (by decide)) (fun _ _ => rfl) rfl 28 (by decide) wX9_findPairing_3 (.long (fqJ σ 0 28)) rfl dX9_findPairing_195 ?_
      refine g_aload_n (pc := 198) E dX9_findPairing_198 0 rfl rfl ?_
      refine g_iload_n (pc := 199) E dX9_findPairing_199 1 rfl rfl ?_
      obtain ⟨r6, e5, hf⟩ := fq_b hf
      refine g_callVl (pc := 200) E 0 (zm_l (by decide)) (fun _ _ => rfl) rfl [.int x1] (fun l D sz => qX9_boundOf l D cy ad sz n σ k x1 e5) gX9_findPairing_X9_boundOf rfl rfl rfl kcX9_boundOf ⟨by decide, by decide⟩ rfl rfl (Nat.le_of_ble_eq_true rfl) dX9_findPairing_200 ⟨by decide, by decide⟩ ?_
      refine g_lif_gt (pc := 203) E 211 dX9_findPairing_203 dX9_findPairing_204 (by decide) (fun c7 => ?_) (fun c7 => ?_)
      · replace hf := fq_t c7 hf
        refine g_iconst (pc := 211) E (0 : Int32) dX9_findPairing_211 (by decide) ?_
        exact hret _ _ _ _ rfl dX9_findPairing_212 (Option.some.inj hf)
      · replace hf := fq_f c7 hf
        refine g_iconst (pc := 207) E (1 : Int32) dX9_findPairing_207 (by decide) ?_
        refine g_goto (pc := 208) E 212 dX9_findPairing_208 (by decide) ?_
        exact hret _ _ _ _ rfl dX9_findPairing_212 (Option.some.inj hf)
  · replace hf := fq_f c3 hf
    refine g_iload_n (pc := 17) E dX9_findPairing_17 3 rfl rfl ?_
    refine g_iload_n (pc := 18) E dX9_findPairing_18 2 rfl rfl ?_
    refine g_iconst (pc := 19) E (-1 : Int32) dX9_findPairing_19 (by decide) ?_
    refine g_ixor (pc := 20) E dX9_findPairing_20 ?_
    refine g_iand (pc := 21) E dX9_findPairing_21 ?_
    refine g_if_ne (pc := 22) E 181 dX9_findPairing_22 (by decide) (fun c8 => ?_) (fun c8 => ?_)
    · replace hf := fq_f c8 hf
      refine g_iinc (pc := 181) E (x3 + (1 : Int32)) [(3, .int (x3 + (1 : Int32))), (0, .ref (ad 0)), (1, .int x1), (2, .int x2)] dX9_findPairing_181 3 rfl rfl (by decide) rfl ?_
      refine g_goto (pc := 184) E 7 dX9_findPairing_184 (by decide) ?_
      refine g_lv [1, 2, 3, 0] rfl ?_
      exact hrec _ hf
    · replace hf := fq_t c8 hf
      refine g_iload_n (pc := 25) E dX9_findPairing_25 3 rfl rfl ?_
      refine g_iload_n (pc := 26) E dX9_findPairing_26 1 rfl rfl ?_
      refine g_ishr (pc := 27) E dX9_findPairing_27 ?_
      refine g_iconst (pc := 28) E (1 : Int32) dX9_findPairing_28 (by decide) ?_
      refine g_iand (pc := 29) E dX9_findPairing_29 ?_
      refine g_iconst (pc := 30) E (1 : Int32) dX9_findPairing_30 (by decide) ?_
      refine g_icmp_ne (pc := 31) E 181 dX9_findPairing_31 (by decide) (fun c9 => ?_) (fun c9 => ?_)
      · replace hf := fq_f c9 hf
        refine g_iinc (pc := 181) E (x3 + (1 : Int32)) [(3, .int (x3 + (1 : Int32))), (0, .ref (ad 0)), (1, .int x1), (2, .int x2)] dX9_findPairing_181 3 rfl rfl (by decide) rfl ?_
        refine g_goto (pc := 184) E 7 dX9_findPairing_184 (by decide) ?_
        refine g_lv [1, 2, 3, 0] rfl ?_
        exact hrec _ hf
      · replace hf := fq_t c9 hf
        refine g_aload_n (pc := 34) E dX9_findPairing_34 0 rfl rfl ?_
        refine g_getfield (pc := 35) E uX9_findPairing_X9 0 (zm_l (by decide)) (fun _ _ => rfl) rfl 24 (by decide) wX9_findPairing_4 (.ref (ad 15)) rfl dX9_findPairing_35 ?_
        refine g_iload_n (pc := 38) E dX9_findPairing_38 3 rfl rfl ?_
        obtain ⟨h10, hf⟩ := fq_in hf
        refine g_iaload (pc := 39) E 15 (zm_l (by decide)) (fun _ _ => rfl) h10 dX9_findPairing_39 ?_
        refine g_aload_n (pc := 40) E dX9_findPairing_40 0 rfl rfl ?_
        refine g_getfield (pc := 41) E uX9_findPairing_X9 0 (zm_l (by decide)) (fun _ _ => rfl) rfl 6 (by decide) wX9_findPairing_5 (.int (fqI σ 0 6)) rfl dX9_findPairing_41 ?_
        refine g_icmp_ne (pc := 44) E 181 dX9_findPairing_44 (by decide) (fun c11 => ?_) (fun c11 => ?_)
        · replace hf := fq_f c11 hf
          refine g_iinc (pc := 181) E (x3 + (1 : Int32)) [(3, .int (x3 + (1 : Int32))), (0, .ref (ad 0)), (1, .int x1), (2, .int x2)] dX9_findPairing_181 3 rfl rfl (by decide) rfl ?_
          refine g_goto (pc := 184) E 7 dX9_findPairing_184 (by decide) ?_
          refine g_lv [1, 2, 3, 0] rfl ?_
          exact hrec _ hf
        · replace hf := fq_t c11 hf
          refine g_iconst (pc := 47) E (0 : Int32) dX9_findPairing_47 (by decide) ?_
          refine g_istore (pc := 48) E [(4, .int (0 : Int32)), (0, .ref (ad 0)), (1, .int x1), (2, .int x2), (3, .int x3)] dX9_findPairing_48 (by decide) rfl ?_
          refine g_lv [1, 2, 3, 4, 0] rfl ?_
          exact tX9_findPairing_L50 E hret hrec _ hf
set_option maxRecDepth 100000 in
set_option maxHeartbeats 4000000 in
theorem qX9_findPairing (l : Launch) (D : va_G) (cy : Nat → ClassId) (ad : Nat → Nat) (sz n : Nat) (σ : fqS) (k : Nat) (x1 : Int32) (x2 : Int32) {r : Int32} {σ' : fqS} (hf : pX9_findPairing k n σ x1 x2 = some (r, σ')) : Met l yX9_findPairing wsX9_findPairing ({ frames := 1, cells := 0, slots := 0, locals := 23 } : Room) (fqPc (TM cy) ZM D cy ad sz n σ [.ref (ad 0), .int x1, .int x2]) (fqQi (TM cy) ZM D ad sz n σ r σ') 0 0 (fqA (TM cy) ZM ad sz n σ) := by
  refine fq_enter_z (cc := cX9_findPairing) (maxL := 7) (own := RX9) _ (by decide) rfl (Nat.le_of_ble_eq_true rfl) rfl (fun X E hret => ?_)
  unfold pX9_findPairing at hf
  show fqG X (TM cy) ZM ad n 7 0 0 σ 0 [(0, .ref (ad 0)), (1, .int x1), (2, .int x2)] []
  refine g_aload_n (pc := 0) E dX9_findPairing_0 0 rfl rfl ?_
  refine g_iconst (pc := 1) E (-1 : Int32) dX9_findPairing_1 (by decide) ?_
  refine g_putI (pc := 2) E uX9_findPairing_X9 tyX9 tyX9_ok nmX9 0 (zm_l (by decide)) (fun _ _ => rfl) rfl 26 (by decide) wX9_findPairing_0 rfl rfl (Nat.le_of_ble_eq_true rfl) rfl dX9_findPairing_2 ?_
  obtain ⟨σ1, e2, hf⟩ := fq_n hf
  refine g_sg e2 ?_
  refine g_iconst (pc := 5) E (0 : Int32) dX9_findPairing_5 (by decide) ?_
  refine g_istore_n (pc := 6) E [(3, .int (0 : Int32)), (0, .ref (ad 0)), (1, .int x1), (2, .int x2)] dX9_findPairing_6 rfl (by decide) rfl ?_
  refine g_lv [1, 2, 3, 0] rfl ?_
  exact tX9_findPairing_L7 E hret _ hf

/-! X9_plan -/
theorem wX9_plan_0 : Cond.fieldLink RX9 202 "FairQueueModel" "planned" "I" ∈ wsX9_plan := by decide +kernel
theorem uX9_plan_X9 : ∀ w ∈ u_ws RX9 TX9 33, w ∈ wsX9_plan := (fun _ h => List.mem_cons_of_mem _ (List.mem_append_right _ h))
theorem wX9_plan_2 : Cond.fieldLink RX9 159 "FairQueueModel" "parties" "I" ∈ wsX9_plan := by decide +kernel
theorem wX9_plan_3 : Cond.fieldLink RX9 80 "FairQueueModel" "plannedFirst" "[I" ∈ wsX9_plan := by decide +kernel
theorem wX9_plan_4 : Cond.fieldLink RX9 185 "FairQueueModel" "bestFirst" "I" ∈ wsX9_plan := by decide +kernel
theorem wX9_plan_5 : Cond.fieldLink RX9 83 "FairQueueModel" "plannedSecond" "[I" ∈ wsX9_plan := by decide +kernel
theorem wX9_plan_6 : Cond.fieldLink RX9 192 "FairQueueModel" "bestSecond" "I" ∈ wsX9_plan := by decide +kernel
theorem kcX9_plan : yX9_plan.cls = RX9 ∧ yX9_plan.cls ≠ "java/lang/invoke/MethodHandle" ∧ yX9_plan.cls ≠ "java/lang/invoke/VarHandle" ∧ (parseMethodDescriptor yX9_plan.desc).map (fun d => d.parameters.length) = some 0 := by decide +kernel
def pX9_plan_J89 (k n : Nat) (x1 : Int32) (x2 : Int32) (x3 : Int32) (σ : fqS) (rec27 : (Int32 × Int32 × fqS) → Option fqS) : Option fqS :=
  (if x3 = 0 then (rec27 (x1, x3, σ)) else (if (fqI σ 0 31) < 0 ∨ 5 ≤ Int32.toNatClampNeg (fqI σ 0 31) then none else (fqN (fqPI σ 17 (Int32.toNatClampNeg (fqI σ 0 31)) (fqI σ 0 26)) (fun σ12 => (if (fqI σ12 0 31) < 0 ∨ 5 ≤ Int32.toNatClampNeg (fqI σ12 0 31) then none else (fqN (fqPI σ12 18 (Int32.toNatClampNeg (fqI σ12 0 31)) (fqI σ12 0 27)) (fun σ15 => (fqN (fqPI σ15 0 31 ((fqI σ15 0 31) + (1 : Int32))) (fun σ17 => (rec27 ((x1 &&& (((fqI σ17 0 26) ||| (fqI σ17 0 27)) ^^^ (-1 : Int32))), x3, σ17)))))))))))
def pX9_plan_L44b (k n : Nat) (x1 : Int32) (x2 : Int32) (rec27 : (Int32 × Int32 × fqS) → Option fqS) (rec : (Int32 × Int32 × fqS) → Option fqS) (x3 : Int32) (x4 : Int32) (σ : fqS) : Option fqS :=
  (if (fqI σ 0 11) ≤ x4 then (pX9_plan_J89 k n x1 x2 x3 σ rec27) else (if x3 = 0 then (if ((x1 >>> (x4 &&& 31)) &&& (1 : Int32)) = (1 : Int32) then (fqB2 (pX9_findPairing k n σ x4 x1) (fun r22 σ23 => (if r22 = 0 then (rec ((0 : Int32), (x4 + (1 : Int32)), σ23)) else (rec ((1 : Int32), (x4 + (1 : Int32)), σ23))))) else (rec ((0 : Int32), (x4 + (1 : Int32)), σ))) else (pX9_plan_J89 k n x1 x2 x3 σ rec27)))
def pX9_plan_L44 (k n : Nat) (x1 : Int32) (x2 : Int32) (rec27 : (Int32 × Int32 × fqS) → Option fqS) : (Int32 × Int32 × fqS) → Option fqS := fqL (fun rec (s : (Int32 × Int32 × fqS)) => pX9_plan_L44b k n x1 x2 rec27 rec s.1 s.2.1 s.2.2) k
def pX9_plan_L27b (k n : Nat) (x2 : Int32) (rec : (Int32 × Int32 × fqS) → Option fqS) (x1 : Int32) (x3 : Int32) (σ : fqS) : Option fqS :=
  (if x3 = 0 then some σ else (if x2 ≤ (fqI σ 0 31) then some σ else (pX9_plan_L44 k n x1 x2 rec ((0 : Int32), (0 : Int32), σ))))
def pX9_plan_L27 (k n : Nat) (x2 : Int32) : (Int32 × Int32 × fqS) → Option fqS := fqL (fun rec (s : (Int32 × Int32 × fqS)) => pX9_plan_L27b k n x2 rec s.1 s.2.1 s.2.2) k
def pX9_plan (k n : Nat) (σ : fqS) : Option fqS :=
  ((pX9_laySets k n σ).bind (fun σ2 => (fqN (fqPI σ2 0 31 (0 : Int32)) (fun σ3 => ((pX9_playing k n σ3).bind (fun r6 => (pX9_plan_L27 k n ((5 : Int32) - r6) ((((1 : Int32) <<< ((fqI σ3 0 11) &&& 31)) - (1 : Int32)), (1 : Int32), σ3))))))))
set_option maxRecDepth 100000 in
set_option maxHeartbeats 4000000 in
theorem tX9_plan_J89 {k : Nat} {X : fqX} {cy : Nat → ClassId} {ad : Nat → Nat} {n : Nat} {σ' : fqS} {x1 : Int32} {x2 : Int32} {x3 : Int32} {σ : fqS} (E : fqE X ({ frames := 2, cells := 0, slots := 0, locals := 49 } : Room) cy cX9_plan 5 wsX9_plan RX9) (hret : fqR_v X (TM cy) ZM ad n 5 cX9_plan σ') {rec27 : (Int32 × Int32 × fqS) → Option fqS} (hrec27 : ∀ (s : (Int32 × Int32 × fqS)), rec27 s = some σ' → fqG X (TM cy) ZM ad n 5 0 0 (s.2.2) 27 [(0, .ref (ad 0)), (1, .int (s.1)), (2, .int x2), (3, .int (s.2.1))] []) (hf : pX9_plan_J89 k n x1 x2 x3 σ rec27 = some σ') : fqG X (TM cy) ZM ad n 5 0 0 σ 89 [(0, .ref (ad 0)), (1, .int x1), (2, .int x2), (3, .int x3)] [] := by
  unfold pX9_plan_J89 at hf
  refine g_iload_n (pc := 89) E dX9_plan_89 3 rfl rfl ?_
  refine g_if_eq (pc := 90) E 27 dX9_plan_90 (by decide) (fun c10 => ?_) (fun c10 => ?_)
  · replace hf := fq_t c10 hf
    exact hrec27 _ hf
  · replace hf := fq_f c10 hf
    refine g_aload_n (pc := 93) E dX9_plan_93 0 rfl rfl ?_
    refine g_getfield (pc := 94) E uX9_plan_X9 0 (zm_l (by decide)) (fun _ _ => rfl) rfl 29 (by decide) wX9_plan_3 (.ref (ad 17)) rfl dX9_plan_94 ?_
    refine g_aload_n (pc := 97) E dX9_plan_97 0 rfl rfl ?_
    refine g_getfield (pc := 98) E uX9_plan_X9 0 (zm_l (by decide)) (fun _ _ => rfl) rfl 31 (by decide) wX9_plan_0 (.int (fqI σ 0 31)) rfl dX9_plan_98 ?_
    refine g_aload_n (pc := 101) E dX9_plan_101 0 rfl rfl ?_
    refine g_getfield (pc := 102) E uX9_plan_X9 0 (zm_l (by decide)) (fun _ _ => rfl) rfl 26 (by decide) wX9_plan_4 (.int (fqI σ 0 26)) rfl dX9_plan_102 ?_
    obtain ⟨h11, hf⟩ := fq_in hf
    refine g_iastore (pc := 105) E 17 (zm_l (by decide)) (fun _ _ => rfl) h11 dX9_plan_105 ?_
    obtain ⟨σ12, e13, hf⟩ := fq_n hf
    refine g_sg e13 ?_
    refine g_aload_n (pc := 106) E dX9_plan_106 0 rfl rfl ?_
    refine g_getfield (pc := 107) E uX9_plan_X9 0 (zm_l (by decide)) (fun _ _ => rfl) rfl 30 (by decide) wX9_plan_5 (.ref (ad 18)) rfl dX9_plan_107 ?_
    refine g_aload_n (pc := 110) E dX9_plan_110 0 rfl rfl ?_
    refine g_getfield (pc := 111) E uX9_plan_X9 0 (zm_l (by decide)) (fun _ _ => rfl) rfl 31 (by decide) wX9_plan_0 (.int (fqI σ12 0 31)) rfl dX9_plan_111 ?_
    refine g_aload_n (pc := 114) E dX9_plan_114 0 rfl rfl ?_
    refine g_getfield (pc := 115) E uX9_plan_X9 0 (zm_l (by decide)) (fun _ _ => rfl) rfl 27 (by decide) wX9_plan_6 (.int (fqI σ12 0 27)) rfl dX9_plan_115 ?_
    obtain ⟨h14, hf⟩ := fq_in hf
    refine g_iastore (pc := 118) E 18 (zm_l (by decide)) (fun _ _ => rfl) h14 dX9_plan_118 ?_
    obtain ⟨σ15, e16, hf⟩ := fq_n hf
    refine g_sg e16 ?_
    refine g_aload_n (pc := 119) E dX9_plan_119 0 rfl rfl ?_
    refine g_dup (pc := 120) E dX9_plan_120 rfl ?_
    refine g_getfield (pc := 121) E uX9_plan_X9 0 (zm_l (by decide)) (fun _ _ => rfl) rfl 31 (by decide) wX9_plan_0 (.int (fqI σ15 0 31)) rfl dX9_plan_121 ?_
    refine g_iconst (pc := 124) E (1 : Int32) dX9_plan_124 (by decide) ?_
    refine g_iadd (pc := 125) E dX9_plan_125 ?_
    refine g_putI (pc := 126) E uX9_plan_X9 tyX9 tyX9_ok nmX9 0 (zm_l (by decide)) (fun _ _ => rfl) rfl 31 (by decide) wX9_plan_0 rfl rfl (Nat.le_of_ble_eq_true rfl) rfl dX9_plan_126 ?_
    obtain ⟨σ17, e18, hf⟩ := fq_n hf
    refine g_sg e18 ?_
    refine g_iload_n (pc := 129) E dX9_plan_129 1 rfl rfl ?_
    refine g_aload_n (pc := 130) E dX9_plan_130 0 rfl rfl ?_
    refine g_getfield (pc := 131) E uX9_plan_X9 0 (zm_l (by decide)) (fun _ _ => rfl) rfl 26 (by decide) wX9_plan_4 (.int (fqI σ17 0 26)) rfl dX9_plan_131 ?_
    refine g_aload_n (pc := 134) E dX9_plan_134 0 rfl rfl ?_
    refine g_getfield (pc := 135) E uX9_plan_X9 0 (zm_l (by decide)) (fun _ _ => rfl) rfl 27 (by decide) wX9_plan_6 (.int (fqI σ17 0 27)) rfl dX9_plan_135 ?_
    refine g_ior (pc := 138) E dX9_plan_138 ?_
    refine g_iconst (pc := 139) E (-1 : Int32) dX9_plan_139 (by decide) ?_
    refine g_ixor (pc := 140) E dX9_plan_140 ?_
    refine g_iand (pc := 141) E dX9_plan_141 ?_
    refine g_istore_n (pc := 142) E [(1, .int (x1 &&& (((fqI σ17 0 26) ||| (fqI σ17 0 27)) ^^^ (-1 : Int32)))), (0, .ref (ad 0)), (2, .int x2), (3, .int x3)] dX9_plan_142 rfl (by decide) rfl ?_
    refine g_goto (pc := 143) E 27 dX9_plan_143 (by decide) ?_
    refine g_lv [1, 0, 2, 3] rfl ?_
    exact hrec27 _ hf
set_option maxRecDepth 100000 in
set_option maxHeartbeats 4000000 in
theorem tX9_plan_L44 {k : Nat} {X : fqX} {cy : Nat → ClassId} {ad : Nat → Nat} {n : Nat} {σ' : fqS} {x1 : Int32} {x2 : Int32} (E : fqE X ({ frames := 2, cells := 0, slots := 0, locals := 49 } : Room) cy cX9_plan 5 wsX9_plan RX9) (hret : fqR_v X (TM cy) ZM ad n 5 cX9_plan σ') {rec27 : (Int32 × Int32 × fqS) → Option fqS} (hrec27 : ∀ (s : (Int32 × Int32 × fqS)), rec27 s = some σ' → fqG X (TM cy) ZM ad n 5 0 0 (s.2.2) 27 [(0, .ref (ad 0)), (1, .int (s.1)), (2, .int x2), (3, .int (s.2.1))] []) : ∀ (s : (Int32 × Int32 × fqS)), pX9_plan_L44 k n x1 x2 rec27 s = some σ' → fqG X (TM cy) ZM ad n 5 0 0 (s.2.2) 44 [(0, .ref (ad 0)), (1, .int x1), (2, .int x2), (3, .int (s.1)), (4, .int (s.2.1))] [] := by
  unfold pX9_plan_L44
  refine fqL_run (P := fun (s : (Int32 × Int32 × fqS)) => fqG X (TM cy) ZM ad n 5 0 0 (s.2.2) 44 [(0, .ref (ad 0)), (1, .int x1), (2, .int x2), (3, .int (s.1)), (4, .int (s.2.1))] []) (fun rec s hrec hf => ?_) k
  obtain ⟨x3, x4, σ⟩ := s
  have hf : pX9_plan_L44b k n x1 x2 rec27 rec x3 x4 σ = some σ' := hf
  unfold pX9_plan_L44b at hf
  show fqG X (TM cy) ZM ad n 5 0 0 σ 44 [(0, .ref (ad 0)), (1, .int x1), (2, .int x2), (3, .int x3), (4, .int x4)] []
  refine g_iload (pc := 44) E dX9_plan_44 4 rfl ?_
  refine g_aload_n (pc := 46) E dX9_plan_46 0 rfl rfl ?_
  refine g_getfield (pc := 47) E uX9_plan_X9 0 (zm_l (by decide)) (fun _ _ => rfl) rfl 11 (by decide) wX9_plan_2 (.int (fqI σ 0 11)) rfl dX9_plan_47 ?_
  refine g_icmp_ge (pc := 50) E 89 dX9_plan_50 (by decide) (fun c9 => ?_) (fun c9 => ?_)
  · replace hf := fq_t c9 hf
    refine g_lv [0, 1, 2, 3] rfl ?_
    exact tX9_plan_J89 E hret hrec27 hf
  · replace hf := fq_f c9 hf
    refine g_iload_n (pc := 53) E dX9_plan_53 3 rfl rfl ?_
    refine g_if_ne (pc := 54) E 89 dX9_plan_54 (by decide) (fun c19 => ?_) (fun c19 => ?_)
    · replace hf := fq_f c19 hf
      refine g_lv [0, 1, 2, 3] rfl ?_
      exact tX9_plan_J89 E hret hrec27 hf
    · replace hf := fq_t c19 hf
      refine g_iload_n (pc := 57) E dX9_plan_57 1 rfl rfl ?_
      refine g_iload (pc := 58) E dX9_plan_58 4 rfl ?_
      refine g_ishr (pc := 60) E dX9_plan_60 ?_
      refine g_iconst (pc := 61) E (1 : Int32) dX9_plan_61 (by decide) ?_
      refine g_iand (pc := 62) E dX9_plan_62 ?_
      refine g_iconst (pc := 63) E (1 : Int32) dX9_plan_63 (by decide) ?_
      refine g_icmp_ne (pc := 64) E 81 dX9_plan_64 (by decide) (fun c20 => ?_) (fun c20 => ?_)
      · replace hf := fq_f c20 hf
        refine g_iconst (pc := 81) E (0 : Int32) dX9_plan_81 (by decide) ?_
        refine g_istore_n (pc := 82) E [(3, .int (0 : Int32)), (0, .ref (ad 0)), (1, .int x1), (2, .int x2), (4, .int x4)] dX9_plan_82 rfl (by decide) rfl ?_
        refine g_iinc (pc := 83) E (x4 + (1 : Int32)) [(4, .int (x4 + (1 : Int32))), (3, .int (0 : Int32)), (0, .ref (ad 0)), (1, .int x1), (2, .int x2)] dX9_plan_83 4 rfl rfl (by decide) rfl ?_
        refine g_goto (pc := 86) E 44 dX9_plan_86 (by decide) ?_
        refine g_lv [2, 3, 4, 1, 0] rfl ?_
        exact hrec _ hf
      · replace hf := fq_t c20 hf
        refine g_aload_n (pc := 67) E dX9_plan_67 0 rfl rfl ?_
        refine g_iload (pc := 68) E dX9_plan_68 4 rfl ?_
        refine g_iload_n (pc := 70) E dX9_plan_70 1 rfl rfl ?_
        obtain ⟨r22, σ23, e21, hf⟩ := fq_b2 hf
        refine g_callVi (pc := 71) E 0 (zm_l (by decide)) (fun _ _ => rfl) rfl [.int x4, .int x1] (fun l D sz => qX9_findPairing l D cy ad sz n σ k x4 x1 e21) gX9_plan_X9_findPairing rfl rfl rfl kcX9_findPairing ⟨by decide, by decide⟩ rfl rfl (Nat.le_of_ble_eq_true rfl) dX9_plan_71 ⟨by decide, by decide⟩ ?_
        refine g_if_eq (pc := 74) E 81 dX9_plan_74 (by decide) (fun c24 => ?_) (fun c24 => ?_)
        · replace hf := fq_t c24 hf
          refine g_iconst (pc := 81) E (0 : Int32) dX9_plan_81 (by decide) ?_
          refine g_istore_n (pc := 82) E [(3, .int (0 : Int32)), (0, .ref (ad 0)), (1, .int x1), (2, .int x2), (4, .int x4)] dX9_plan_82 rfl (by decide) rfl ?_
          refine g_iinc (pc := 83) E (x4 + (1 : Int32)) [(4, .int (x4 + (1 : Int32))), (3, .int (0 : Int32)), (0, .ref (ad 0)), (1, .int x1), (2, .int x2)] dX9_plan_83 4 rfl rfl (by decide) rfl ?_
          refine g_goto (pc := 86) E 44 dX9_plan_86 (by decide) ?_
          refine g_lv [2, 3, 4, 1, 0] rfl ?_
          exact hrec _ hf
        · replace hf := fq_f c24 hf
          refine g_iconst (pc := 77) E (1 : Int32) dX9_plan_77 (by decide) ?_
          refine g_goto (pc := 78) E 82 dX9_plan_78 (by decide) ?_
          refine g_istore_n (pc := 82) E [(3, .int (1 : Int32)), (0, .ref (ad 0)), (1, .int x1), (2, .int x2), (4, .int x4)] dX9_plan_82 rfl (by decide) rfl ?_
          refine g_iinc (pc := 83) E (x4 + (1 : Int32)) [(4, .int (x4 + (1 : Int32))), (3, .int (1 : Int32)), (0, .ref (ad 0)), (1, .int x1), (2, .int x2)] dX9_plan_83 4 rfl rfl (by decide) rfl ?_
          refine g_goto (pc := 86) E 44 dX9_plan_86 (by decide) ?_
          refine g_lv [2, 3, 4, 1, 0] rfl ?_
          exact hrec _ hf
set_option maxRecDepth 100000 in
set_option maxHeartbeats 4000000 in
theorem tX9_plan_L27 {k : Nat} {X : fqX} {cy : Nat → ClassId} {ad : Nat → Nat} {n : Nat} {σ' : fqS} {x2 : Int32} (E : fqE X ({ frames := 2, cells := 0, slots := 0, locals := 49 } : Room) cy cX9_plan 5 wsX9_plan RX9) (hret : fqR_v X (TM cy) ZM ad n 5 cX9_plan σ') : ∀ (s : (Int32 × Int32 × fqS)), pX9_plan_L27 k n x2 s = some σ' → fqG X (TM cy) ZM ad n 5 0 0 (s.2.2) 27 [(0, .ref (ad 0)), (1, .int (s.1)), (2, .int x2), (3, .int (s.2.1))] [] := by
  unfold pX9_plan_L27
  refine fqL_run (P := fun (s : (Int32 × Int32 × fqS)) => fqG X (TM cy) ZM ad n 5 0 0 (s.2.2) 27 [(0, .ref (ad 0)), (1, .int (s.1)), (2, .int x2), (3, .int (s.2.1))] []) (fun rec s hrec hf => ?_) k
  obtain ⟨x1, x3, σ⟩ := s
  have hf : pX9_plan_L27b k n x2 rec x1 x3 σ = some σ' := hf
  unfold pX9_plan_L27b at hf
  show fqG X (TM cy) ZM ad n 5 0 0 σ 27 [(0, .ref (ad 0)), (1, .int x1), (2, .int x2), (3, .int x3)] []
  refine g_iload_n (pc := 27) E dX9_plan_27 3 rfl rfl ?_
  refine g_if_eq (pc := 28) E 146 dX9_plan_28 (by decide) (fun c7 => ?_) (fun c7 => ?_)
  · replace hf := fq_t c7 hf
    exact hret _ _ _ dX9_plan_146 (Option.some.inj hf)
  · replace hf := fq_f c7 hf
    refine g_aload_n (pc := 31) E dX9_plan_31 0 rfl rfl ?_
    refine g_getfield (pc := 32) E uX9_plan_X9 0 (zm_l (by decide)) (fun _ _ => rfl) rfl 31 (by decide) wX9_plan_0 (.int (fqI σ 0 31)) rfl dX9_plan_32 ?_
    refine g_iload_n (pc := 35) E dX9_plan_35 2 rfl rfl ?_
    refine g_icmp_ge (pc := 36) E 146 dX9_plan_36 (by decide) (fun c8 => ?_) (fun c8 => ?_)
    · replace hf := fq_t c8 hf
      exact hret _ _ _ dX9_plan_146 (Option.some.inj hf)
    · replace hf := fq_f c8 hf
      refine g_iconst (pc := 39) E (0 : Int32) dX9_plan_39 (by decide) ?_
      refine g_istore_n (pc := 40) E [(3, .int (0 : Int32)), (0, .ref (ad 0)), (1, .int x1), (2, .int x2)] dX9_plan_40 rfl (by decide) rfl ?_
      refine g_iconst (pc := 41) E (0 : Int32) dX9_plan_41 (by decide) ?_
      refine g_istore (pc := 42) E [(4, .int (0 : Int32)), (3, .int (0 : Int32)), (0, .ref (ad 0)), (1, .int x1), (2, .int x2)] dX9_plan_42 (by decide) rfl ?_
      refine g_lv [2, 3, 4, 1, 0] rfl ?_
      exact tX9_plan_L44 E hret hrec _ hf
set_option maxRecDepth 100000 in
set_option maxHeartbeats 4000000 in
theorem qX9_plan (l : Launch) (D : va_G) (cy : Nat → ClassId) (ad : Nat → Nat) (sz n : Nat) (σ : fqS) (k : Nat) {σ' : fqS} (hf : pX9_plan k n σ = some σ') : Met l yX9_plan wsX9_plan ({ frames := 2, cells := 0, slots := 0, locals := 49 } : Room) (fqPc (TM cy) ZM D cy ad sz n σ [.ref (ad 0)]) (fqQv (TM cy) ZM D ad sz n σ σ') 0 0 (fqA (TM cy) ZM ad sz n σ) := by
  refine fq_enter_v (cc := cX9_plan) (maxL := 5) (own := RX9) _ (by decide) rfl (Nat.le_of_ble_eq_true rfl) rfl (fun X E hret => ?_)
  unfold pX9_plan at hf
  show fqG X (TM cy) ZM ad n 5 0 0 σ 0 [(0, .ref (ad 0))] []
  refine g_aload_n (pc := 0) E dX9_plan_0 0 rfl rfl ?_
  obtain ⟨σ2, e1, hf⟩ := fq_b hf
  refine g_callVv (pc := 1) E 0 (zm_l (by decide)) (fun _ _ => rfl) rfl [] (fun l D sz => qX9_laySets l D cy ad sz n σ k e1) gX9_plan_X9_laySets rfl rfl rfl kcX9_laySets ⟨by decide, by decide⟩ rfl rfl (Nat.le_of_ble_eq_true rfl) dX9_plan_1 ⟨by decide, by decide⟩ ?_
  refine g_aload_n (pc := 4) E dX9_plan_4 0 rfl rfl ?_
  refine g_iconst (pc := 5) E (0 : Int32) dX9_plan_5 (by decide) ?_
  refine g_putI (pc := 6) E uX9_plan_X9 tyX9 tyX9_ok nmX9 0 (zm_l (by decide)) (fun _ _ => rfl) rfl 31 (by decide) wX9_plan_0 rfl rfl (Nat.le_of_ble_eq_true rfl) rfl dX9_plan_6 ?_
  obtain ⟨σ3, e4, hf⟩ := fq_n hf
  refine g_sg e4 ?_
  refine g_iconst (pc := 9) E (1 : Int32) dX9_plan_9 (by decide) ?_
  refine g_aload_n (pc := 10) E dX9_plan_10 0 rfl rfl ?_
  refine g_getfield (pc := 11) E uX9_plan_X9 0 (zm_l (by decide)) (fun _ _ => rfl) rfl 11 (by decide) wX9_plan_2 (.int (fqI σ3 0 11)) rfl dX9_plan_11 ?_
  refine g_ishl (pc := 14) E dX9_plan_14 ?_
  refine g_iconst (pc := 15) E (1 : Int32) dX9_plan_15 (by decide) ?_
  refine g_isub (pc := 16) E dX9_plan_16 ?_
  refine g_istore_n (pc := 17) E [(1, .int (((1 : Int32) <<< ((fqI σ3 0 11) &&& 31)) - (1 : Int32))), (0, .ref (ad 0))] dX9_plan_17 rfl (by decide) rfl ?_
  refine g_iconst (pc := 18) E (5 : Int32) dX9_plan_18 (by decide) ?_
  refine g_aload_n (pc := 19) E dX9_plan_19 1 rfl rfl ?_
  obtain ⟨r6, e5, hf⟩ := fq_b hf
  refine g_callVi (pc := 20) E 0 (zm_l (by decide)) (fun _ _ => rfl) rfl [] (fun l D sz => qX9_playing l D cy ad sz n σ3 k e5) gX9_plan_X9_playing rfl rfl rfl kcX9_playing ⟨by decide, by decide⟩ rfl rfl (Nat.le_of_ble_eq_true rfl) dX9_plan_20 ⟨by decide, by decide⟩ ?_
  refine g_isub (pc := 23) E dX9_plan_23 ?_
  refine g_istore_n (pc := 24) E [(2, .int ((5 : Int32) - r6)), (1, .int (((1 : Int32) <<< ((fqI σ3 0 11) &&& 31)) - (1 : Int32))), (0, .ref (ad 0))] dX9_plan_24 rfl (by decide) rfl ?_
  refine g_iconst (pc := 25) E (1 : Int32) dX9_plan_25 (by decide) ?_
  refine g_istore_n (pc := 26) E [(3, .int (1 : Int32)), (2, .int ((5 : Int32) - r6)), (1, .int (((1 : Int32) <<< ((fqI σ3 0 11) &&& 31)) - (1 : Int32))), (0, .ref (ad 0))] dX9_plan_26 rfl (by decide) rfl ?_
  refine g_lv [3, 2, 1, 0] rfl ?_
  exact tX9_plan_L27 E hret _ hf

/-! X9_check -/
theorem wX9_check_0 : Cond.fieldLink RX9 251 "FairQueueModel" "toldMany" "I" ∈ wsX9_check := by decide +kernel
theorem uX9_check_X9 : ∀ w ∈ u_ws RX9 TX9 33, w ∈ wsX9_check := (fun _ h => List.mem_cons_of_mem _ (List.mem_append_right _ h))
theorem wX9_check_2 : Cond.fieldLink RX9 202 "FairQueueModel" "planned" "I" ∈ wsX9_check := by decide +kernel
theorem wX9_check_3 : Cond.constantLong RX9 254 (99) ∈ wsX9_check := by decide +kernel
theorem wX9_check_4 : Cond.fieldLink RX9 68 "FairQueueModel" "told" "[I" ∈ wsX9_check := by decide +kernel
theorem wX9_check_5 : Cond.fieldLink RX9 80 "FairQueueModel" "plannedFirst" "[I" ∈ wsX9_check := by decide +kernel
theorem wX9_check_6 : Cond.fieldLink RX9 83 "FairQueueModel" "plannedSecond" "[I" ∈ wsX9_check := by decide +kernel
theorem kcX9_check : yX9_check.cls = RX9 ∧ yX9_check.cls ≠ "java/lang/invoke/MethodHandle" ∧ yX9_check.cls ≠ "java/lang/invoke/VarHandle" ∧ (parseMethodDescriptor yX9_check.desc).map (fun d => d.parameters.length) = some 0 := by decide +kernel
def pX9_check_L16b (k n : Nat) (x1 : Int32) (rec : (Int32 × fqS) → Option (Int64 × fqS)) (x2 : Int32) (σ : fqS) : Option (Int64 × fqS) :=
  (if (fqI σ 0 31) ≤ x2 then (if x1 ≤ ((2 : Int32) * (fqI σ 0 31)) then some ((0 : Int64), σ) else some ((99 : Int64), σ)) else (if x1 ≤ (((2 : Int32) * x2) + (1 : Int32)) then some (((1 : Int64) + (Int32.toInt64 x2)), σ) else (if ((2 : Int32) * x2) < 0 ∨ 20 ≤ Int32.toNatClampNeg ((2 : Int32) * x2) then none else (if x2 < 0 ∨ 5 ≤ Int32.toNatClampNeg x2 then none else ((pX9_playersOf k n σ (fqI σ 17 (Int32.toNatClampNeg x2))).bind (fun r11 => (if (fqI σ 13 (Int32.toNatClampNeg ((2 : Int32) * x2))) = r11 then (if (((2 : Int32) * x2) + (1 : Int32)) < 0 ∨ 20 ≤ Int32.toNatClampNeg (((2 : Int32) * x2) + (1 : Int32)) then none else ((pX9_playersOf k n σ (fqI σ 18 (Int32.toNatClampNeg x2))).bind (fun r15 => (if (fqI σ 13 (Int32.toNatClampNeg (((2 : Int32) * x2) + (1 : Int32)))) = r15 then (rec ((x2 + (1 : Int32)), σ)) else some (((1 : Int64) + (Int32.toInt64 x2)), σ))))) else some (((1 : Int64) + (Int32.toInt64 x2)), σ))))))))
def pX9_check_L16 (k n : Nat) (x1 : Int32) : (Int32 × fqS) → Option (Int64 × fqS) := fqL (fun rec (s : (Int32 × fqS)) => pX9_check_L16b k n x1 rec s.1 s.2) k
def pX9_check (k n : Nat) (σ : fqS) : Option (Int64 × fqS) :=
  (fqN (fqPI σ 0 21 (0 : Int32)) (fun σ1 => ((pX9_plan k n σ1).bind (fun σ4 => (pX9_check_L16 k n (fqI σ 0 21) ((0 : Int32), σ4))))))
set_option maxRecDepth 100000 in
set_option maxHeartbeats 4000000 in
theorem tX9_check_L16 {k : Nat} {X : fqX} {cy : Nat → ClassId} {ad : Nat → Nat} {n : Nat} {r : Int64} {σ' : fqS} {x1 : Int32} (E : fqE X ({ frames := 3, cells := 0, slots := 0, locals := 73 } : Room) cy cX9_check 4 wsX9_check RX9) (hret : fqR_l X (TM cy) ZM ad n 4 cX9_check r σ') : ∀ (s : (Int32 × fqS)), pX9_check_L16 k n x1 s = some (r, σ') → fqG X (TM cy) ZM ad n 4 0 0 (s.2) 16 [(0, .ref (ad 0)), (1, .int x1), (2, .int (s.1))] [] := by
  unfold pX9_check_L16
  refine fqL_run (P := fun (s : (Int32 × fqS)) => fqG X (TM cy) ZM ad n 4 0 0 (s.2) 16 [(0, .ref (ad 0)), (1, .int x1), (2, .int (s.1))] []) (fun rec s hrec hf => ?_) k
  obtain ⟨x2, σ⟩ := s
  have hf : pX9_check_L16b k n x1 rec x2 σ = some (r, σ') := hf
  unfold pX9_check_L16b at hf
  show fqG X (TM cy) ZM ad n 4 0 0 σ 16 [(0, .ref (ad 0)), (1, .int x1), (2, .int x2)] []
  refine g_iload_n (pc := 16) E dX9_check_16 2 rfl rfl ?_
  refine g_aload_n (pc := 17) E dX9_check_17 0 rfl rfl ?_
  refine g_getfield (pc := 18) E uX9_check_X9 0 (zm_l (by decide)) (fun _ _ => rfl) rfl 31 (by decide) wX9_check_2 (.int (fqI σ 0 31)) rfl dX9_check_18 ?_
  refine g_icmp_ge (pc := 21) E 98 dX9_check_21 (by decide) (fun c5 => ?_) (fun c5 => ?_)
  · replace hf := fq_t c5 hf
    refine g_iload_n (pc := 98) E dX9_check_98 1 rfl rfl ?_
    refine g_iconst (pc := 99) E (2 : Int32) dX9_check_99 (by decide) ?_
    refine g_aload_n (pc := 100) E dX9_check_100 0 rfl rfl ?_
    refine g_getfield (pc := 101) E uX9_check_X9 0 (zm_l (by decide)) (fun _ _ => rfl) rfl 31 (by decide) wX9_check_2 (.int (fqI σ 0 31)) rfl dX9_check_101 ?_
    refine g_imul (pc := 104) E dX9_check_104 ?_
    refine g_icmp_le (pc := 105) E 114 dX9_check_105 (by decide) (fun c6 => ?_) (fun c6 => ?_)
    · replace hf := fq_t c6 hf
      refine g_lconst (pc := 114) E (0 : Int64) dX9_check_114 (by decide) ?_
      exact hret _ _ _ _ dX9_check_115 (Option.some.inj hf)
    · replace hf := fq_f c6 hf
      refine g_ldc2_w (pc := 108) E dX9_check_108 wX9_check_3 ?_
      refine g_goto (pc := 111) E 115 dX9_check_111 (by decide) ?_
      exact hret _ _ _ _ dX9_check_115 (Option.some.inj hf)
  · replace hf := fq_f c5 hf
    refine g_iconst (pc := 24) E (2 : Int32) dX9_check_24 (by decide) ?_
    refine g_iload_n (pc := 25) E dX9_check_25 2 rfl rfl ?_
    refine g_imul (pc := 26) E dX9_check_26 ?_
    refine g_iconst (pc := 27) E (1 : Int32) dX9_check_27 (by decide) ?_
    refine g_iadd (pc := 28) E dX9_check_28 ?_
    refine g_iload_n (pc := 29) E dX9_check_29 1 rfl rfl ?_
    refine g_icmp_ge (pc := 30) E 81 dX9_check_30 (by decide) (fun c7 => ?_) (fun c7 => ?_)
    · replace hf := fq_t c7 hf
      refine g_iconst (pc := 81) E (0 : Int32) dX9_check_81 (by decide) ?_
      refine g_istore_n (pc := 82) E [(3, .int (0 : Int32)), (0, .ref (ad 0)), (1, .int x1), (2, .int x2)] dX9_check_82 rfl (by decide) rfl ?_
      refine g_iload_n (pc := 83) E dX9_check_83 0 rfl rfl ?_
      refine g_if_ne (pc := 84) E 92 dX9_check_84 (by decide) (fun h => absurd (by decide) h) (fun _ => ?_)
      refine g_lconst (pc := 87) E (1 : Int64) dX9_check_87 (by decide) ?_
      refine g_iload_n (pc := 88) E dX9_check_88 3 rfl rfl ?_
      refine g_i2l (pc := 89) E dX9_check_89 ?_
      refine g_ladd (pc := 90) E dX9_check_90 ?_
      exact hret _ _ _ _ dX9_check_91 (Option.some.inj hf)
    · replace hf := fq_f c7 hf
      refine g_aload_n (pc := 33) E dX9_check_33 0 rfl rfl ?_
      refine g_getfield (pc := 34) E uX9_check_X9 0 (zm_l (by decide)) (fun _ _ => rfl) rfl 22 (by decide) wX9_check_4 (.ref (ad 13)) rfl dX9_check_34 ?_
      refine g_iconst (pc := 37) E (2 : Int32) dX9_check_37 (by decide) ?_
      refine g_iload_n (pc := 38) E dX9_check_38 2 rfl rfl ?_
      refine g_imul (pc := 39) E dX9_check_39 ?_
      obtain ⟨h8, hf⟩ := fq_in hf
      refine g_iaload (pc := 40) E 13 (zm_l (by decide)) (fun _ _ => rfl) h8 dX9_check_40 ?_
      refine g_aload_n (pc := 41) E dX9_check_41 0 rfl rfl ?_
      refine g_aload_n (pc := 42) E dX9_check_42 0 rfl rfl ?_
      refine g_getfield (pc := 43) E uX9_check_X9 0 (zm_l (by decide)) (fun _ _ => rfl) rfl 29 (by decide) wX9_check_5 (.ref (ad 17)) rfl dX9_check_43 ?_
      refine g_iload_n (pc := 46) E dX9_check_46 2 rfl rfl ?_
      obtain ⟨h9, hf⟩ := fq_in hf
      refine g_iaload (pc := 47) E 17 (zm_l (by decide)) (fun _ _ => rfl) h9 dX9_check_47 ?_
      obtain ⟨r11, e10, hf⟩ := fq_b hf
      refine g_callVi (pc := 48) E 0 (zm_l (by decide)) (fun _ _ => rfl) rfl [.int (fqI σ 17 (Int32.toNatClampNeg x2))] (fun l D sz => qX9_playersOf l D cy ad sz n σ k (fqI σ 17 (Int32.toNatClampNeg x2)) e10) gX9_check_X9_playersOf rfl rfl rfl kcX9_playersOf ⟨by decide, by decide⟩ rfl rfl (Nat.le_of_ble_eq_true rfl) dX9_check_48 ⟨by decide, by decide⟩ ?_
      refine g_icmp_ne (pc := 51) E 81 dX9_check_51 (by decide) (fun c12 => ?_) (fun c12 => ?_)
      · replace hf := fq_f c12 hf
        refine g_iconst (pc := 81) E (0 : Int32) dX9_check_81 (by decide) ?_
        refine g_istore_n (pc := 82) E [(3, .int (0 : Int32)), (0, .ref (ad 0)), (1, .int x1), (2, .int x2)] dX9_check_82 rfl (by decide) rfl ?_
        refine g_iload_n (pc := 83) E dX9_check_83 0 rfl rfl ?_
        refine g_if_ne (pc := 84) E 92 dX9_check_84 (by decide) (fun h => absurd (by decide) h) (fun _ => ?_)
        refine g_lconst (pc := 87) E (1 : Int64) dX9_check_87 (by decide) ?_
        refine g_iload_n (pc := 88) E dX9_check_88 3 rfl rfl ?_
        refine g_i2l (pc := 89) E dX9_check_89 ?_
        refine g_ladd (pc := 90) E dX9_check_90 ?_
        exact hret _ _ _ _ dX9_check_91 (Option.some.inj hf)
      · replace hf := fq_t c12 hf
        refine g_aload_n (pc := 54) E dX9_check_54 0 rfl rfl ?_
        refine g_getfield (pc := 55) E uX9_check_X9 0 (zm_l (by decide)) (fun _ _ => rfl) rfl 22 (by decide) wX9_check_4 (.ref (ad 13)) rfl dX9_check_55 ?_
        refine g_iconst (pc := 58) E (2 : Int32) dX9_check_58 (by decide) ?_
        refine g_iload_n (pc := 59) E dX9_check_59 2 rfl rfl ?_
        refine g_imul (pc := 60) E dX9_check_60 ?_
        refine g_iconst (pc := 61) E (1 : Int32) dX9_check_61 (by decide) ?_
        refine g_iadd (pc := 62) E dX9_check_62 ?_
        obtain ⟨h13, hf⟩ := fq_in hf
        refine g_iaload (pc := 63) E 13 (zm_l (by decide)) (fun _ _ => rfl) h13 dX9_check_63 ?_
        refine g_aload_n (pc := 64) E dX9_check_64 0 rfl rfl ?_
        refine g_aload_n (pc := 65) E dX9_check_65 0 rfl rfl ?_
        refine g_getfield (pc := 66) E uX9_check_X9 0 (zm_l (by decide)) (fun _ _ => rfl) rfl 30 (by decide) wX9_check_6 (.ref (ad 18)) rfl dX9_check_66 ?_
        refine g_iload_n (pc := 69) E dX9_check_69 2 rfl rfl ?_
        refine g_iaload (pc := 70) E 18 (zm_l (by decide)) (fun _ _ => rfl) h9 dX9_check_70 ?_
        obtain ⟨r15, e14, hf⟩ := fq_b hf
        refine g_callVi (pc := 71) E 0 (zm_l (by decide)) (fun _ _ => rfl) rfl [.int (fqI σ 18 (Int32.toNatClampNeg x2))] (fun l D sz => qX9_playersOf l D cy ad sz n σ k (fqI σ 18 (Int32.toNatClampNeg x2)) e14) gX9_check_X9_playersOf rfl rfl rfl kcX9_playersOf ⟨by decide, by decide⟩ rfl rfl (Nat.le_of_ble_eq_true rfl) dX9_check_71 ⟨by decide, by decide⟩ ?_
        refine g_icmp_ne (pc := 74) E 81 dX9_check_74 (by decide) (fun c16 => ?_) (fun c16 => ?_)
        · replace hf := fq_f c16 hf
          refine g_iconst (pc := 81) E (0 : Int32) dX9_check_81 (by decide) ?_
          refine g_istore_n (pc := 82) E [(3, .int (0 : Int32)), (0, .ref (ad 0)), (1, .int x1), (2, .int x2)] dX9_check_82 rfl (by decide) rfl ?_
          refine g_iload_n (pc := 83) E dX9_check_83 0 rfl rfl ?_
          refine g_if_ne (pc := 84) E 92 dX9_check_84 (by decide) (fun h => absurd (by decide) h) (fun _ => ?_)
          refine g_lconst (pc := 87) E (1 : Int64) dX9_check_87 (by decide) ?_
          refine g_iload_n (pc := 88) E dX9_check_88 3 rfl rfl ?_
          refine g_i2l (pc := 89) E dX9_check_89 ?_
          refine g_ladd (pc := 90) E dX9_check_90 ?_
          exact hret _ _ _ _ dX9_check_91 (Option.some.inj hf)
        · replace hf := fq_t c16 hf
          refine g_iconst (pc := 77) E (1 : Int32) dX9_check_77 (by decide) ?_
          refine g_goto (pc := 78) E 82 dX9_check_78 (by decide) ?_
          refine g_istore_n (pc := 82) E [(3, .int (1 : Int32)), (0, .ref (ad 0)), (1, .int x1), (2, .int x2)] dX9_check_82 rfl (by decide) rfl ?_
          refine g_iload_n (pc := 83) E dX9_check_83 0 rfl rfl ?_
          refine g_if_ne (pc := 84) E 92 dX9_check_84 (by decide) (fun _ => ?_) (fun h => absurd h (by decide))
          refine g_iinc (pc := 92) E (x2 + (1 : Int32)) [(2, .int (x2 + (1 : Int32))), (3, .int (1 : Int32)), (0, .ref (ad 0)), (1, .int x1)] dX9_check_92 3 rfl rfl (by decide) rfl ?_
          refine g_goto (pc := 95) E 16 dX9_check_95 (by decide) ?_
          refine g_lv [2, 3, 0] rfl ?_
          exact hrec _ hf
set_option maxRecDepth 100000 in
set_option maxHeartbeats 4000000 in
theorem qX9_check (l : Launch) (D : va_G) (cy : Nat → ClassId) (ad : Nat → Nat) (sz n : Nat) (σ : fqS) (k : Nat) {r : Int64} {σ' : fqS} (hf : pX9_check k n σ = some (r, σ')) : Met l yX9_check wsX9_check ({ frames := 3, cells := 0, slots := 0, locals := 73 } : Room) (fqPc (TM cy) ZM D cy ad sz n σ [.ref (ad 0)]) (fqQl (TM cy) ZM D ad sz n σ r σ') 0 0 (fqA (TM cy) ZM ad sz n σ) := by
  refine fq_enter_l (cc := cX9_check) (maxL := 4) (own := RX9) _ (by decide) rfl (Nat.le_of_ble_eq_true rfl) rfl (fun X E hret => ?_)
  unfold pX9_check at hf
  show fqG X (TM cy) ZM ad n 4 0 0 σ 0 [(0, .ref (ad 0))] []
  refine g_aload_n (pc := 0) E dX9_check_0 0 rfl rfl ?_
  refine g_getfield (pc := 1) E uX9_check_X9 0 (zm_l (by decide)) (fun _ _ => rfl) rfl 21 (by decide) wX9_check_0 (.int (fqI σ 0 21)) rfl dX9_check_1 ?_
  refine g_istore_n (pc := 4) E [(1, .int (fqI σ 0 21)), (0, .ref (ad 0))] dX9_check_4 rfl (by decide) rfl ?_
  refine g_aload_n (pc := 5) E dX9_check_5 1 rfl rfl ?_
  refine g_iconst (pc := 6) E (0 : Int32) dX9_check_6 (by decide) ?_
  refine g_putI (pc := 7) E uX9_check_X9 tyX9 tyX9_ok nmX9 0 (zm_l (by decide)) (fun _ _ => rfl) rfl 21 (by decide) wX9_check_0 rfl rfl (Nat.le_of_ble_eq_true rfl) rfl dX9_check_7 ?_
  obtain ⟨σ1, e2, hf⟩ := fq_n hf
  refine g_sg e2 ?_
  refine g_aload_n (pc := 10) E dX9_check_10 1 rfl rfl ?_
  obtain ⟨σ4, e3, hf⟩ := fq_b hf
  refine g_callVv (pc := 11) E 0 (zm_l (by decide)) (fun _ _ => rfl) rfl [] (fun l D sz => qX9_plan l D cy ad sz n σ1 k e3) gX9_check_X9_plan rfl rfl rfl kcX9_plan ⟨by decide, by decide⟩ rfl rfl (Nat.le_of_ble_eq_true rfl) dX9_check_11 ⟨by decide, by decide⟩ ?_
  refine g_iconst (pc := 14) E (0 : Int32) dX9_check_14 (by decide) ?_
  refine g_istore_n (pc := 15) E [(2, .int (0 : Int32)), (1, .int (fqI σ 0 21)), (0, .ref (ad 0))] dX9_check_15 rfl (by decide) rfl ?_
  refine g_lv [2, 1, 0] rfl ?_
  exact tX9_check_L16 E hret _ hf
