/-! X8_season -/
theorem wX8_season_0 : Cond.fieldLink RX8 43 "FairQueue" "matches" "LFairQueue$Matches;" ∈ wsX8_season := by decide +kernel
theorem uX8_season_X8 : ∀ w ∈ u_ws RX8 TX8 13, w ∈ wsX8_season := (fun _ h => List.mem_cons_of_mem _ (List.mem_append_left _ (List.mem_append_left _ (List.mem_append_left _ (List.mem_append_left _ (List.mem_append_right _ h))))))
theorem wX8_season_2 : Cond.fieldLink RX8 10 "FairQueue" "players" "LFairQueue$Players;" ∈ wsX8_season := by decide +kernel
theorem wX8_season_3 : Cond.fieldLink RX8 122 "FairQueue$Players" "number" "I" ∈ wsX8_season := by decide +kernel
theorem uX8_season_X6 : ∀ w ∈ u_ws RX6 TX6 3, w ∈ wsX8_season := (fun _ h => List.mem_cons_of_mem _ (List.mem_append_left _ (List.mem_append_left _ (List.mem_append_left _ (List.mem_append_right _ h)))))
theorem kcX8_season : yX8_season.cls = RX8 ∧ yX8_season.cls ≠ "java/lang/invoke/MethodHandle" ∧ yX8_season.cls ≠ "java/lang/invoke/VarHandle" ∧ (parseMethodDescriptor yX8_season.desc).map (fun d => d.parameters.length) = some 0 := by decide +kernel
def pX8_season (k n : Nat) (σ : fqS) : Option (Int64 × fqS) :=
  ((pX2_going k n σ).bind (fun r2 => (if r2 ≤ 0 then ((pX6_drawToTheMiddle k n σ).bind (fun σ5 => some ((Int32.toInt64 (fqI σ5 1 2)), σ5))) else (fqB2 (pX8_finding k n σ (3 : Int32)) (fun r7 σ8 => some (r7, σ8))))))
set_option maxRecDepth 100000 in
set_option maxHeartbeats 4000000 in
theorem qX8_season (l : Launch) (D : va_G) (cy : Nat → ClassId) (ad : Nat → Nat) (sz n : Nat) (σ : fqS) (k : Nat) {r : Int64} {σ' : fqS} (hf : pX8_season k n σ = some (r, σ')) : Met l yX8_season wsX8_season ({ frames := 3, cells := 0, slots := 0, locals := 65 } : Room) (fqPc (TX cy) ZX D cy ad sz n σ [.ref (ad 0)]) (fqQl (TX cy) ZX D ad sz n σ r σ') 0 0 (fqA (TX cy) ZX ad sz n σ) := by
  refine fq_enter_l (cc := cX8_season) (maxL := 1) (own := RX8) _ (by decide) rfl (Nat.le_of_ble_eq_true rfl) rfl (fun X E hret => ?_)
  unfold pX8_season at hf
  show fqG X (TX cy) ZX ad n 1 0 0 σ 0 [(0, .ref (ad 0))] []
  refine g_aload_n (pc := 0) E dX8_season_0 0 rfl rfl ?_
  refine g_getfield (pc := 1) E uX8_season_X8 0 (zx_l (by decide)) (fun _ _ => rfl) rfl 5 (by decide) wX8_season_0 (.ref (ad 16)) rfl dX8_season_1 ?_
  obtain ⟨r2, e1, hf⟩ := fq_b hf
  refine g_callVi (pc := 4) E 16 (zx_l (by decide)) (fun _ _ => rfl) rfl [] (fun l D sz => qX2_going l D cy ad sz n σ k e1) gX8_season_X2_going rfl rfl rfl kcX2_going ⟨by decide, by decide⟩ rfl rfl (Nat.le_of_ble_eq_true rfl) dX8_season_4 ⟨by decide, by decide⟩ ?_
  refine g_if_le (pc := 7) E 16 dX8_season_7 (by decide) (fun c3 => ?_) (fun c3 => ?_)
  · replace hf := fq_t c3 hf
    refine g_aload_n (pc := 16) E dX8_season_16 0 rfl rfl ?_
    refine g_getfield (pc := 17) E uX8_season_X8 0 (zx_l (by decide)) (fun _ _ => rfl) rfl 0 (by decide) wX8_season_2 (.ref (ad 1)) rfl dX8_season_17 ?_
    obtain ⟨σ5, e4, hf⟩ := fq_b hf
    refine g_callVv (pc := 20) E 1 (zx_l (by decide)) (fun _ _ => rfl) rfl [] (fun l D sz => qX6_drawToTheMiddle l D cy ad sz n σ k e4) gX8_season_X6_drawToTheMiddle rfl rfl rfl kcX6_drawToTheMiddle ⟨by decide, by decide⟩ rfl rfl (Nat.le_of_ble_eq_true rfl) dX8_season_20 ⟨by decide, by decide⟩ ?_
    refine g_aload_n (pc := 23) E dX8_season_23 0 rfl rfl ?_
    refine g_getfield (pc := 24) E uX8_season_X8 0 (zx_l (by decide)) (fun _ _ => rfl) rfl 0 (by decide) wX8_season_2 (.ref (ad 1)) rfl dX8_season_24 ?_
    refine g_getfield (pc := 27) E uX8_season_X6 1 (zx_l (by decide)) (fun _ _ => rfl) rfl 2 (by decide) wX8_season_3 (.int (fqI σ5 1 2)) rfl dX8_season_27 ?_
    refine g_i2l (pc := 30) E dX8_season_30 ?_
    exact hret _ _ _ _ dX8_season_31 (Option.some.inj hf)
  · replace hf := fq_f c3 hf
    refine g_aload_n (pc := 10) E dX8_season_10 0 rfl rfl ?_
    refine g_iconst (pc := 11) E (3 : Int32) dX8_season_11 (by decide) ?_
    obtain ⟨r7, σ8, e6, hf⟩ := fq_b2 hf
    refine g_callVl (pc := 12) E 0 (zx_l (by decide)) (fun _ _ => rfl) rfl [.int (3 : Int32)] (fun l D sz => qX8_finding l D cy ad sz n σ k (3 : Int32) e6) gX8_season_X8_finding rfl rfl rfl kcX8_finding ⟨by decide, by decide⟩ rfl rfl (Nat.le_of_ble_eq_true rfl) dX8_season_12 ⟨by decide, by decide⟩ ?_
    exact hret _ _ _ _ dX8_season_15 (Option.some.inj hf)

/-! X8_share -/
theorem wX8_share_0 : Cond.fieldLink RX8 10 "FairQueue" "players" "LFairQueue$Players;" ∈ wsX8_share := by decide +kernel
theorem uX8_share_X8 : ∀ w ∈ u_ws RX8 TX8 13, w ∈ wsX8_share := (fun _ h => List.mem_cons_of_mem _ (List.mem_append_left _ (List.mem_append_left _ (List.mem_append_right _ h))))
theorem wX8_share_2 : Cond.fieldLink RX8 105 "FairQueue$Player" "shares" "[J" ∈ wsX8_share := by decide +kernel
theorem uX8_share_X5 : ∀ w ∈ u_ws RX5 TX5 5, w ∈ wsX8_share := (fun _ h => List.mem_cons_of_mem _ (List.mem_append_left _ (List.mem_append_right _ h)))
theorem kcX8_share : yX8_share.cls = RX8 ∧ yX8_share.cls ≠ "java/lang/invoke/MethodHandle" ∧ yX8_share.cls ≠ "java/lang/invoke/VarHandle" ∧ (parseMethodDescriptor yX8_share.desc).map (fun d => d.parameters.length) = some 2 := by decide +kernel
def pX8_share (k n : Nat) (σ : fqS) (x1 : Int32) (x2 : Int32) : Option (Int64 × fqS) :=
  ((pX6_at k n σ x1).bind (fun r2 => (fqM r2 ((fqB2 (pX8_finding k n σ (1 : Int32)) (fun r6 σ7 => some (r6, σ7)))) (fun z3 => (if z3 < n then ((pX8_isLevel k n σ x2).bind (fun r9 => (if r9 = 0 then (fqB2 (pX8_finding k n σ (1 : Int32)) (fun r13 σ14 => some (r13, σ14))) else (if x2 < 0 ∨ 7 ≤ Int32.toNatClampNeg x2 then none else some ((fqJ σ (26 + 4 * z3 + 1) (Int32.toNatClampNeg x2)), σ))))) else none)))))
set_option maxRecDepth 100000 in
set_option maxHeartbeats 4000000 in
theorem qX8_share (l : Launch) (D : va_G) (cy : Nat → ClassId) (ad : Nat → Nat) (sz n : Nat) (σ : fqS) (k : Nat) (x1 : Int32) (x2 : Int32) {r : Int64} {σ' : fqS} (hf : pX8_share k n σ x1 x2 = some (r, σ')) : Met l yX8_share wsX8_share ({ frames := 1, cells := 0, slots := 0, locals := 21 } : Room) (fqPc (TX cy) ZX D cy ad sz n σ [.ref (ad 0), .int x1, .int x2]) (fqQl (TX cy) ZX D ad sz n σ r σ') 0 0 (fqA (TX cy) ZX ad sz n σ) := by
  refine fq_enter_l (cc := cX8_share) (maxL := 4) (own := RX8) _ (by decide) rfl (Nat.le_of_ble_eq_true rfl) rfl (fun X E hret => ?_)
  unfold pX8_share at hf
  show fqG X (TX cy) ZX ad n 4 0 0 σ 0 [(0, .ref (ad 0)), (1, .int x1), (2, .int x2)] []
  refine g_aload_n (pc := 0) E dX8_share_0 0 rfl rfl ?_
  refine g_getfield (pc := 1) E uX8_share_X8 0 (zx_l (by decide)) (fun _ _ => rfl) rfl 0 (by decide) wX8_share_0 (.ref (ad 1)) rfl dX8_share_1 ?_
  refine g_iload_n (pc := 4) E dX8_share_4 1 rfl rfl ?_
  obtain ⟨r2, e1, hf⟩ := fq_b hf
  refine g_callVq (pc := 5) E 1 (zx_l (by decide)) (fun _ _ => rfl) rfl [.int x1] (fun l D sz => qX6_at l D cy ad sz n σ k x1 e1) gX8_share_X6_at rfl rfl rfl kcX6_at ⟨by decide, by decide⟩ rfl rfl (Nat.le_of_ble_eq_true rfl) dX8_share_5 ⟨by decide, by decide⟩ ?_
  cases r2 with
  | none =>
    replace hf := fqM_n hf
    refine g_st (st' := [.null]) rfl ?_
    refine g_astore_nN (pc := 8) E [(3, .null), (0, .ref (ad 0)), (1, .int x1), (2, .int x2)] dX8_share_8 rfl (by decide) rfl ?_
    refine g_aload_nN (pc := 9) E dX8_share_9 0 rfl rfl ?_
    refine g_ifnullN (pc := 10) E 20 dX8_share_10 (by decide) ?_
    refine g_aload_n (pc := 20) E dX8_share_20 1 rfl rfl ?_
    refine g_iconst (pc := 21) E (1 : Int32) dX8_share_21 (by decide) ?_
    obtain ⟨r6, σ7, e5, hf⟩ := fq_b2 hf
    refine g_callVl (pc := 22) E 0 (zx_l (by decide)) (fun _ _ => rfl) rfl [.int (1 : Int32)] (fun l D sz => qX8_finding l D cy ad sz n σ k (1 : Int32) e5) gX8_share_X8_finding rfl rfl rfl kcX8_finding ⟨by decide, by decide⟩ rfl rfl (Nat.le_of_ble_eq_true rfl) dX8_share_22 ⟨by decide, by decide⟩ ?_
    exact hret _ _ _ _ dX8_share_25 (Option.some.inj hf)
  | some z3 =>
    obtain ⟨h4, hf⟩ := fq_g (fqM_s hf)
    refine g_st (st' := [.ref (ad (26 + 4 * z3))]) rfl ?_
    refine g_astore_n (pc := 8) E [(3, .ref (ad (26 + 4 * z3))), (0, .ref (ad 0)), (1, .int x1), (2, .int x2)] dX8_share_8 rfl (by decide) rfl ?_
    refine g_aload_n (pc := 9) E dX8_share_9 0 rfl rfl ?_
    refine g_ifnull (pc := 10) E dX8_share_10 ?_
    refine g_iload_n (pc := 13) E dX8_share_13 3 rfl rfl ?_
    obtain ⟨r9, e8, hf⟩ := fq_b hf
    refine g_callSi (pc := 14) E [.int x2] (fun l D sz => qX8_isLevel l D cy ad sz n σ k x2 e8) gX8_share_X8_isLevel rfl rfl rfl kcX8_isLevel ⟨by decide, by decide⟩ rfl rfl (Nat.le_of_ble_eq_true rfl) dX8_share_14 ⟨by decide, by decide⟩ ?_
    refine g_if_ne (pc := 17) E 26 dX8_share_17 (by decide) (fun c10 => ?_) (fun c10 => ?_)
    · replace hf := fq_f c10 hf
      refine g_aload_n (pc := 26) E dX8_share_26 0 rfl rfl ?_
      refine g_getfield (pc := 27) E uX8_share_X5 (26 + 4 * z3) (zx_p0 h4) (tx_p cy ad n z3) rfl 1 (by decide) wX8_share_2 (.ref (ad (26 + 4 * z3 + 1))) rfl dX8_share_27 ?_
      refine g_iload_n (pc := 30) E dX8_share_30 3 rfl rfl ?_
      obtain ⟨h11, hf⟩ := fq_in hf
      refine g_laload (pc := 31) E (26 + 4 * z3 + 1) (zx_p h4 (by decide)) (tx_p1 cy ad n z3) h11 dX8_share_31 ?_
      exact hret _ _ _ _ dX8_share_32 (Option.some.inj hf)
    · replace hf := fq_t c10 hf
      refine g_aload_n (pc := 20) E dX8_share_20 1 rfl rfl ?_
      refine g_iconst (pc := 21) E (1 : Int32) dX8_share_21 (by decide) ?_
      obtain ⟨r13, σ14, e12, hf⟩ := fq_b2 hf
      refine g_callVl (pc := 22) E 0 (zx_l (by decide)) (fun _ _ => rfl) rfl [.int (1 : Int32)] (fun l D sz => qX8_finding l D cy ad sz n σ k (1 : Int32) e12) gX8_share_X8_finding rfl rfl rfl kcX8_finding ⟨by decide, by decide⟩ rfl rfl (Nat.le_of_ble_eq_true rfl) dX8_share_22 ⟨by decide, by decide⟩ ?_
      exact hret _ _ _ _ dX8_share_25 (Option.some.inj hf)

/-! X8_shift -/
theorem wX8_shift_0 : Cond.fieldLink RX8 10 "FairQueue" "players" "LFairQueue$Players;" ∈ wsX8_shift := by decide +kernel
theorem uX8_shift_X8 : ∀ w ∈ u_ws RX8 TX8 13, w ∈ wsX8_shift := (fun _ h => List.mem_cons_of_mem _ (List.mem_append_left _ (List.mem_append_left _ (List.mem_append_right _ h))))
theorem wX8_shift_2 : Cond.fieldLink RX8 105 "FairQueue$Player" "shares" "[J" ∈ wsX8_shift := by decide +kernel
theorem uX8_shift_X5 : ∀ w ∈ u_ws RX5 TX5 5, w ∈ wsX8_shift := (fun _ h => List.mem_cons_of_mem _ (List.mem_append_left _ (List.mem_append_right _ h)))
theorem kcX8_shift : yX8_shift.cls = RX8 ∧ yX8_shift.cls ≠ "java/lang/invoke/MethodHandle" ∧ yX8_shift.cls ≠ "java/lang/invoke/VarHandle" ∧ (parseMethodDescriptor yX8_shift.desc).map (fun d => d.parameters.length) = some 4 := by decide +kernel
def pX8_shift (k n : Nat) (σ : fqS) (x1 : Int32) (x2 : Int32) (x3 : Int32) (x4 : Int32) : Option (Int64 × fqS) :=
  ((pX6_at k n σ x1).bind (fun r2 => (fqM r2 ((fqB2 (pX8_finding k n σ (1 : Int32)) (fun r6 σ7 => some (r6, σ7)))) (fun z3 => (if z3 < n then ((pX8_isLevel k n σ x2).bind (fun r9 => (if r9 = 0 then (fqB2 (pX8_finding k n σ (1 : Int32)) (fun r12 σ13 => some (r12, σ13))) else ((pX8_isLevel k n σ x3).bind (fun r15 => (if r15 = 0 then (fqB2 (pX8_finding k n σ (1 : Int32)) (fun r32 σ33 => some (r32, σ33))) else (if x4 < 0 then (fqB2 (pX8_finding k n σ (1 : Int32)) (fun r19 σ20 => some (r19, σ20))) else (if x2 < 0 ∨ 7 ≤ Int32.toNatClampNeg x2 then none else (if (Int32.toInt64 x4) ≤ (fqJ σ (26 + 4 * z3 + 1) (Int32.toNatClampNeg x2)) then (fqN (fqPJ σ (26 + 4 * z3 + 1) (Int32.toNatClampNeg x2) ((fqJ σ (26 + 4 * z3 + 1) (Int32.toNatClampNeg x2)) - (Int32.toInt64 x4))) (fun σ23 => (if x3 < 0 ∨ 7 ≤ Int32.toNatClampNeg x3 then none else (fqN (fqPJ σ23 (26 + 4 * z3 + 1) (Int32.toNatClampNeg x3) ((fqJ σ23 (26 + 4 * z3 + 1) (Int32.toNatClampNeg x3)) + (Int32.toInt64 x4))) (fun σ26 => some ((fqJ σ26 (26 + 4 * z3 + 1) (Int32.toNatClampNeg x3)), σ26)))))) else (fqB2 (pX8_finding k n σ (1 : Int32)) (fun r29 σ30 => some (r29, σ30)))))))))))) else none)))))
set_option maxRecDepth 100000 in
set_option maxHeartbeats 4000000 in
theorem qX8_shift (l : Launch) (D : va_G) (cy : Nat → ClassId) (ad : Nat → Nat) (sz n : Nat) (σ : fqS) (k : Nat) (x1 : Int32) (x2 : Int32) (x3 : Int32) (x4 : Int32) {r : Int64} {σ' : fqS} (hf : pX8_shift k n σ x1 x2 x3 x4 = some (r, σ')) : Met l yX8_shift wsX8_shift ({ frames := 1, cells := 0, slots := 0, locals := 21 } : Room) (fqPc (TX cy) ZX D cy ad sz n σ [.ref (ad 0), .int x1, .int x2, .int x3, .int x4]) (fqQl (TX cy) ZX D ad sz n σ r σ') 0 0 (fqA (TX cy) ZX ad sz n σ) := by
  refine fq_enter_l (cc := cX8_shift) (maxL := 6) (own := RX8) _ (by decide) rfl (Nat.le_of_ble_eq_true rfl) rfl (fun X E hret => ?_)
  unfold pX8_shift at hf
  show fqG X (TX cy) ZX ad n 6 0 0 σ 0 [(0, .ref (ad 0)), (1, .int x1), (2, .int x2), (3, .int x3), (4, .int x4)] []
  refine g_aload_n (pc := 0) E dX8_shift_0 0 rfl rfl ?_
  refine g_getfield (pc := 1) E uX8_shift_X8 0 (zx_l (by decide)) (fun _ _ => rfl) rfl 0 (by decide) wX8_shift_0 (.ref (ad 1)) rfl dX8_shift_1 ?_
  refine g_iload_n (pc := 4) E dX8_shift_4 1 rfl rfl ?_
  obtain ⟨r2, e1, hf⟩ := fq_b hf
  refine g_callVq (pc := 5) E 1 (zx_l (by decide)) (fun _ _ => rfl) rfl [.int x1] (fun l D sz => qX6_at l D cy ad sz n σ k x1 e1) gX8_shift_X6_at rfl rfl rfl kcX6_at ⟨by decide, by decide⟩ rfl rfl (Nat.le_of_ble_eq_true rfl) dX8_shift_5 ⟨by decide, by decide⟩ ?_
  cases r2 with
  | none =>
    replace hf := fqM_n hf
    refine g_st (st' := [.null]) rfl ?_
    refine g_astoreN (pc := 8) E [(5, .null), (0, .ref (ad 0)), (1, .int x1), (2, .int x2), (3, .int x3), (4, .int x4)] dX8_shift_8 (by decide) rfl ?_
    refine g_aloadN (pc := 10) E dX8_shift_10 0 rfl ?_
    refine g_ifnullN (pc := 12) E 29 dX8_shift_12 (by decide) ?_
    refine g_aload_n (pc := 29) E dX8_shift_29 1 rfl rfl ?_
    refine g_iconst (pc := 30) E (1 : Int32) dX8_shift_30 (by decide) ?_
    obtain ⟨r6, σ7, e5, hf⟩ := fq_b2 hf
    refine g_callVl (pc := 31) E 0 (zx_l (by decide)) (fun _ _ => rfl) rfl [.int (1 : Int32)] (fun l D sz => qX8_finding l D cy ad sz n σ k (1 : Int32) e5) gX8_shift_X8_finding rfl rfl rfl kcX8_finding ⟨by decide, by decide⟩ rfl rfl (Nat.le_of_ble_eq_true rfl) dX8_shift_31 ⟨by decide, by decide⟩ ?_
    exact hret _ _ _ _ dX8_shift_34 (Option.some.inj hf)
  | some z3 =>
    obtain ⟨h4, hf⟩ := fq_g (fqM_s hf)
    refine g_st (st' := [.ref (ad (26 + 4 * z3))]) rfl ?_
    refine g_astore (pc := 8) E [(5, .ref (ad (26 + 4 * z3))), (0, .ref (ad 0)), (1, .int x1), (2, .int x2), (3, .int x3), (4, .int x4)] dX8_shift_8 (by decide) rfl ?_
    refine g_aload (pc := 10) E dX8_shift_10 0 rfl ?_
    refine g_ifnull (pc := 12) E dX8_shift_12 ?_
    refine g_iload_n (pc := 15) E dX8_shift_15 3 rfl rfl ?_
    obtain ⟨r9, e8, hf⟩ := fq_b hf
    refine g_callSi (pc := 16) E [.int x2] (fun l D sz => qX8_isLevel l D cy ad sz n σ k x2 e8) gX8_shift_X8_isLevel rfl rfl rfl kcX8_isLevel ⟨by decide, by decide⟩ rfl rfl (Nat.le_of_ble_eq_true rfl) dX8_shift_16 ⟨by decide, by decide⟩ ?_
    refine g_if_eq (pc := 19) E 29 dX8_shift_19 (by decide) (fun c10 => ?_) (fun c10 => ?_)
    · replace hf := fq_t c10 hf
      refine g_aload_n (pc := 29) E dX8_shift_29 1 rfl rfl ?_
      refine g_iconst (pc := 30) E (1 : Int32) dX8_shift_30 (by decide) ?_
      obtain ⟨r12, σ13, e11, hf⟩ := fq_b2 hf
      refine g_callVl (pc := 31) E 0 (zx_l (by decide)) (fun _ _ => rfl) rfl [.int (1 : Int32)] (fun l D sz => qX8_finding l D cy ad sz n σ k (1 : Int32) e11) gX8_shift_X8_finding rfl rfl rfl kcX8_finding ⟨by decide, by decide⟩ rfl rfl (Nat.le_of_ble_eq_true rfl) dX8_shift_31 ⟨by decide, by decide⟩ ?_
      exact hret _ _ _ _ dX8_shift_34 (Option.some.inj hf)
    · replace hf := fq_f c10 hf
      refine g_iload_n (pc := 22) E dX8_shift_22 4 rfl rfl ?_
      obtain ⟨r15, e14, hf⟩ := fq_b hf
      refine g_callSi (pc := 23) E [.int x3] (fun l D sz => qX8_isLevel l D cy ad sz n σ k x3 e14) gX8_shift_X8_isLevel rfl rfl rfl kcX8_isLevel ⟨by decide, by decide⟩ rfl rfl (Nat.le_of_ble_eq_true rfl) dX8_shift_23 ⟨by decide, by decide⟩ ?_
      refine g_if_ne (pc := 26) E 35 dX8_shift_26 (by decide) (fun c16 => ?_) (fun c16 => ?_)
      · replace hf := fq_f c16 hf
        refine g_iload (pc := 35) E dX8_shift_35 5 rfl ?_
        refine g_if_lt (pc := 37) E 54 dX8_shift_37 (by decide) (fun c17 => ?_) (fun c17 => ?_)
        · replace hf := fq_t c17 hf
          refine g_aload_n (pc := 54) E dX8_shift_54 1 rfl rfl ?_
          refine g_iconst (pc := 55) E (1 : Int32) dX8_shift_55 (by decide) ?_
          obtain ⟨r19, σ20, e18, hf⟩ := fq_b2 hf
          refine g_callVl (pc := 56) E 0 (zx_l (by decide)) (fun _ _ => rfl) rfl [.int (1 : Int32)] (fun l D sz => qX8_finding l D cy ad sz n σ k (1 : Int32) e18) gX8_shift_X8_finding rfl rfl rfl kcX8_finding ⟨by decide, by decide⟩ rfl rfl (Nat.le_of_ble_eq_true rfl) dX8_shift_56 ⟨by decide, by decide⟩ ?_
          exact hret _ _ _ _ dX8_shift_59 (Option.some.inj hf)
        · replace hf := fq_f c17 hf
          refine g_iload (pc := 40) E dX8_shift_40 5 rfl ?_
          refine g_i2l (pc := 42) E dX8_shift_42 ?_
          refine g_aload (pc := 43) E dX8_shift_43 0 rfl ?_
          refine g_getfield (pc := 45) E uX8_shift_X5 (26 + 4 * z3) (zx_p0 h4) (tx_p cy ad n z3) rfl 1 (by decide) wX8_shift_2 (.ref (ad (26 + 4 * z3 + 1))) rfl dX8_shift_45 ?_
          refine g_iload_n (pc := 48) E dX8_shift_48 3 rfl rfl ?_
          obtain ⟨h21, hf⟩ := fq_in hf
          refine g_laload (pc := 49) E (26 + 4 * z3 + 1) (zx_p h4 (by decide)) (tx_p1 cy ad n z3) h21 dX8_shift_49 ?_
          refine g_lif_le (pc := 50) E 60 dX8_shift_50 dX8_shift_51 (by decide) (fun c22 => ?_) (fun c22 => ?_)
          · replace hf := fq_t c22 hf
            refine g_aload (pc := 60) E dX8_shift_60 0 rfl ?_
            refine g_getfield (pc := 62) E uX8_shift_X5 (26 + 4 * z3) (zx_p0 h4) (tx_p cy ad n z3) rfl 1 (by decide) wX8_shift_2 (.ref (ad (26 + 4 * z3 + 1))) rfl dX8_shift_62 ?_
            refine g_iload_n (pc := 65) E dX8_shift_65 3 rfl rfl ?_
            refine g_dup2_11 (pc := 66) E dX8_shift_66 rfl rfl ?_
            refine g_laload (pc := 67) E (26 + 4 * z3 + 1) (zx_p h4 (by decide)) (tx_p1 cy ad n z3) h21 dX8_shift_67 ?_
            refine g_iload (pc := 68) E dX8_shift_68 5 rfl ?_
            refine g_i2l (pc := 70) E dX8_shift_70 ?_
            refine g_lsub (pc := 71) E dX8_shift_71 ?_
            refine g_lastore (pc := 72) E (26 + 4 * z3 + 1) (zx_p h4 (by decide)) (tx_p1 cy ad n z3) h21 dX8_shift_72 ?_
            obtain ⟨σ23, e24, hf⟩ := fq_n hf
            refine g_sg e24 ?_
            refine g_aload (pc := 73) E dX8_shift_73 0 rfl ?_
            refine g_getfield (pc := 75) E uX8_shift_X5 (26 + 4 * z3) (zx_p0 h4) (tx_p cy ad n z3) rfl 1 (by decide) wX8_shift_2 (.ref (ad (26 + 4 * z3 + 1))) rfl dX8_shift_75 ?_
            refine g_iload_n (pc := 78) E dX8_shift_78 4 rfl rfl ?_
            refine g_dup2_11 (pc := 79) E dX8_shift_79 rfl rfl ?_
            obtain ⟨h25, hf⟩ := fq_in hf
            refine g_laload (pc := 80) E (26 + 4 * z3 + 1) (zx_p h4 (by decide)) (tx_p1 cy ad n z3) h25 dX8_shift_80 ?_
            refine g_iload (pc := 81) E dX8_shift_81 5 rfl ?_
            refine g_i2l (pc := 83) E dX8_shift_83 ?_
            refine g_ladd (pc := 84) E dX8_shift_84 ?_
            refine g_lastore (pc := 85) E (26 + 4 * z3 + 1) (zx_p h4 (by decide)) (tx_p1 cy ad n z3) h25 dX8_shift_85 ?_
            obtain ⟨σ26, e27, hf⟩ := fq_n hf
            refine g_sg e27 ?_
            refine g_aload (pc := 86) E dX8_shift_86 0 rfl ?_
            refine g_getfield (pc := 88) E uX8_shift_X5 (26 + 4 * z3) (zx_p0 h4) (tx_p cy ad n z3) rfl 1 (by decide) wX8_shift_2 (.ref (ad (26 + 4 * z3 + 1))) rfl dX8_shift_88 ?_
            refine g_iload_n (pc := 91) E dX8_shift_91 4 rfl rfl ?_
            refine g_laload (pc := 92) E (26 + 4 * z3 + 1) (zx_p h4 (by decide)) (tx_p1 cy ad n z3) h25 dX8_shift_92 ?_
            exact hret _ _ _ _ dX8_shift_93 (Option.some.inj hf)
          · replace hf := fq_f c22 hf
            refine g_aload_n (pc := 54) E dX8_shift_54 1 rfl rfl ?_
            refine g_iconst (pc := 55) E (1 : Int32) dX8_shift_55 (by decide) ?_
            obtain ⟨r29, σ30, e28, hf⟩ := fq_b2 hf
            refine g_callVl (pc := 56) E 0 (zx_l (by decide)) (fun _ _ => rfl) rfl [.int (1 : Int32)] (fun l D sz => qX8_finding l D cy ad sz n σ k (1 : Int32) e28) gX8_shift_X8_finding rfl rfl rfl kcX8_finding ⟨by decide, by decide⟩ rfl rfl (Nat.le_of_ble_eq_true rfl) dX8_shift_56 ⟨by decide, by decide⟩ ?_
            exact hret _ _ _ _ dX8_shift_59 (Option.some.inj hf)
      · replace hf := fq_t c16 hf
        refine g_aload_n (pc := 29) E dX8_shift_29 1 rfl rfl ?_
        refine g_iconst (pc := 30) E (1 : Int32) dX8_shift_30 (by decide) ?_
        obtain ⟨r32, σ33, e31, hf⟩ := fq_b2 hf
        refine g_callVl (pc := 31) E 0 (zx_l (by decide)) (fun _ _ => rfl) rfl [.int (1 : Int32)] (fun l D sz => qX8_finding l D cy ad sz n σ k (1 : Int32) e31) gX8_shift_X8_finding rfl rfl rfl kcX8_finding ⟨by decide, by decide⟩ rfl rfl (Nat.le_of_ble_eq_true rfl) dX8_shift_31 ⟨by decide, by decide⟩ ?_
        exact hret _ _ _ _ dX8_shift_34 (Option.some.inj hf)

/-! X8_sinking -/
theorem wX8_sinking_0 : Cond.fieldLink RX8 10 "FairQueue" "players" "LFairQueue$Players;" ∈ wsX8_sinking := by decide +kernel
theorem uX8_sinking_X8 : ∀ w ∈ u_ws RX8 TX8 13, w ∈ wsX8_sinking := (fun _ h => List.mem_cons_of_mem _ (List.mem_append_left _ (List.mem_append_left _ (List.mem_append_right _ h))))
theorem wX8_sinking_2 : Cond.fieldLink RX8 251 "FairQueue$Player" "kept" "I" ∈ wsX8_sinking := by decide +kernel
theorem uX8_sinking_X5 : ∀ w ∈ u_ws RX5 TX5 5, w ∈ wsX8_sinking := (fun _ h => List.mem_cons_of_mem _ (List.mem_append_left _ (List.mem_append_right _ h)))
theorem wX8_sinking_4 : Cond.fieldLink RX8 70 "FairQueue" "limit" "J" ∈ wsX8_sinking := by decide +kernel
theorem kcX8_sinking : yX8_sinking.cls = RX8 ∧ yX8_sinking.cls ≠ "java/lang/invoke/MethodHandle" ∧ yX8_sinking.cls ≠ "java/lang/invoke/VarHandle" ∧ (parseMethodDescriptor yX8_sinking.desc).map (fun d => d.parameters.length) = some 0 := by decide +kernel
def pX8_sinking_L4b (k n : Nat) (σ : fqS) (rec : (Int32 × Int32) → Option Int64) (x1 : Int32) (x2 : Int32) : Option Int64 :=
  (if (16 : Int32) ≤ x2 then some (Int32.toInt64 x1) else ((pX6_at k n σ x2).bind (fun r3 => (fqM r3 ((rec (x1, (x2 + (1 : Int32))))) (fun z4 => (if z4 < n then (if (fqI σ (26 + 4 * z4) 4) < (5 : Int32) then (rec (x1, (x2 + (1 : Int32)))) else ((pX5_sumOfSurprises k n σ z4).bind (fun r8 => (if (-(fqJ σ 0 11)) ≤ r8 then (rec (x1, (x2 + (1 : Int32)))) else ((pX8_bitOf k n σ x2).bind (fun r11 => (rec ((x1 ||| r11), (x2 + (1 : Int32)))))))))) else none))))))
def pX8_sinking_L4 (k n : Nat) (σ : fqS) : (Int32 × Int32) → Option Int64 := fqL (fun rec (s : (Int32 × Int32)) => pX8_sinking_L4b k n σ rec s.1 s.2) k
def pX8_sinking (k n : Nat) (σ : fqS) : Option Int64 :=
  (pX8_sinking_L4 k n σ ((0 : Int32), (0 : Int32)))
set_option maxRecDepth 100000 in
set_option maxHeartbeats 4000000 in
theorem tX8_sinking_L4 {k : Nat} {X : fqX} {cy : Nat → ClassId} {ad : Nat → Nat} {n : Nat} {σ : fqS} {r : Int64} (E : fqE X ({ frames := 1, cells := 0, slots := 0, locals := 23 } : Room) cy cX8_sinking 4 wsX8_sinking RX8) (hret : fqR_l X (TX cy) ZX ad n 4 cX8_sinking r σ) : ∀ (s : (Int32 × Int32)), pX8_sinking_L4 k n σ s = some r → fqG X (TX cy) ZX ad n 4 0 0 σ 4 [(0, .ref (ad 0)), (1, .int (s.1)), (2, .int (s.2))] [] := by
  unfold pX8_sinking_L4
  refine fqL_run (P := fun (s : (Int32 × Int32)) => fqG X (TX cy) ZX ad n 4 0 0 σ 4 [(0, .ref (ad 0)), (1, .int (s.1)), (2, .int (s.2))] []) (fun rec s hrec hf => ?_) k
  obtain ⟨x1, x2⟩ := s
  have hf : pX8_sinking_L4b k n σ rec x1 x2 = some r := hf
  unfold pX8_sinking_L4b at hf
  show fqG X (TX cy) ZX ad n 4 0 0 σ 4 [(0, .ref (ad 0)), (1, .int x1), (2, .int x2)] []
  refine g_iload_n (pc := 4) E dX8_sinking_4 2 rfl rfl ?_
  refine g_bipush (pc := 5) E (16 : Int32) dX8_sinking_5 (by decide) ?_
  refine g_icmp_ge (pc := 7) E 57 dX8_sinking_7 (by decide) (fun c1 => ?_) (fun c1 => ?_)
  · replace hf := fq_t c1 hf
    refine g_iload_n (pc := 57) E dX8_sinking_57 1 rfl rfl ?_
    refine g_i2l (pc := 58) E dX8_sinking_58 ?_
    exact hret _ _ _ _ dX8_sinking_59 (congrArg (fun z => (z, σ)) (Option.some.inj hf))
  · replace hf := fq_f c1 hf
    refine g_aload_n (pc := 10) E dX8_sinking_10 0 rfl rfl ?_
    refine g_getfield (pc := 11) E uX8_sinking_X8 0 (zx_l (by decide)) (fun _ _ => rfl) rfl 0 (by decide) wX8_sinking_0 (.ref (ad 1)) rfl dX8_sinking_11 ?_
    refine g_iload_n (pc := 14) E dX8_sinking_14 2 rfl rfl ?_
    obtain ⟨r3, e2, hf⟩ := fq_b hf
    refine g_callVq (pc := 15) E 1 (zx_l (by decide)) (fun _ _ => rfl) rfl [.int x2] (fun l D sz => qX6_at l D cy ad sz n σ k x2 e2) gX8_sinking_X6_at rfl rfl rfl kcX6_at ⟨by decide, by decide⟩ rfl rfl (Nat.le_of_ble_eq_true rfl) dX8_sinking_15 ⟨by decide, by decide⟩ ?_
    cases r3 with
    | none =>
      replace hf := fqM_n hf
      refine g_st (st' := [.null]) rfl ?_
      refine g_astore_nN (pc := 18) E [(3, .null), (0, .ref (ad 0)), (1, .int x1), (2, .int x2)] dX8_sinking_18 rfl (by decide) rfl ?_
      refine g_aload_nN (pc := 19) E dX8_sinking_19 0 rfl rfl ?_
      refine g_ifnullN (pc := 20) E 51 dX8_sinking_20 (by decide) ?_
      refine g_iinc (pc := 51) E (x2 + (1 : Int32)) [(2, .int (x2 + (1 : Int32))), (3, .null), (0, .ref (ad 0)), (1, .int x1)] dX8_sinking_51 3 rfl rfl (by decide) rfl ?_
      refine g_goto (pc := 54) E 4 dX8_sinking_54 (by decide) ?_
      refine g_lv [2, 3, 0] rfl ?_
      exact hrec _ hf
    | some z4 =>
      obtain ⟨h5, hf⟩ := fq_g (fqM_s hf)
      refine g_st (st' := [.ref (ad (26 + 4 * z4))]) rfl ?_
      refine g_astore_n (pc := 18) E [(3, .ref (ad (26 + 4 * z4))), (0, .ref (ad 0)), (1, .int x1), (2, .int x2)] dX8_sinking_18 rfl (by decide) rfl ?_
      refine g_aload_n (pc := 19) E dX8_sinking_19 0 rfl rfl ?_
      refine g_ifnull (pc := 20) E dX8_sinking_20 ?_
      refine g_aload_n (pc := 23) E dX8_sinking_23 0 rfl rfl ?_
      refine g_getfield (pc := 24) E uX8_sinking_X5 (26 + 4 * z4) (zx_p0 h5) (tx_p cy ad n z4) rfl 4 (by decide) wX8_sinking_2 (.int (fqI σ (26 + 4 * z4) 4)) rfl dX8_sinking_24 ?_
      refine g_iconst (pc := 27) E (5 : Int32) dX8_sinking_27 (by decide) ?_
      refine g_icmp_lt (pc := 28) E 51 dX8_sinking_28 (by decide) (fun c6 => ?_) (fun c6 => ?_)
      · replace hf := fq_t c6 hf
        refine g_iinc (pc := 51) E (x2 + (1 : Int32)) [(2, .int (x2 + (1 : Int32))), (3, .ref (ad (26 + 4 * z4))), (0, .ref (ad 0)), (1, .int x1)] dX8_sinking_51 3 rfl rfl (by decide) rfl ?_
        refine g_goto (pc := 54) E 4 dX8_sinking_54 (by decide) ?_
        refine g_lv [2, 3, 0] rfl ?_
        exact hrec _ hf
      · replace hf := fq_f c6 hf
        refine g_aload_n (pc := 31) E dX8_sinking_31 0 rfl rfl ?_
        obtain ⟨r8, e7, hf⟩ := fq_b hf
        refine g_callVl (pc := 32) E (26 + 4 * z4) (zx_p0 h5) (tx_p cy ad n z4) rfl [] (fun l D sz => qX5_sumOfSurprises l D cy ad sz n σ k z4 h5 e7) gX8_sinking_X5_sumOfSurprises rfl rfl rfl kcX5_sumOfSurprises ⟨by decide, by decide⟩ rfl rfl (Nat.le_of_ble_eq_true rfl) dX8_sinking_32 ⟨by decide, by decide⟩ ?_
        refine g_aload_n (pc := 35) E dX8_sinking_35 1 rfl rfl ?_
        refine g_getfield (pc := 36) E uX8_sinking_X8 0 (zx_l (by decide)) (fun _ _ => rfl) rfl 11 (by decide) wX8_sinking_4 (.long (fqJ σ 0 11)) rfl dX8_sinking_36 ?_
        refine g_lneg (pc := 39) E dX8_sinking_39 ?_
        refine g_lif_ge (pc := 40) E 51 dX8_sinking_40 dX8_sinking_41 (by decide) (fun c9 => ?_) (fun c9 => ?_)
        · replace hf := fq_t c9 hf
          refine g_iinc (pc := 51) E (x2 + (1 : Int32)) [(2, .int (x2 + (1 : Int32))), (3, .ref (ad (26 + 4 * z4))), (0, .ref (ad 0)), (1, .int x1)] dX8_sinking_51 3 rfl rfl (by decide) rfl ?_
          refine g_goto (pc := 54) E 4 dX8_sinking_54 (by decide) ?_
          refine g_lv [2, 3, 0] rfl ?_
          exact hrec _ hf
        · replace hf := fq_f c9 hf
          refine g_iload_n (pc := 44) E dX8_sinking_44 2 rfl rfl ?_
          refine g_iload_n (pc := 45) E dX8_sinking_45 3 rfl rfl ?_
          obtain ⟨r11, e10, hf⟩ := fq_b hf
          refine g_callSi (pc := 46) E [.int x2] (fun l D sz => qX8_bitOf l D cy ad sz n σ k x2 e10) gX8_sinking_X8_bitOf rfl rfl rfl kcX8_bitOf ⟨by decide, by decide⟩ rfl rfl (Nat.le_of_ble_eq_true rfl) dX8_sinking_46 ⟨by decide, by decide⟩ ?_
          refine g_ior (pc := 49) E dX8_sinking_49 ?_
          refine g_istore_n (pc := 50) E [(1, .int (x1 ||| r11)), (3, .ref (ad (26 + 4 * z4))), (0, .ref (ad 0)), (2, .int x2)] dX8_sinking_50 rfl (by decide) rfl ?_
          refine g_iinc (pc := 51) E (x2 + (1 : Int32)) [(2, .int (x2 + (1 : Int32))), (1, .int (x1 ||| r11)), (3, .ref (ad (26 + 4 * z4))), (0, .ref (ad 0))] dX8_sinking_51 3 rfl rfl (by decide) rfl ?_
          refine g_goto (pc := 54) E 4 dX8_sinking_54 (by decide) ?_
          refine g_lv [3, 1, 0] rfl ?_
          exact hrec _ hf
set_option maxRecDepth 100000 in
set_option maxHeartbeats 4000000 in
theorem qX8_sinking (l : Launch) (D : va_G) (cy : Nat → ClassId) (ad : Nat → Nat) (sz n : Nat) (σ : fqS) (k : Nat) {r : Int64} (hf : pX8_sinking k n σ = some r) : Met l yX8_sinking wsX8_sinking ({ frames := 1, cells := 0, slots := 0, locals := 23 } : Room) (fqPc (TX cy) ZX D cy ad sz n σ [.ref (ad 0)]) (fqQl (TX cy) ZX D ad sz n σ r σ) 0 0 (fqA (TX cy) ZX ad sz n σ) := by
  refine fq_enter_l (cc := cX8_sinking) (maxL := 4) (own := RX8) _ (by decide) rfl (Nat.le_of_ble_eq_true rfl) rfl (fun X E hret => ?_)
  unfold pX8_sinking at hf
  show fqG X (TX cy) ZX ad n 4 0 0 σ 0 [(0, .ref (ad 0))] []
  refine g_iconst (pc := 0) E (0 : Int32) dX8_sinking_0 (by decide) ?_
  refine g_istore_n (pc := 1) E [(1, .int (0 : Int32)), (0, .ref (ad 0))] dX8_sinking_1 rfl (by decide) rfl ?_
  refine g_iconst (pc := 2) E (0 : Int32) dX8_sinking_2 (by decide) ?_
  refine g_istore_n (pc := 3) E [(2, .int (0 : Int32)), (1, .int (0 : Int32)), (0, .ref (ad 0))] dX8_sinking_3 rfl (by decide) rfl ?_
  refine g_lv [2, 1, 0] rfl ?_
  exact tX8_sinking_L4 E hret _ hf

/-! X8_size -/
theorem wX8_size_0 : Cond.fieldLink RX8 43 "FairQueue" "matches" "LFairQueue$Matches;" ∈ wsX8_size := by decide +kernel
theorem uX8_size_X8 : ∀ w ∈ u_ws RX8 TX8 13, w ∈ wsX8_size := (fun _ h => List.mem_cons_of_mem _ (List.mem_append_left _ (List.mem_append_left _ (List.mem_append_left _ (List.mem_append_right _ h)))))
theorem wX8_size_2 : Cond.fieldLink RX8 19 "FairQueue" "queue" "LFairQueue$Queue;" ∈ wsX8_size := by decide +kernel
theorem wX8_size_3 : Cond.fieldLink RX8 125 "FairQueue$Queue" "waiting" "I" ∈ wsX8_size := by decide +kernel
theorem uX8_size_X7 : ∀ w ∈ u_ws RX7 TX7 3, w ∈ wsX8_size := (fun _ h => List.mem_cons_of_mem _ (List.mem_append_left _ (List.mem_append_left _ (List.mem_append_right _ h))))
theorem wX8_size_5 : Cond.fieldLink RX8 65 "FairQueue" "teamSize" "I" ∈ wsX8_size := by decide +kernel
theorem kcX8_size : yX8_size.cls = RX8 ∧ yX8_size.cls ≠ "java/lang/invoke/MethodHandle" ∧ yX8_size.cls ≠ "java/lang/invoke/VarHandle" ∧ (parseMethodDescriptor yX8_size.desc).map (fun d => d.parameters.length) = some 1 := by decide +kernel
def pX8_size (k n : Nat) (σ : fqS) (x1 : Int32) : Option (Int64 × fqS) :=
  (if x1 < (1 : Int32) then (fqB2 (pX8_finding k n σ (1 : Int32)) (fun r3 σ4 => some (r3, σ4))) else (if x1 ≤ (3 : Int32) then ((pX2_going k n σ).bind (fun r7 => (if 0 < r7 then (fqB2 (pX8_finding k n σ (3 : Int32)) (fun r10 σ11 => some (r10, σ11))) else (if (fqI σ 4 2) ≤ 0 then (fqN (fqPI σ 0 10 x1) (fun σ13 => some ((Int32.toInt64 (fqI σ 0 10)), σ13))) else (fqB2 (pX8_finding k n σ (3 : Int32)) (fun r16 σ17 => some (r16, σ17))))))) else (fqB2 (pX8_finding k n σ (1 : Int32)) (fun r19 σ20 => some (r19, σ20)))))
set_option maxRecDepth 100000 in
set_option maxHeartbeats 4000000 in
theorem qX8_size (l : Launch) (D : va_G) (cy : Nat → ClassId) (ad : Nat → Nat) (sz n : Nat) (σ : fqS) (k : Nat) (x1 : Int32) {r : Int64} {σ' : fqS} (hf : pX8_size k n σ x1 = some (r, σ')) : Met l yX8_size wsX8_size ({ frames := 2, cells := 0, slots := 0, locals := 43 } : Room) (fqPc (TX cy) ZX D cy ad sz n σ [.ref (ad 0), .int x1]) (fqQl (TX cy) ZX D ad sz n σ r σ') 0 0 (fqA (TX cy) ZX ad sz n σ) := by
  refine fq_enter_l (cc := cX8_size) (maxL := 3) (own := RX8) _ (by decide) rfl (Nat.le_of_ble_eq_true rfl) rfl (fun X E hret => ?_)
  unfold pX8_size at hf
  show fqG X (TX cy) ZX ad n 3 0 0 σ 0 [(0, .ref (ad 0)), (1, .int x1)] []
  refine g_iload_n (pc := 0) E dX8_size_0 1 rfl rfl ?_
  refine g_iconst (pc := 1) E (1 : Int32) dX8_size_1 (by decide) ?_
  refine g_icmp_lt (pc := 2) E 10 dX8_size_2 (by decide) (fun c1 => ?_) (fun c1 => ?_)
  · replace hf := fq_t c1 hf
    refine g_aload_n (pc := 10) E dX8_size_10 0 rfl rfl ?_
    refine g_iconst (pc := 11) E (1 : Int32) dX8_size_11 (by decide) ?_
    obtain ⟨r3, σ4, e2, hf⟩ := fq_b2 hf
    refine g_callVl (pc := 12) E 0 (zx_l (by decide)) (fun _ _ => rfl) rfl [.int (1 : Int32)] (fun l D sz => qX8_finding l D cy ad sz n σ k (1 : Int32) e2) gX8_size_X8_finding rfl rfl rfl kcX8_finding ⟨by decide, by decide⟩ rfl rfl (Nat.le_of_ble_eq_true rfl) dX8_size_12 ⟨by decide, by decide⟩ ?_
    exact hret _ _ _ _ dX8_size_15 (Option.some.inj hf)
  · replace hf := fq_f c1 hf
    refine g_iload_n (pc := 5) E dX8_size_5 1 rfl rfl ?_
    refine g_iconst (pc := 6) E (3 : Int32) dX8_size_6 (by decide) ?_
    refine g_icmp_le (pc := 7) E 16 dX8_size_7 (by decide) (fun c5 => ?_) (fun c5 => ?_)
    · replace hf := fq_t c5 hf
      refine g_aload_n (pc := 16) E dX8_size_16 0 rfl rfl ?_
      refine g_getfield (pc := 17) E uX8_size_X8 0 (zx_l (by decide)) (fun _ _ => rfl) rfl 5 (by decide) wX8_size_0 (.ref (ad 16)) rfl dX8_size_17 ?_
      obtain ⟨r7, e6, hf⟩ := fq_b hf
      refine g_callVi (pc := 20) E 16 (zx_l (by decide)) (fun _ _ => rfl) rfl [] (fun l D sz => qX2_going l D cy ad sz n σ k e6) gX8_size_X2_going rfl rfl rfl kcX2_going ⟨by decide, by decide⟩ rfl rfl (Nat.le_of_ble_eq_true rfl) dX8_size_20 ⟨by decide, by decide⟩ ?_
      refine g_if_gt (pc := 23) E 36 dX8_size_23 (by decide) (fun c8 => ?_) (fun c8 => ?_)
      · replace hf := fq_t c8 hf
        refine g_aload_n (pc := 36) E dX8_size_36 0 rfl rfl ?_
        refine g_iconst (pc := 37) E (3 : Int32) dX8_size_37 (by decide) ?_
        obtain ⟨r10, σ11, e9, hf⟩ := fq_b2 hf
        refine g_callVl (pc := 38) E 0 (zx_l (by decide)) (fun _ _ => rfl) rfl [.int (3 : Int32)] (fun l D sz => qX8_finding l D cy ad sz n σ k (3 : Int32) e9) gX8_size_X8_finding rfl rfl rfl kcX8_finding ⟨by decide, by decide⟩ rfl rfl (Nat.le_of_ble_eq_true rfl) dX8_size_38 ⟨by decide, by decide⟩ ?_
        exact hret _ _ _ _ dX8_size_41 (Option.some.inj hf)
      · replace hf := fq_f c8 hf
        refine g_aload_n (pc := 26) E dX8_size_26 0 rfl rfl ?_
        refine g_getfield (pc := 27) E uX8_size_X8 0 (zx_l (by decide)) (fun _ _ => rfl) rfl 1 (by decide) wX8_size_2 (.ref (ad 4)) rfl dX8_size_27 ?_
        refine g_getfield (pc := 30) E uX8_size_X7 4 (zx_q (Or.inl rfl)) (tx_q cy ad n (Or.inl rfl)) rfl 2 (by decide) wX8_size_3 (.int (fqI σ 4 2)) rfl dX8_size_30 ?_
        refine g_if_le (pc := 33) E 42 dX8_size_33 (by decide) (fun c12 => ?_) (fun c12 => ?_)
        · replace hf := fq_t c12 hf
          refine g_aload_n (pc := 42) E dX8_size_42 0 rfl rfl ?_
          refine g_getfield (pc := 43) E uX8_size_X8 0 (zx_l (by decide)) (fun _ _ => rfl) rfl 10 (by decide) wX8_size_5 (.int (fqI σ 0 10)) rfl dX8_size_43 ?_
          refine g_istore_n (pc := 46) E [(2, .int (fqI σ 0 10)), (0, .ref (ad 0)), (1, .int x1)] dX8_size_46 rfl (by decide) rfl ?_
          refine g_aload_n (pc := 47) E dX8_size_47 1 rfl rfl ?_
          refine g_iload_n (pc := 48) E dX8_size_48 2 rfl rfl ?_
          refine g_putI (pc := 49) E uX8_size_X8 tyX8 tyX8_ok nmX8 0 (zx_l (by decide)) (fun _ _ => rfl) rfl 10 (by decide) wX8_size_5 rfl rfl (Nat.le_of_ble_eq_true rfl) rfl dX8_size_49 ?_
          obtain ⟨σ13, e14, hf⟩ := fq_n hf
          refine g_sg e14 ?_
          refine g_iload_n (pc := 52) E dX8_size_52 0 rfl rfl ?_
          refine g_i2l (pc := 53) E dX8_size_53 ?_
          exact hret _ _ _ _ dX8_size_54 (Option.some.inj hf)
        · replace hf := fq_f c12 hf
          refine g_aload_n (pc := 36) E dX8_size_36 0 rfl rfl ?_
          refine g_iconst (pc := 37) E (3 : Int32) dX8_size_37 (by decide) ?_
          obtain ⟨r16, σ17, e15, hf⟩ := fq_b2 hf
          refine g_callVl (pc := 38) E 0 (zx_l (by decide)) (fun _ _ => rfl) rfl [.int (3 : Int32)] (fun l D sz => qX8_finding l D cy ad sz n σ k (3 : Int32) e15) gX8_size_X8_finding rfl rfl rfl kcX8_finding ⟨by decide, by decide⟩ rfl rfl (Nat.le_of_ble_eq_true rfl) dX8_size_38 ⟨by decide, by decide⟩ ?_
          exact hret _ _ _ _ dX8_size_41 (Option.some.inj hf)
    · replace hf := fq_f c5 hf
      refine g_aload_n (pc := 10) E dX8_size_10 0 rfl rfl ?_
      refine g_iconst (pc := 11) E (1 : Int32) dX8_size_11 (by decide) ?_
      obtain ⟨r19, σ20, e18, hf⟩ := fq_b2 hf
      refine g_callVl (pc := 12) E 0 (zx_l (by decide)) (fun _ _ => rfl) rfl [.int (1 : Int32)] (fun l D sz => qX8_finding l D cy ad sz n σ k (1 : Int32) e18) gX8_size_X8_finding rfl rfl rfl kcX8_finding ⟨by decide, by decide⟩ rfl rfl (Nat.le_of_ble_eq_true rfl) dX8_size_12 ⟨by decide, by decide⟩ ?_
      exact hret _ _ _ _ dX8_size_15 (Option.some.inj hf)

/-! X8_surprise -/
theorem wX8_surprise_0 : Cond.fieldLink RX8 10 "FairQueue" "players" "LFairQueue$Players;" ∈ wsX8_surprise := by decide +kernel
theorem uX8_surprise_X8 : ∀ w ∈ u_ws RX8 TX8 13, w ∈ wsX8_surprise := (fun _ h => List.mem_cons_of_mem _ (List.mem_append_left _ (List.mem_append_left _ (List.mem_append_right _ h))))
theorem wX8_surprise_2 : Cond.fieldLink RX8 251 "FairQueue$Player" "kept" "I" ∈ wsX8_surprise := by decide +kernel
theorem uX8_surprise_X5 : ∀ w ∈ u_ws RX5 TX5 5, w ∈ wsX8_surprise := (fun _ h => List.mem_cons_of_mem _ (List.mem_append_left _ (List.mem_append_right _ h)))
theorem wX8_surprise_4 : Cond.fieldLink RX8 257 "FairQueue$Player" "surprises" "[J" ∈ wsX8_surprise := by decide +kernel
theorem kcX8_surprise : yX8_surprise.cls = RX8 ∧ yX8_surprise.cls ≠ "java/lang/invoke/MethodHandle" ∧ yX8_surprise.cls ≠ "java/lang/invoke/VarHandle" ∧ (parseMethodDescriptor yX8_surprise.desc).map (fun d => d.parameters.length) = some 2 := by decide +kernel
def pX8_surprise (k n : Nat) (σ : fqS) (x1 : Int32) (x2 : Int32) : Option (Int64 × fqS) :=
  ((pX6_at k n σ x1).bind (fun r2 => (fqM r2 ((fqB2 (pX8_finding k n σ (1 : Int32)) (fun r6 σ7 => some (r6, σ7)))) (fun z3 => (if z3 < n then (if x2 < (-1 : Int32) then (fqB2 (pX8_finding k n σ (2 : Int32)) (fun r10 σ11 => some (r10, σ11))) else (if (fqI σ (26 + 4 * z3) 4) ≤ x2 then (fqB2 (pX8_finding k n σ (2 : Int32)) (fun r14 σ15 => some (r14, σ15))) else (if (fqI σ (26 + 4 * z3) 4) = 0 then (fqB2 (pX8_finding k n σ (2 : Int32)) (fun r22 σ23 => some (r22, σ23))) else (if x2 = (-1 : Int32) then ((pX5_sumOfSurprises k n σ z3).bind (fun r20 => some (r20, σ))) else (if x2 < 0 ∨ 8 ≤ Int32.toNatClampNeg x2 then none else some ((fqJ σ (26 + 4 * z3 + 3) (Int32.toNatClampNeg x2)), σ)))))) else none)))))
set_option maxRecDepth 100000 in
set_option maxHeartbeats 4000000 in
theorem qX8_surprise (l : Launch) (D : va_G) (cy : Nat → ClassId) (ad : Nat → Nat) (sz n : Nat) (σ : fqS) (k : Nat) (x1 : Int32) (x2 : Int32) {r : Int64} {σ' : fqS} (hf : pX8_surprise k n σ x1 x2 = some (r, σ')) : Met l yX8_surprise wsX8_surprise ({ frames := 1, cells := 0, slots := 0, locals := 23 } : Room) (fqPc (TX cy) ZX D cy ad sz n σ [.ref (ad 0), .int x1, .int x2]) (fqQl (TX cy) ZX D ad sz n σ r σ') 0 0 (fqA (TX cy) ZX ad sz n σ) := by
  refine fq_enter_l (cc := cX8_surprise) (maxL := 4) (own := RX8) _ (by decide) rfl (Nat.le_of_ble_eq_true rfl) rfl (fun X E hret => ?_)
  unfold pX8_surprise at hf
  show fqG X (TX cy) ZX ad n 4 0 0 σ 0 [(0, .ref (ad 0)), (1, .int x1), (2, .int x2)] []
  refine g_aload_n (pc := 0) E dX8_surprise_0 0 rfl rfl ?_
  refine g_getfield (pc := 1) E uX8_surprise_X8 0 (zx_l (by decide)) (fun _ _ => rfl) rfl 0 (by decide) wX8_surprise_0 (.ref (ad 1)) rfl dX8_surprise_1 ?_
  refine g_iload_n (pc := 4) E dX8_surprise_4 1 rfl rfl ?_
  obtain ⟨r2, e1, hf⟩ := fq_b hf
  refine g_callVq (pc := 5) E 1 (zx_l (by decide)) (fun _ _ => rfl) rfl [.int x1] (fun l D sz => qX6_at l D cy ad sz n σ k x1 e1) gX8_surprise_X6_at rfl rfl rfl kcX6_at ⟨by decide, by decide⟩ rfl rfl (Nat.le_of_ble_eq_true rfl) dX8_surprise_5 ⟨by decide, by decide⟩ ?_
  cases r2 with
  | none =>
    replace hf := fqM_n hf
    refine g_st (st' := [.null]) rfl ?_
    refine g_astore_nN (pc := 8) E [(3, .null), (0, .ref (ad 0)), (1, .int x1), (2, .int x2)] dX8_surprise_8 rfl (by decide) rfl ?_
    refine g_aload_nN (pc := 9) E dX8_surprise_9 0 rfl rfl ?_
    refine g_ifnonnullN (pc := 10) E dX8_surprise_10 ?_
    refine g_aload_n (pc := 13) E dX8_surprise_13 1 rfl rfl ?_
    refine g_iconst (pc := 14) E (1 : Int32) dX8_surprise_14 (by decide) ?_
    obtain ⟨r6, σ7, e5, hf⟩ := fq_b2 hf
    refine g_callVl (pc := 15) E 0 (zx_l (by decide)) (fun _ _ => rfl) rfl [.int (1 : Int32)] (fun l D sz => qX8_finding l D cy ad sz n σ k (1 : Int32) e5) gX8_surprise_X8_finding rfl rfl rfl kcX8_finding ⟨by decide, by decide⟩ rfl rfl (Nat.le_of_ble_eq_true rfl) dX8_surprise_15 ⟨by decide, by decide⟩ ?_
    exact hret _ _ _ _ dX8_surprise_18 (Option.some.inj hf)
  | some z3 =>
    obtain ⟨h4, hf⟩ := fq_g (fqM_s hf)
    refine g_st (st' := [.ref (ad (26 + 4 * z3))]) rfl ?_
    refine g_astore_n (pc := 8) E [(3, .ref (ad (26 + 4 * z3))), (0, .ref (ad 0)), (1, .int x1), (2, .int x2)] dX8_surprise_8 rfl (by decide) rfl ?_
    refine g_aload_n (pc := 9) E dX8_surprise_9 0 rfl rfl ?_
    refine g_ifnonnull (pc := 10) E 19 dX8_surprise_10 (by decide) ?_
    refine g_iload_n (pc := 19) E dX8_surprise_19 3 rfl rfl ?_
    refine g_iconst (pc := 20) E (-1 : Int32) dX8_surprise_20 (by decide) ?_
    refine g_icmp_lt (pc := 21) E 39 dX8_surprise_21 (by decide) (fun c8 => ?_) (fun c8 => ?_)
    · replace hf := fq_t c8 hf
      refine g_aload_n (pc := 39) E dX8_surprise_39 1 rfl rfl ?_
      refine g_iconst (pc := 40) E (2 : Int32) dX8_surprise_40 (by decide) ?_
      obtain ⟨r10, σ11, e9, hf⟩ := fq_b2 hf
      refine g_callVl (pc := 41) E 0 (zx_l (by decide)) (fun _ _ => rfl) rfl [.int (2 : Int32)] (fun l D sz => qX8_finding l D cy ad sz n σ k (2 : Int32) e9) gX8_surprise_X8_finding rfl rfl rfl kcX8_finding ⟨by decide, by decide⟩ rfl rfl (Nat.le_of_ble_eq_true rfl) dX8_surprise_41 ⟨by decide, by decide⟩ ?_
      exact hret _ _ _ _ dX8_surprise_44 (Option.some.inj hf)
    · replace hf := fq_f c8 hf
      refine g_iload_n (pc := 24) E dX8_surprise_24 3 rfl rfl ?_
      refine g_aload_n (pc := 25) E dX8_surprise_25 0 rfl rfl ?_
      refine g_getfield (pc := 26) E uX8_surprise_X5 (26 + 4 * z3) (zx_p0 h4) (tx_p cy ad n z3) rfl 4 (by decide) wX8_surprise_2 (.int (fqI σ (26 + 4 * z3) 4)) rfl dX8_surprise_26 ?_
      refine g_icmp_ge (pc := 29) E 39 dX8_surprise_29 (by decide) (fun c12 => ?_) (fun c12 => ?_)
      · replace hf := fq_t c12 hf
        refine g_aload_n (pc := 39) E dX8_surprise_39 1 rfl rfl ?_
        refine g_iconst (pc := 40) E (2 : Int32) dX8_surprise_40 (by decide) ?_
        obtain ⟨r14, σ15, e13, hf⟩ := fq_b2 hf
        refine g_callVl (pc := 41) E 0 (zx_l (by decide)) (fun _ _ => rfl) rfl [.int (2 : Int32)] (fun l D sz => qX8_finding l D cy ad sz n σ k (2 : Int32) e13) gX8_surprise_X8_finding rfl rfl rfl kcX8_finding ⟨by decide, by decide⟩ rfl rfl (Nat.le_of_ble_eq_true rfl) dX8_surprise_41 ⟨by decide, by decide⟩ ?_
        exact hret _ _ _ _ dX8_surprise_44 (Option.some.inj hf)
      · replace hf := fq_f c12 hf
        refine g_aload_n (pc := 32) E dX8_surprise_32 0 rfl rfl ?_
        refine g_getfield (pc := 33) E uX8_surprise_X5 (26 + 4 * z3) (zx_p0 h4) (tx_p cy ad n z3) rfl 4 (by decide) wX8_surprise_2 (.int (fqI σ (26 + 4 * z3) 4)) rfl dX8_surprise_33 ?_
        refine g_if_ne (pc := 36) E 45 dX8_surprise_36 (by decide) (fun c16 => ?_) (fun c16 => ?_)
        · replace hf := fq_f c16 hf
          refine g_iload_n (pc := 45) E dX8_surprise_45 3 rfl rfl ?_
          refine g_iconst (pc := 46) E (-1 : Int32) dX8_surprise_46 (by decide) ?_
          refine g_icmp_ne (pc := 47) E 57 dX8_surprise_47 (by decide) (fun c17 => ?_) (fun c17 => ?_)
          · replace hf := fq_f c17 hf
            refine g_aload_n (pc := 57) E dX8_surprise_57 0 rfl rfl ?_
            refine g_getfield (pc := 58) E uX8_surprise_X5 (26 + 4 * z3) (zx_p0 h4) (tx_p cy ad n z3) rfl 3 (by decide) wX8_surprise_4 (.ref (ad (26 + 4 * z3 + 3))) rfl dX8_surprise_58 ?_
            refine g_iload_n (pc := 61) E dX8_surprise_61 3 rfl rfl ?_
            obtain ⟨h18, hf⟩ := fq_in hf
            refine g_laload (pc := 62) E (26 + 4 * z3 + 3) (zx_p h4 (by decide)) (tx_p3 cy ad n z3) h18 dX8_surprise_62 ?_
            exact hret _ _ _ _ dX8_surprise_63 (Option.some.inj hf)
          · replace hf := fq_t c17 hf
            refine g_aload_n (pc := 50) E dX8_surprise_50 0 rfl rfl ?_
            obtain ⟨r20, e19, hf⟩ := fq_b hf
            refine g_callVl (pc := 51) E (26 + 4 * z3) (zx_p0 h4) (tx_p cy ad n z3) rfl [] (fun l D sz => qX5_sumOfSurprises l D cy ad sz n σ k z3 h4 e19) gX8_surprise_X5_sumOfSurprises rfl rfl rfl kcX5_sumOfSurprises ⟨by decide, by decide⟩ rfl rfl (Nat.le_of_ble_eq_true rfl) dX8_surprise_51 ⟨by decide, by decide⟩ ?_
            refine g_goto (pc := 54) E 63 dX8_surprise_54 (by decide) ?_
            exact hret _ _ _ _ dX8_surprise_63 (Option.some.inj hf)
        · replace hf := fq_t c16 hf
          refine g_aload_n (pc := 39) E dX8_surprise_39 1 rfl rfl ?_
          refine g_iconst (pc := 40) E (2 : Int32) dX8_surprise_40 (by decide) ?_
          obtain ⟨r22, σ23, e21, hf⟩ := fq_b2 hf
          refine g_callVl (pc := 41) E 0 (zx_l (by decide)) (fun _ _ => rfl) rfl [.int (2 : Int32)] (fun l D sz => qX8_finding l D cy ad sz n σ k (2 : Int32) e21) gX8_surprise_X8_finding rfl rfl rfl kcX8_finding ⟨by decide, by decide⟩ rfl rfl (Nat.le_of_ble_eq_true rfl) dX8_surprise_41 ⟨by decide, by decide⟩ ?_
          exact hret _ _ _ _ dX8_surprise_44 (Option.some.inj hf)

/-! X8_tell -/
theorem wX8_tell_0 : Cond.fieldLink RX8 61 "FairQueue" "toldCount" "I" ∈ wsX8_tell := by decide +kernel
theorem uX8_tell_X8 : ∀ w ∈ u_ws RX8 TX8 13, w ∈ wsX8_tell := (fun _ h => List.mem_cons_of_mem _ (List.mem_append_right _ h))
theorem wX8_tell_2 : Cond.fieldLink RX8 54 "FairQueue" "told" "[J" ∈ wsX8_tell := by decide +kernel
theorem kcX8_tell : yX8_tell.cls = RX8 ∧ yX8_tell.cls ≠ "java/lang/invoke/MethodHandle" ∧ yX8_tell.cls ≠ "java/lang/invoke/VarHandle" ∧ (parseMethodDescriptor yX8_tell.desc).map (fun d => d.parameters.length) = some 1 := by decide +kernel
def pX8_tell (k n : Nat) (σ : fqS) (x1 : Int32) : Option (Int64 × fqS) :=
  (if (fqI σ 0 9) < 0 then (fqB2 (pX8_finding k n σ (4 : Int32)) (fun r3 σ4 => some (r3, σ4))) else (if (fqI σ 0 9) < (20 : Int32) then (if (fqI σ 0 9) < 0 ∨ 20 ≤ Int32.toNatClampNeg (fqI σ 0 9) then none else (fqN (fqPJ σ 24 (Int32.toNatClampNeg (fqI σ 0 9)) (Int32.toInt64 x1)) (fun σ7 => (fqN (fqPI σ7 0 9 ((fqI σ7 0 9) + (1 : Int32))) (fun σ9 => some ((Int32.toInt64 (fqI σ9 0 9)), σ9)))))) else (fqB2 (pX8_finding k n σ (4 : Int32)) (fun r12 σ13 => some (r12, σ13)))))
set_option maxRecDepth 100000 in
set_option maxHeartbeats 4000000 in
theorem qX8_tell (l : Launch) (D : va_G) (cy : Nat → ClassId) (ad : Nat → Nat) (sz n : Nat) (σ : fqS) (k : Nat) (x1 : Int32) {r : Int64} {σ' : fqS} (hf : pX8_tell k n σ x1 = some (r, σ')) : Met l yX8_tell wsX8_tell ({ frames := 1, cells := 0, slots := 0, locals := 21 } : Room) (fqPc (TX cy) ZX D cy ad sz n σ [.ref (ad 0), .int x1]) (fqQl (TX cy) ZX D ad sz n σ r σ') 0 0 (fqA (TX cy) ZX ad sz n σ) := by
  refine fq_enter_l (cc := cX8_tell) (maxL := 2) (own := RX8) _ (by decide) rfl (Nat.le_of_ble_eq_true rfl) rfl (fun X E hret => ?_)
  unfold pX8_tell at hf
  show fqG X (TX cy) ZX ad n 2 0 0 σ 0 [(0, .ref (ad 0)), (1, .int x1)] []
  refine g_aload_n (pc := 0) E dX8_tell_0 0 rfl rfl ?_
  refine g_getfield (pc := 1) E uX8_tell_X8 0 (zx_l (by decide)) (fun _ _ => rfl) rfl 9 (by decide) wX8_tell_0 (.int (fqI σ 0 9)) rfl dX8_tell_1 ?_
  refine g_if_lt (pc := 4) E 19 dX8_tell_4 (by decide) (fun c1 => ?_) (fun c1 => ?_)
  · replace hf := fq_t c1 hf
    refine g_aload_n (pc := 19) E dX8_tell_19 0 rfl rfl ?_
    refine g_iconst (pc := 20) E (4 : Int32) dX8_tell_20 (by decide) ?_
    obtain ⟨r3, σ4, e2, hf⟩ := fq_b2 hf
    refine g_callVl (pc := 21) E 0 (zx_l (by decide)) (fun _ _ => rfl) rfl [.int (4 : Int32)] (fun l D sz => qX8_finding l D cy ad sz n σ k (4 : Int32) e2) gX8_tell_X8_finding rfl rfl rfl kcX8_finding ⟨by decide, by decide⟩ rfl rfl (Nat.le_of_ble_eq_true rfl) dX8_tell_21 ⟨by decide, by decide⟩ ?_
    exact hret _ _ _ _ dX8_tell_24 (Option.some.inj hf)
  · replace hf := fq_f c1 hf
    refine g_aload_n (pc := 7) E dX8_tell_7 0 rfl rfl ?_
    refine g_getfield (pc := 8) E uX8_tell_X8 0 (zx_l (by decide)) (fun _ _ => rfl) rfl 9 (by decide) wX8_tell_0 (.int (fqI σ 0 9)) rfl dX8_tell_8 ?_
    refine g_aload_n (pc := 11) E dX8_tell_11 0 rfl rfl ?_
    refine g_getfield (pc := 12) E uX8_tell_X8 0 (zx_l (by decide)) (fun _ _ => rfl) rfl 7 (by decide) wX8_tell_2 (.ref (ad 24)) rfl dX8_tell_12 ?_
    refine g_alen (pc := 15) E 24 (zx_l (by decide)) 1 (fun _ _ => rfl) rfl (20 : Int32) (by rfl) dX8_tell_15 ?_
    refine g_icmp_lt (pc := 16) E 25 dX8_tell_16 (by decide) (fun c5 => ?_) (fun c5 => ?_)
    · replace hf := fq_t c5 hf
      refine g_aload_n (pc := 25) E dX8_tell_25 0 rfl rfl ?_
      refine g_getfield (pc := 26) E uX8_tell_X8 0 (zx_l (by decide)) (fun _ _ => rfl) rfl 7 (by decide) wX8_tell_2 (.ref (ad 24)) rfl dX8_tell_26 ?_
      refine g_aload_n (pc := 29) E dX8_tell_29 0 rfl rfl ?_
      refine g_getfield (pc := 30) E uX8_tell_X8 0 (zx_l (by decide)) (fun _ _ => rfl) rfl 9 (by decide) wX8_tell_0 (.int (fqI σ 0 9)) rfl dX8_tell_30 ?_
      refine g_iload_n (pc := 33) E dX8_tell_33 1 rfl rfl ?_
      refine g_i2l (pc := 34) E dX8_tell_34 ?_
      obtain ⟨h6, hf⟩ := fq_in hf
      refine g_lastore (pc := 35) E 24 (zx_l (by decide)) (fun _ _ => rfl) h6 dX8_tell_35 ?_
      obtain ⟨σ7, e8, hf⟩ := fq_n hf
      refine g_sg e8 ?_
      refine g_aload_n (pc := 36) E dX8_tell_36 0 rfl rfl ?_
      refine g_dup (pc := 37) E dX8_tell_37 rfl ?_
      refine g_getfield (pc := 38) E uX8_tell_X8 0 (zx_l (by decide)) (fun _ _ => rfl) rfl 9 (by decide) wX8_tell_0 (.int (fqI σ7 0 9)) rfl dX8_tell_38 ?_
      refine g_iconst (pc := 41) E (1 : Int32) dX8_tell_41 (by decide) ?_
      refine g_iadd (pc := 42) E dX8_tell_42 ?_
      refine g_putI (pc := 43) E uX8_tell_X8 tyX8 tyX8_ok nmX8 0 (zx_l (by decide)) (fun _ _ => rfl) rfl 9 (by decide) wX8_tell_0 rfl rfl (Nat.le_of_ble_eq_true rfl) rfl dX8_tell_43 ?_
      obtain ⟨σ9, e10, hf⟩ := fq_n hf
      refine g_sg e10 ?_
      refine g_aload_n (pc := 46) E dX8_tell_46 0 rfl rfl ?_
      refine g_getfield (pc := 47) E uX8_tell_X8 0 (zx_l (by decide)) (fun _ _ => rfl) rfl 9 (by decide) wX8_tell_0 (.int (fqI σ9 0 9)) rfl dX8_tell_47 ?_
      refine g_i2l (pc := 50) E dX8_tell_50 ?_
      exact hret _ _ _ _ dX8_tell_51 (Option.some.inj hf)
    · replace hf := fq_f c5 hf
      refine g_aload_n (pc := 19) E dX8_tell_19 0 rfl rfl ?_
      refine g_iconst (pc := 20) E (4 : Int32) dX8_tell_20 (by decide) ?_
      obtain ⟨r12, σ13, e11, hf⟩ := fq_b2 hf
      refine g_callVl (pc := 21) E 0 (zx_l (by decide)) (fun _ _ => rfl) rfl [.int (4 : Int32)] (fun l D sz => qX8_finding l D cy ad sz n σ k (4 : Int32) e11) gX8_tell_X8_finding rfl rfl rfl kcX8_finding ⟨by decide, by decide⟩ rfl rfl (Nat.le_of_ble_eq_true rfl) dX8_tell_21 ⟨by decide, by decide⟩ ?_
      exact hret _ _ _ _ dX8_tell_24 (Option.some.inj hf)

/-! X8_tick -/
theorem wX8_tick_0 : Cond.fieldLink RX8 19 "FairQueue" "queue" "LFairQueue$Queue;" ∈ wsX8_tick := by decide +kernel
theorem uX8_tick_X8 : ∀ w ∈ u_ws RX8 TX8 13, w ∈ wsX8_tick := (fun _ h => List.mem_cons_of_mem _ (List.mem_append_left _ (List.mem_append_left _ (List.mem_append_left _ (List.mem_append_left _ (List.mem_append_left _ (List.mem_append_left _ (List.mem_append_left _ (List.mem_append_left _ (List.mem_append_right _ h))))))))))
theorem wX8_tick_2 : Cond.fieldLink RX8 36 "FairQueue" "plan" "LFairQueue$Plan;" ∈ wsX8_tick := by decide +kernel
theorem wX8_tick_3 : Cond.fieldLink RX8 195 "FairQueue$Plan" "made" "I" ∈ wsX8_tick := by decide +kernel
theorem uX8_tick_X4 : ∀ w ∈ u_ws RX4 TX4 3, w ∈ wsX8_tick := (fun _ h => List.mem_cons_of_mem _ (List.mem_append_left _ (List.mem_append_left _ (List.mem_append_left _ (List.mem_append_left _ (List.mem_append_left _ (List.mem_append_left _ (List.mem_append_left _ (List.mem_append_right _ h)))))))))
theorem wX8_tick_5 : Cond.fieldLink RX8 74 "FairQueue" "tick" "J" ∈ wsX8_tick := by decide +kernel
theorem wX8_tick_6 : Cond.fieldLink RX8 43 "FairQueue" "matches" "LFairQueue$Matches;" ∈ wsX8_tick := by decide +kernel
theorem kcX8_tick : yX8_tick.cls = RX8 ∧ yX8_tick.cls ≠ "java/lang/invoke/MethodHandle" ∧ yX8_tick.cls ≠ "java/lang/invoke/VarHandle" ∧ (parseMethodDescriptor yX8_tick.desc).map (fun d => d.parameters.length) = some 0 := by decide +kernel
def pX8_tick_L10b (k n : Nat) (rec : (Int32 × fqS) → Option (Int64 × fqS)) (x1 : Int32) (σ : fqS) : Option (Int64 × fqS) :=
  (if (fqI σ 13 2) ≤ x1 then (fqN (fqPJ σ 0 12 ((fqJ σ 0 12) + (1 : Int64))) (fun σ4 => some ((Int32.toInt64 (fqI σ4 13 2)), σ4))) else ((pX4_firstAt k n σ x1).bind (fun r7 => ((pX4_secondAt k n σ x1).bind (fun r9 => ((pX2_begin k n σ r7 r9 (fqJ σ 0 12)).bind (fun σ11 => (rec ((x1 + (1 : Int32)), σ11)))))))))
def pX8_tick_L10 (k n : Nat) : (Int32 × fqS) → Option (Int64 × fqS) := fqL (fun rec (s : (Int32 × fqS)) => pX8_tick_L10b k n rec s.1 s.2) k
def pX8_tick (k n : Nat) (σ : fqS) : Option (Int64 × fqS) :=
  ((pX8_planTick k n σ 4).bind (fun σ2 => (pX8_tick_L10 k n ((0 : Int32), σ2))))
set_option maxRecDepth 100000 in
set_option maxHeartbeats 4000000 in
theorem tX8_tick_L10 {k : Nat} {X : fqX} {cy : Nat → ClassId} {ad : Nat → Nat} {n : Nat} {r : Int64} {σ' : fqS} (E : fqE X ({ frames := 6, cells := 0, slots := 0, locals := 134 } : Room) cy cX8_tick 2 wsX8_tick RX8) (hret : fqR_l X (TX cy) ZX ad n 2 cX8_tick r σ') : ∀ (s : (Int32 × fqS)), pX8_tick_L10 k n s = some (r, σ') → fqG X (TX cy) ZX ad n 2 0 0 (s.2) 10 [(0, .ref (ad 0)), (1, .int (s.1))] [] := by
  unfold pX8_tick_L10
  refine fqL_run (P := fun (s : (Int32 × fqS)) => fqG X (TX cy) ZX ad n 2 0 0 (s.2) 10 [(0, .ref (ad 0)), (1, .int (s.1))] []) (fun rec s hrec hf => ?_) k
  obtain ⟨x1, σ⟩ := s
  have hf : pX8_tick_L10b k n rec x1 σ = some (r, σ') := hf
  unfold pX8_tick_L10b at hf
  show fqG X (TX cy) ZX ad n 2 0 0 σ 10 [(0, .ref (ad 0)), (1, .int x1)] []
  refine g_iload_n (pc := 10) E dX8_tick_10 1 rfl rfl ?_
  refine g_aload_n (pc := 11) E dX8_tick_11 0 rfl rfl ?_
  refine g_getfield (pc := 12) E uX8_tick_X8 0 (zx_l (by decide)) (fun _ _ => rfl) rfl 4 (by decide) wX8_tick_2 (.ref (ad 13)) rfl dX8_tick_12 ?_
  refine g_getfield (pc := 15) E uX8_tick_X4 13 (zx_l (by decide)) (fun _ _ => rfl) rfl 2 (by decide) wX8_tick_3 (.int (fqI σ 13 2)) rfl dX8_tick_15 ?_
  refine g_icmp_ge (pc := 18) E 54 dX8_tick_18 (by decide) (fun c3 => ?_) (fun c3 => ?_)
  · replace hf := fq_t c3 hf
    refine g_aload_n (pc := 54) E dX8_tick_54 0 rfl rfl ?_
    refine g_dup (pc := 55) E dX8_tick_55 rfl ?_
    refine g_getfield (pc := 56) E uX8_tick_X8 0 (zx_l (by decide)) (fun _ _ => rfl) rfl 12 (by decide) wX8_tick_5 (.long (fqJ σ 0 12)) rfl dX8_tick_56 ?_
    refine g_lconst (pc := 59) E (1 : Int64) dX8_tick_59 (by decide) ?_
    refine g_ladd (pc := 60) E dX8_tick_60 ?_
    refine g_putJ (pc := 61) E uX8_tick_X8 tyX8 tyX8_ok nmX8 0 (zx_l (by decide)) (fun _ _ => rfl) rfl 12 (by decide) wX8_tick_5 rfl rfl (Nat.le_of_ble_eq_true rfl) rfl dX8_tick_61 ?_
    obtain ⟨σ4, e5, hf⟩ := fq_n hf
    refine g_sg e5 ?_
    refine g_aload_n (pc := 64) E dX8_tick_64 0 rfl rfl ?_
    refine g_getfield (pc := 65) E uX8_tick_X8 0 (zx_l (by decide)) (fun _ _ => rfl) rfl 4 (by decide) wX8_tick_2 (.ref (ad 13)) rfl dX8_tick_65 ?_
    refine g_getfield (pc := 68) E uX8_tick_X4 13 (zx_l (by decide)) (fun _ _ => rfl) rfl 2 (by decide) wX8_tick_3 (.int (fqI σ4 13 2)) rfl dX8_tick_68 ?_
    refine g_i2l (pc := 71) E dX8_tick_71 ?_
    exact hret _ _ _ _ dX8_tick_72 (Option.some.inj hf)
  · replace hf := fq_f c3 hf
    refine g_aload_n (pc := 21) E dX8_tick_21 0 rfl rfl ?_
    refine g_getfield (pc := 22) E uX8_tick_X8 0 (zx_l (by decide)) (fun _ _ => rfl) rfl 5 (by decide) wX8_tick_6 (.ref (ad 16)) rfl dX8_tick_22 ?_
    refine g_aload_n (pc := 25) E dX8_tick_25 0 rfl rfl ?_
    refine g_getfield (pc := 26) E uX8_tick_X8 0 (zx_l (by decide)) (fun _ _ => rfl) rfl 4 (by decide) wX8_tick_2 (.ref (ad 13)) rfl dX8_tick_26 ?_
    refine g_iload_n (pc := 29) E dX8_tick_29 1 rfl rfl ?_
    obtain ⟨r7, e6, hf⟩ := fq_b hf
    refine g_callVi (pc := 30) E 13 (zx_l (by decide)) (fun _ _ => rfl) rfl [.int x1] (fun l D sz => qX4_firstAt l D cy ad sz n σ k x1 e6) gX8_tick_X4_firstAt rfl rfl rfl kcX4_firstAt ⟨by decide, by decide⟩ rfl rfl (Nat.le_of_ble_eq_true rfl) dX8_tick_30 ⟨by decide, by decide⟩ ?_
    refine g_aload_n (pc := 33) E dX8_tick_33 0 rfl rfl ?_
    refine g_getfield (pc := 34) E uX8_tick_X8 0 (zx_l (by decide)) (fun _ _ => rfl) rfl 4 (by decide) wX8_tick_2 (.ref (ad 13)) rfl dX8_tick_34 ?_
    refine g_iload_n (pc := 37) E dX8_tick_37 1 rfl rfl ?_
    obtain ⟨r9, e8, hf⟩ := fq_b hf
    refine g_callVi (pc := 38) E 13 (zx_l (by decide)) (fun _ _ => rfl) rfl [.int x1] (fun l D sz => qX4_secondAt l D cy ad sz n σ k x1 e8) gX8_tick_X4_secondAt rfl rfl rfl kcX4_secondAt ⟨by decide, by decide⟩ rfl rfl (Nat.le_of_ble_eq_true rfl) dX8_tick_38 ⟨by decide, by decide⟩ ?_
    refine g_aload_n (pc := 41) E dX8_tick_41 0 rfl rfl ?_
    refine g_getfield (pc := 42) E uX8_tick_X8 0 (zx_l (by decide)) (fun _ _ => rfl) rfl 12 (by decide) wX8_tick_5 (.long (fqJ σ 0 12)) rfl dX8_tick_42 ?_
    obtain ⟨σ11, e10, hf⟩ := fq_b hf
    refine g_callVv (pc := 45) E 16 (zx_l (by decide)) (fun _ _ => rfl) rfl [.int r7, .int r9, .long (fqJ σ 0 12)] (fun l D sz => qX2_begin l D cy ad sz n σ k r7 r9 (fqJ σ 0 12) e10) gX8_tick_X2_begin rfl rfl rfl kcX2_begin ⟨by decide, by decide⟩ rfl rfl (Nat.le_of_ble_eq_true rfl) dX8_tick_45 ⟨by decide, by decide⟩ ?_
    refine g_iinc (pc := 48) E (x1 + (1 : Int32)) [(1, .int (x1 + (1 : Int32))), (0, .ref (ad 0))] dX8_tick_48 1 rfl rfl (by decide) rfl ?_
    refine g_goto (pc := 51) E 10 dX8_tick_51 (by decide) ?_
    refine g_lv [1, 0] rfl ?_
    exact hrec _ hf
set_option maxRecDepth 100000 in
set_option maxHeartbeats 4000000 in
theorem qX8_tick (l : Launch) (D : va_G) (cy : Nat → ClassId) (ad : Nat → Nat) (sz n : Nat) (σ : fqS) (k : Nat) {r : Int64} {σ' : fqS} (hf : pX8_tick k n σ = some (r, σ')) : Met l yX8_tick wsX8_tick ({ frames := 6, cells := 0, slots := 0, locals := 134 } : Room) (fqPc (TX cy) ZX D cy ad sz n σ [.ref (ad 0)]) (fqQl (TX cy) ZX D ad sz n σ r σ') 0 0 (fqA (TX cy) ZX ad sz n σ) := by
  refine fq_enter_l (cc := cX8_tick) (maxL := 2) (own := RX8) _ (by decide) rfl (Nat.le_of_ble_eq_true rfl) rfl (fun X E hret => ?_)
  unfold pX8_tick at hf
  show fqG X (TX cy) ZX ad n 2 0 0 σ 0 [(0, .ref (ad 0))] []
  refine g_aload_n (pc := 0) E dX8_tick_0 0 rfl rfl ?_
  refine g_aload_n (pc := 1) E dX8_tick_1 0 rfl rfl ?_
  refine g_getfield (pc := 2) E uX8_tick_X8 0 (zx_l (by decide)) (fun _ _ => rfl) rfl 1 (by decide) wX8_tick_0 (.ref (ad 4)) rfl dX8_tick_2 ?_
  obtain ⟨σ2, e1, hf⟩ := fq_b hf
  refine g_callVv (pc := 5) E 0 (zx_l (by decide)) (fun _ _ => rfl) rfl [.ref (ad 4)] (fun l D sz => qX8_planTick l D cy ad sz n σ k 4 (Or.inl rfl) e1) gX8_tick_X8_planTick rfl rfl rfl kcX8_planTick ⟨by decide, by decide⟩ rfl rfl (Nat.le_of_ble_eq_true rfl) dX8_tick_5 ⟨by decide, by decide⟩ ?_
  refine g_iconst (pc := 8) E (0 : Int32) dX8_tick_8 (by decide) ?_
  refine g_istore_n (pc := 9) E [(1, .int (0 : Int32)), (0, .ref (ad 0))] dX8_tick_9 rfl (by decide) rfl ?_
  refine g_lv [1, 0] rfl ?_
  exact tX8_tick_L10 E hret _ hf

/-! X8_wait -/
theorem wX8_wait_0 : Cond.fieldLink RX8 65 "FairQueue" "teamSize" "I" ∈ wsX8_wait := by decide +kernel
theorem uX8_wait_X8 : ∀ w ∈ u_ws RX8 TX8 13, w ∈ wsX8_wait := (fun _ h => List.mem_cons_of_mem _ (List.mem_append_left _ (List.mem_append_left _ (List.mem_append_left _ (List.mem_append_left _ (List.mem_append_right _ h))))))
theorem wX8_wait_2 : Cond.fieldLink RX8 19 "FairQueue" "queue" "LFairQueue$Queue;" ∈ wsX8_wait := by decide +kernel
theorem wX8_wait_3 : Cond.fieldLink RX8 43 "FairQueue" "matches" "LFairQueue$Matches;" ∈ wsX8_wait := by decide +kernel
theorem wX8_wait_4 : Cond.fieldLink RX8 74 "FairQueue" "tick" "J" ∈ wsX8_wait := by decide +kernel
theorem wX8_wait_5 : Cond.fieldLink RX8 125 "FairQueue$Queue" "waiting" "I" ∈ wsX8_wait := by decide +kernel
theorem uX8_wait_X7 : ∀ w ∈ u_ws RX7 TX7 3, w ∈ wsX8_wait := (fun _ h => List.mem_cons_of_mem _ (List.mem_append_left _ (List.mem_append_left _ (List.mem_append_left _ (List.mem_append_right _ h)))))
theorem kcX8_wait : yX8_wait.cls = RX8 ∧ yX8_wait.cls ≠ "java/lang/invoke/MethodHandle" ∧ yX8_wait.cls ≠ "java/lang/invoke/VarHandle" ∧ (parseMethodDescriptor yX8_wait.desc).map (fun d => d.parameters.length) = some 3 := by decide +kernel
def pX8_wait (k n : Nat) (σ : fqS) (x1 : Int32) (x2 : Int32) (x3 : Int32) : Option (Int64 × fqS) :=
  ((pX8_partyOf k n σ x1 x2 x3).bind (fun r2 => (if r2 = 0 then (fqB2 (pX8_finding k n σ (1 : Int32)) (fun r26 σ27 => some (r26, σ27))) else ((pJ6_bitCount_0f7a4 k n σ r2).bind (fun r5 => (if r5 ≤ (fqI σ 0 10) then ((pX7_everybody k n σ 4).bind (fun r8 => ((pX2_everybody k n σ).bind (fun r10 => (if (r2 &&& (r8 ||| r10)) = 0 then (fqB2 (pX7_join k n σ 4 r2 (fqJ σ 0 12)) (fun r13 σ14 => (if r13 = 0 then (fqB2 (pX8_finding k n σ14 (4 : Int32)) (fun r17 σ18 => some (r17, σ18))) else some ((Int32.toInt64 (fqI σ14 4 2)), σ14)))) else (fqB2 (pX8_finding k n σ (3 : Int32)) (fun r20 σ21 => some (r20, σ21)))))))) else (fqB2 (pX8_finding k n σ (5 : Int32)) (fun r23 σ24 => some (r23, σ24)))))))))
set_option maxRecDepth 100000 in
set_option maxHeartbeats 4000000 in
theorem qX8_wait (l : Launch) (D : va_G) (cy : Nat → ClassId) (ad : Nat → Nat) (sz n : Nat) (σ : fqS) (k : Nat) (x1 : Int32) (x2 : Int32) (x3 : Int32) {r : Int64} {σ' : fqS} (hf : pX8_wait k n σ x1 x2 x3 = some (r, σ')) : Met l yX8_wait wsX8_wait ({ frames := 3, cells := 0, slots := 0, locals := 64 } : Room) (fqPc (TX cy) ZX D cy ad sz n σ [.ref (ad 0), .int x1, .int x2, .int x3]) (fqQl (TX cy) ZX D ad sz n σ r σ') 0 0 (fqA (TX cy) ZX ad sz n σ) := by
  refine fq_enter_l (cc := cX8_wait) (maxL := 5) (own := RX8) _ (by decide) rfl (Nat.le_of_ble_eq_true rfl) rfl (fun X E hret => ?_)
  unfold pX8_wait at hf
  show fqG X (TX cy) ZX ad n 5 0 0 σ 0 [(0, .ref (ad 0)), (1, .int x1), (2, .int x2), (3, .int x3)] []
  refine g_aload_n (pc := 0) E dX8_wait_0 0 rfl rfl ?_
  refine g_iload_n (pc := 1) E dX8_wait_1 1 rfl rfl ?_
  refine g_iload_n (pc := 2) E dX8_wait_2 2 rfl rfl ?_
  refine g_iload_n (pc := 3) E dX8_wait_3 3 rfl rfl ?_
  obtain ⟨r2, e1, hf⟩ := fq_b hf
  refine g_callVi (pc := 4) E 0 (zx_l (by decide)) (fun _ _ => rfl) rfl [.int x1, .int x2, .int x3] (fun l D sz => qX8_partyOf l D cy ad sz n σ k x1 x2 x3 e1) gX8_wait_X8_partyOf rfl rfl rfl kcX8_partyOf ⟨by decide, by decide⟩ rfl rfl (Nat.le_of_ble_eq_true rfl) dX8_wait_4 ⟨by decide, by decide⟩ ?_
  refine g_istore (pc := 7) E [(4, .int r2), (0, .ref (ad 0)), (1, .int x1), (2, .int x2), (3, .int x3)] dX8_wait_7 (by decide) rfl ?_
  refine g_iload (pc := 9) E dX8_wait_9 0 rfl ?_
  refine g_if_ne (pc := 11) E 20 dX8_wait_11 (by decide) (fun c3 => ?_) (fun c3 => ?_)
  · replace hf := fq_f c3 hf
    refine g_iload (pc := 20) E dX8_wait_20 0 rfl ?_
    obtain ⟨r5, e4, hf⟩ := fq_b hf
    refine g_callSi (pc := 22) E [.int r2] (fun l D sz => qJ6_bitCount_0f7a4 l D cy ad sz n σ k r2 e4) gX8_wait_J6_bitCount_0f7a4 rfl rfl rfl kcJ6_bitCount_0f7a4 ⟨by decide, by decide⟩ rfl rfl (Nat.le_of_ble_eq_true rfl) dX8_wait_22 ⟨by decide, by decide⟩ ?_
    refine g_aload_n (pc := 25) E dX8_wait_25 1 rfl rfl ?_
    refine g_getfield (pc := 26) E uX8_wait_X8 0 (zx_l (by decide)) (fun _ _ => rfl) rfl 10 (by decide) wX8_wait_0 (.int (fqI σ 0 10)) rfl dX8_wait_26 ?_
    refine g_icmp_le (pc := 29) E 38 dX8_wait_29 (by decide) (fun c6 => ?_) (fun c6 => ?_)
    · replace hf := fq_t c6 hf
      refine g_iload (pc := 38) E dX8_wait_38 0 rfl ?_
      refine g_aload_n (pc := 40) E dX8_wait_40 1 rfl rfl ?_
      refine g_getfield (pc := 41) E uX8_wait_X8 0 (zx_l (by decide)) (fun _ _ => rfl) rfl 1 (by decide) wX8_wait_2 (.ref (ad 4)) rfl dX8_wait_41 ?_
      obtain ⟨r8, e7, hf⟩ := fq_b hf
      refine g_callVi (pc := 44) E 4 (zx_q (Or.inl rfl)) (tx_q cy ad n (Or.inl rfl)) rfl [] (fun l D sz => qX7_everybody l D cy ad sz n σ k 4 (Or.inl rfl) e7) gX8_wait_X7_everybody rfl rfl rfl kcX7_everybody ⟨by decide, by decide⟩ rfl rfl (Nat.le_of_ble_eq_true rfl) dX8_wait_44 ⟨by decide, by decide⟩ ?_
      refine g_aload_n (pc := 47) E dX8_wait_47 1 rfl rfl ?_
      refine g_getfield (pc := 48) E uX8_wait_X8 0 (zx_l (by decide)) (fun _ _ => rfl) rfl 5 (by decide) wX8_wait_3 (.ref (ad 16)) rfl dX8_wait_48 ?_
      obtain ⟨r10, e9, hf⟩ := fq_b hf
      refine g_callVi (pc := 51) E 16 (zx_l (by decide)) (fun _ _ => rfl) rfl [] (fun l D sz => qX2_everybody l D cy ad sz n σ k e9) gX8_wait_X2_everybody rfl rfl rfl kcX2_everybody ⟨by decide, by decide⟩ rfl rfl (Nat.le_of_ble_eq_true rfl) dX8_wait_51 ⟨by decide, by decide⟩ ?_
      refine g_ior (pc := 54) E dX8_wait_54 ?_
      refine g_iand (pc := 55) E dX8_wait_55 ?_
      refine g_if_eq (pc := 56) E 65 dX8_wait_56 (by decide) (fun c11 => ?_) (fun c11 => ?_)
      · replace hf := fq_t c11 hf
        refine g_aload_n (pc := 65) E dX8_wait_65 1 rfl rfl ?_
        refine g_getfield (pc := 66) E uX8_wait_X8 0 (zx_l (by decide)) (fun _ _ => rfl) rfl 1 (by decide) wX8_wait_2 (.ref (ad 4)) rfl dX8_wait_66 ?_
        refine g_iload (pc := 69) E dX8_wait_69 0 rfl ?_
        refine g_aload_n (pc := 71) E dX8_wait_71 1 rfl rfl ?_
        refine g_getfield (pc := 72) E uX8_wait_X8 0 (zx_l (by decide)) (fun _ _ => rfl) rfl 12 (by decide) wX8_wait_4 (.long (fqJ σ 0 12)) rfl dX8_wait_72 ?_
        obtain ⟨r13, σ14, e12, hf⟩ := fq_b2 hf
        refine g_callVi (pc := 75) E 4 (zx_q (Or.inl rfl)) (tx_q cy ad n (Or.inl rfl)) rfl [.int r2, .long (fqJ σ 0 12)] (fun l D sz => qX7_join l D cy ad sz n σ k 4 r2 (fqJ σ 0 12) (Or.inl rfl) e12) gX8_wait_X7_join rfl rfl rfl kcX7_join ⟨by decide, by decide⟩ rfl rfl (Nat.le_of_ble_eq_true rfl) dX8_wait_75 ⟨by decide, by decide⟩ ?_
        refine g_if_ne (pc := 78) E 87 dX8_wait_78 (by decide) (fun c15 => ?_) (fun c15 => ?_)
        · replace hf := fq_f c15 hf
          refine g_aload_n (pc := 87) E dX8_wait_87 1 rfl rfl ?_
          refine g_getfield (pc := 88) E uX8_wait_X8 0 (zx_l (by decide)) (fun _ _ => rfl) rfl 1 (by decide) wX8_wait_2 (.ref (ad 4)) rfl dX8_wait_88 ?_
          refine g_getfield (pc := 91) E uX8_wait_X7 4 (zx_q (Or.inl rfl)) (tx_q cy ad n (Or.inl rfl)) rfl 2 (by decide) wX8_wait_5 (.int (fqI σ14 4 2)) rfl dX8_wait_91 ?_
          refine g_i2l (pc := 94) E dX8_wait_94 ?_
          exact hret _ _ _ _ dX8_wait_95 (Option.some.inj hf)
        · replace hf := fq_t c15 hf
          refine g_aload_n (pc := 81) E dX8_wait_81 1 rfl rfl ?_
          refine g_iconst (pc := 82) E (4 : Int32) dX8_wait_82 (by decide) ?_
          obtain ⟨r17, σ18, e16, hf⟩ := fq_b2 hf
          refine g_callVl (pc := 83) E 0 (zx_l (by decide)) (fun _ _ => rfl) rfl [.int (4 : Int32)] (fun l D sz => qX8_finding l D cy ad sz n σ14 k (4 : Int32) e16) gX8_wait_X8_finding rfl rfl rfl kcX8_finding ⟨by decide, by decide⟩ rfl rfl (Nat.le_of_ble_eq_true rfl) dX8_wait_83 ⟨by decide, by decide⟩ ?_
          exact hret _ _ _ _ dX8_wait_86 (Option.some.inj hf)
      · replace hf := fq_f c11 hf
        refine g_aload_n (pc := 59) E dX8_wait_59 1 rfl rfl ?_
        refine g_iconst (pc := 60) E (3 : Int32) dX8_wait_60 (by decide) ?_
        obtain ⟨r20, σ21, e19, hf⟩ := fq_b2 hf
        refine g_callVl (pc := 61) E 0 (zx_l (by decide)) (fun _ _ => rfl) rfl [.int (3 : Int32)] (fun l D sz => qX8_finding l D cy ad sz n σ k (3 : Int32) e19) gX8_wait_X8_finding rfl rfl rfl kcX8_finding ⟨by decide, by decide⟩ rfl rfl (Nat.le_of_ble_eq_true rfl) dX8_wait_61 ⟨by decide, by decide⟩ ?_
        exact hret _ _ _ _ dX8_wait_64 (Option.some.inj hf)
    · replace hf := fq_f c6 hf
      refine g_aload_n (pc := 32) E dX8_wait_32 1 rfl rfl ?_
      refine g_iconst (pc := 33) E (5 : Int32) dX8_wait_33 (by decide) ?_
      obtain ⟨r23, σ24, e22, hf⟩ := fq_b2 hf
      refine g_callVl (pc := 34) E 0 (zx_l (by decide)) (fun _ _ => rfl) rfl [.int (5 : Int32)] (fun l D sz => qX8_finding l D cy ad sz n σ k (5 : Int32) e22) gX8_wait_X8_finding rfl rfl rfl kcX8_finding ⟨by decide, by decide⟩ rfl rfl (Nat.le_of_ble_eq_true rfl) dX8_wait_34 ⟨by decide, by decide⟩ ?_
      exact hret _ _ _ _ dX8_wait_37 (Option.some.inj hf)
  · replace hf := fq_t c3 hf
    refine g_aload_n (pc := 14) E dX8_wait_14 1 rfl rfl ?_
    refine g_iconst (pc := 15) E (1 : Int32) dX8_wait_15 (by decide) ?_
    obtain ⟨r26, σ27, e25, hf⟩ := fq_b2 hf
    refine g_callVl (pc := 16) E 0 (zx_l (by decide)) (fun _ _ => rfl) rfl [.int (1 : Int32)] (fun l D sz => qX8_finding l D cy ad sz n σ k (1 : Int32) e25) gX8_wait_X8_finding rfl rfl rfl kcX8_finding ⟨by decide, by decide⟩ rfl rfl (Nat.le_of_ble_eq_true rfl) dX8_wait_16 ⟨by decide, by decide⟩ ?_
    exact hret _ _ _ _ dX8_wait_19 (Option.some.inj hf)

/-! X8_waited -/
theorem wX8_waited_0 : Cond.fieldLink RX8 10 "FairQueue" "players" "LFairQueue$Players;" ∈ wsX8_waited := by decide +kernel
theorem uX8_waited_X8 : ∀ w ∈ u_ws RX8 TX8 13, w ∈ wsX8_waited := (fun _ h => List.mem_cons_of_mem _ (List.mem_append_left _ (List.mem_append_left _ (List.mem_append_left _ (List.mem_append_right _ h)))))
theorem wX8_waited_2 : Cond.fieldLink RX8 19 "FairQueue" "queue" "LFairQueue$Queue;" ∈ wsX8_waited := by decide +kernel
theorem wX8_waited_3 : Cond.fieldLink RX8 74 "FairQueue" "tick" "J" ∈ wsX8_waited := by decide +kernel
theorem wX8_waited_4 : Cond.fieldLink RX8 50 "FairQueue" "bounds" "LFairQueue$Bounds;" ∈ wsX8_waited := by decide +kernel
theorem kcX8_waited : yX8_waited.cls = RX8 ∧ yX8_waited.cls ≠ "java/lang/invoke/MethodHandle" ∧ yX8_waited.cls ≠ "java/lang/invoke/VarHandle" ∧ (parseMethodDescriptor yX8_waited.desc).map (fun d => d.parameters.length) = some 2 := by decide +kernel
def pX8_waited (k n : Nat) (σ : fqS) (x1 : Int32) (x2 : Int32) : Option (Int64 × fqS) :=
  ((pX6_at k n σ x1).bind (fun r2 => (fqM r2 ((fqB2 (pX8_finding k n σ (1 : Int32)) (fun r6 σ7 => some (r6, σ7)))) (fun z3 => (if z3 < n then ((pX8_bitOf k n σ x1).bind (fun r9 => ((pX7_placeOf k n σ 4 r9).bind (fun r11 => (if 0 ≤ r11 then ((pX7_sinceAt k n σ 4 r11).bind (fun r14 => (if x2 = 0 then some (((fqJ σ 0 12) - r14), σ) else ((pX0_behind k n σ ((fqJ σ 0 12) - r14)).bind (fun r17 => some (r17, σ)))))) else (fqB2 (pX8_finding k n σ (2 : Int32)) (fun r19 σ20 => some (r19, σ20)))))))) else none)))))
set_option maxRecDepth 100000 in
set_option maxHeartbeats 4000000 in
theorem qX8_waited (l : Launch) (D : va_G) (cy : Nat → ClassId) (ad : Nat → Nat) (sz n : Nat) (σ : fqS) (k : Nat) (x1 : Int32) (x2 : Int32) {r : Int64} {σ' : fqS} (hf : pX8_waited k n σ x1 x2 = some (r, σ')) : Met l yX8_waited wsX8_waited ({ frames := 2, cells := 0, slots := 0, locals := 45 } : Room) (fqPc (TX cy) ZX D cy ad sz n σ [.ref (ad 0), .int x1, .int x2]) (fqQl (TX cy) ZX D ad sz n σ r σ') 0 0 (fqA (TX cy) ZX ad sz n σ) := by
  refine fq_enter_l (cc := cX8_waited) (maxL := 6) (own := RX8) _ (by decide) rfl (Nat.le_of_ble_eq_true rfl) rfl (fun X E hret => ?_)
  unfold pX8_waited at hf
  show fqG X (TX cy) ZX ad n 6 0 0 σ 0 [(0, .ref (ad 0)), (1, .int x1), (2, .int x2)] []
  refine g_aload_n (pc := 0) E dX8_waited_0 0 rfl rfl ?_
  refine g_getfield (pc := 1) E uX8_waited_X8 0 (zx_l (by decide)) (fun _ _ => rfl) rfl 0 (by decide) wX8_waited_0 (.ref (ad 1)) rfl dX8_waited_1 ?_
  refine g_iload_n (pc := 4) E dX8_waited_4 1 rfl rfl ?_
  obtain ⟨r2, e1, hf⟩ := fq_b hf
  refine g_callVq (pc := 5) E 1 (zx_l (by decide)) (fun _ _ => rfl) rfl [.int x1] (fun l D sz => qX6_at l D cy ad sz n σ k x1 e1) gX8_waited_X6_at rfl rfl rfl kcX6_at ⟨by decide, by decide⟩ rfl rfl (Nat.le_of_ble_eq_true rfl) dX8_waited_5 ⟨by decide, by decide⟩ ?_
  cases r2 with
  | none =>
    replace hf := fqM_n hf
    refine g_st (st' := [.null]) rfl ?_
    refine g_ifnonnullN (pc := 8) E dX8_waited_8 ?_
    refine g_aload_n (pc := 11) E dX8_waited_11 0 rfl rfl ?_
    refine g_iconst (pc := 12) E (1 : Int32) dX8_waited_12 (by decide) ?_
    obtain ⟨r6, σ7, e5, hf⟩ := fq_b2 hf
    refine g_callVl (pc := 13) E 0 (zx_l (by decide)) (fun _ _ => rfl) rfl [.int (1 : Int32)] (fun l D sz => qX8_finding l D cy ad sz n σ k (1 : Int32) e5) gX8_waited_X8_finding rfl rfl rfl kcX8_finding ⟨by decide, by decide⟩ rfl rfl (Nat.le_of_ble_eq_true rfl) dX8_waited_13 ⟨by decide, by decide⟩ ?_
    exact hret _ _ _ _ dX8_waited_16 (Option.some.inj hf)
  | some z3 =>
    obtain ⟨h4, hf⟩ := fq_g (fqM_s hf)
    refine g_st (st' := [.ref (ad (26 + 4 * z3))]) rfl ?_
    refine g_ifnonnull (pc := 8) E 17 dX8_waited_8 (by decide) ?_
    refine g_aload_n (pc := 17) E dX8_waited_17 0 rfl rfl ?_
    refine g_getfield (pc := 18) E uX8_waited_X8 0 (zx_l (by decide)) (fun _ _ => rfl) rfl 1 (by decide) wX8_waited_2 (.ref (ad 4)) rfl dX8_waited_18 ?_
    refine g_iload_n (pc := 21) E dX8_waited_21 1 rfl rfl ?_
    obtain ⟨r9, e8, hf⟩ := fq_b hf
    refine g_callSi (pc := 22) E [.int x1] (fun l D sz => qX8_bitOf l D cy ad sz n σ k x1 e8) gX8_waited_X8_bitOf rfl rfl rfl kcX8_bitOf ⟨by decide, by decide⟩ rfl rfl (Nat.le_of_ble_eq_true rfl) dX8_waited_22 ⟨by decide, by decide⟩ ?_
    obtain ⟨r11, e10, hf⟩ := fq_b hf
    refine g_callVi (pc := 25) E 4 (zx_q (Or.inl rfl)) (tx_q cy ad n (Or.inl rfl)) rfl [.int r9] (fun l D sz => qX7_placeOf l D cy ad sz n σ k 4 r9 (Or.inl rfl) e10) gX8_waited_X7_placeOf rfl rfl rfl kcX7_placeOf ⟨by decide, by decide⟩ rfl rfl (Nat.le_of_ble_eq_true rfl) dX8_waited_25 ⟨by decide, by decide⟩ ?_
    refine g_istore_n (pc := 28) E [(3, .int r11), (0, .ref (ad 0)), (1, .int x1), (2, .int x2)] dX8_waited_28 rfl (by decide) rfl ?_
    refine g_iload_n (pc := 29) E dX8_waited_29 0 rfl rfl ?_
    refine g_if_ge (pc := 30) E 39 dX8_waited_30 (by decide) (fun c12 => ?_) (fun c12 => ?_)
    · replace hf := fq_t c12 hf
      refine g_aload_n (pc := 39) E dX8_waited_39 1 rfl rfl ?_
      refine g_getfield (pc := 40) E uX8_waited_X8 0 (zx_l (by decide)) (fun _ _ => rfl) rfl 12 (by decide) wX8_waited_3 (.long (fqJ σ 0 12)) rfl dX8_waited_40 ?_
      refine g_aload_n (pc := 43) E dX8_waited_43 1 rfl rfl ?_
      refine g_getfield (pc := 44) E uX8_waited_X8 0 (zx_l (by decide)) (fun _ _ => rfl) rfl 1 (by decide) wX8_waited_2 (.ref (ad 4)) rfl dX8_waited_44 ?_
      refine g_iload_n (pc := 47) E dX8_waited_47 0 rfl rfl ?_
      obtain ⟨r14, e13, hf⟩ := fq_b hf
      refine g_callVl (pc := 48) E 4 (zx_q (Or.inl rfl)) (tx_q cy ad n (Or.inl rfl)) rfl [.int r11] (fun l D sz => qX7_sinceAt l D cy ad sz n σ k 4 r11 (Or.inl rfl) e13) gX8_waited_X7_sinceAt rfl rfl rfl kcX7_sinceAt ⟨by decide, by decide⟩ rfl rfl (Nat.le_of_ble_eq_true rfl) dX8_waited_48 ⟨by decide, by decide⟩ ?_
      refine g_lsub (pc := 51) E dX8_waited_51 ?_
      refine g_lstore (pc := 52) E [(4, .long ((fqJ σ 0 12) - r14)), (3, .int r11), (0, .ref (ad 0)), (1, .int x1), (2, .int x2)] dX8_waited_52 (by decide) rfl ?_
      refine g_iload_n (pc := 54) E dX8_waited_54 4 rfl rfl ?_
      refine g_if_eq (pc := 55) E 70 dX8_waited_55 (by decide) (fun c15 => ?_) (fun c15 => ?_)
      · replace hf := fq_t c15 hf
        refine g_lload (pc := 70) E dX8_waited_70 0 rfl ?_
        exact hret _ _ _ _ dX8_waited_72 (Option.some.inj hf)
      · replace hf := fq_f c15 hf
        refine g_aload_n (pc := 58) E dX8_waited_58 2 rfl rfl ?_
        refine g_getfield (pc := 59) E uX8_waited_X8 0 (zx_l (by decide)) (fun _ _ => rfl) rfl 6 (by decide) wX8_waited_4 (.ref (ad 23)) rfl dX8_waited_59 ?_
        refine g_lload (pc := 62) E dX8_waited_62 0 rfl ?_
        obtain ⟨r17, e16, hf⟩ := fq_b hf
        refine g_callVl (pc := 64) E 23 (zx_l (by decide)) (fun _ _ => rfl) rfl [.long ((fqJ σ 0 12) - r14)] (fun l D sz => qX0_behind l D cy ad sz n σ k ((fqJ σ 0 12) - r14) e16) gX8_waited_X0_behind rfl rfl rfl kcX0_behind ⟨by decide, by decide⟩ rfl rfl (Nat.le_of_ble_eq_true rfl) dX8_waited_64 ⟨by decide, by decide⟩ ?_
        refine g_goto (pc := 67) E 72 dX8_waited_67 (by decide) ?_
        exact hret _ _ _ _ dX8_waited_72 (Option.some.inj hf)
    · replace hf := fq_f c12 hf
      refine g_aload_n (pc := 33) E dX8_waited_33 1 rfl rfl ?_
      refine g_iconst (pc := 34) E (2 : Int32) dX8_waited_34 (by decide) ?_
      obtain ⟨r19, σ20, e18, hf⟩ := fq_b2 hf
      refine g_callVl (pc := 35) E 0 (zx_l (by decide)) (fun _ _ => rfl) rfl [.int (2 : Int32)] (fun l D sz => qX8_finding l D cy ad sz n σ k (2 : Int32) e18) gX8_waited_X8_finding rfl rfl rfl kcX8_finding ⟨by decide, by decide⟩ rfl rfl (Nat.le_of_ble_eq_true rfl) dX8_waited_35 ⟨by decide, by decide⟩ ?_
      exact hret _ _ _ _ dX8_waited_38 (Option.some.inj hf)
