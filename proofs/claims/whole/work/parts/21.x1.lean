/-! X6_chanceOf -/
theorem wX6_chanceOf_0 : Cond.fieldLink RX6 56 "FairQueue$Player" "shares" "[J" ∈ wsX6_chanceOf := by decide +kernel
theorem uX6_chanceOf_X5 : ∀ w ∈ u_ws RX5 TX5 5, w ∈ wsX6_chanceOf := (fun _ h => List.mem_cons_of_mem _ (List.mem_append_left _ (List.mem_append_right _ h)))
theorem wX6_chanceOf_2 : Cond.constantLong RX6 67 (1000000) ∈ wsX6_chanceOf := by decide +kernel
theorem kcX6_chanceOf : yX6_chanceOf.cls = RX6 ∧ yX6_chanceOf.cls ≠ "java/lang/invoke/MethodHandle" ∧ yX6_chanceOf.cls ≠ "java/lang/invoke/VarHandle" ∧ (parseMethodDescriptor yX6_chanceOf.desc).map (fun d => d.parameters.length) = some 2 := by decide +kernel
def pX6_chanceOf_L5b (k n : Nat) (σ : fqS) (p1 : Nat) (x2 : Int32) (rec : (Int64 × Int32) → Option Int64) (x3 : Int64) (x5 : Int32) : Option Int64 :=
  (if (7 : Int32) ≤ x5 then some (x3 / (1000000 : Int64)) else (if x5 < 0 ∨ 7 ≤ Int32.toNatClampNeg x5 then none else ((pX6_chanceAt k n σ x5 x2).bind (fun r4 => (rec ((x3 + ((fqJ σ (26 + 4 * p1 + 1) (Int32.toNatClampNeg x5)) * r4)), (x5 + (1 : Int32))))))))
def pX6_chanceOf_L5 (k n : Nat) (σ : fqS) (p1 : Nat) (x2 : Int32) : (Int64 × Int32) → Option Int64 := fqL (fun rec (s : (Int64 × Int32)) => pX6_chanceOf_L5b k n σ p1 x2 rec s.1 s.2) k
def pX6_chanceOf (k n : Nat) (σ : fqS) (p1 : Nat) (x2 : Int32) : Option Int64 :=
  (pX6_chanceOf_L5 k n σ p1 x2 ((0 : Int64), (0 : Int32)))
set_option maxRecDepth 100000 in
set_option maxHeartbeats 4000000 in
theorem tX6_chanceOf_L5 {k : Nat} {X : fqX} {cy : Nat → ClassId} {ad : Nat → Nat} {n : Nat} {σ : fqS} {r : Int64} {p1 : Nat} {x2 : Int32} (E : fqE X ({ frames := 2, cells := 0, slots := 0, locals := 52 } : Room) cy cX6_chanceOf 6 wsX6_chanceOf RX6) (hret : fqR_l X (TX cy) ZX ad n 6 cX6_chanceOf r σ) (hp1 : p1 < n) : ∀ (s : (Int64 × Int32)), pX6_chanceOf_L5 k n σ p1 x2 s = some r → fqG X (TX cy) ZX ad n 6 0 0 σ 5 [(0, .ref (ad 1)), (1, .ref (ad (26 + 4 * p1))), (2, .int x2), (3, .long (s.1)), (5, .int (s.2))] [] := by
  unfold pX6_chanceOf_L5
  refine fqL_run (P := fun (s : (Int64 × Int32)) => fqG X (TX cy) ZX ad n 6 0 0 σ 5 [(0, .ref (ad 1)), (1, .ref (ad (26 + 4 * p1))), (2, .int x2), (3, .long (s.1)), (5, .int (s.2))] []) (fun rec s hrec hf => ?_) k
  obtain ⟨x3, x5⟩ := s
  have hf : pX6_chanceOf_L5b k n σ p1 x2 rec x3 x5 = some r := hf
  unfold pX6_chanceOf_L5b at hf
  show fqG X (TX cy) ZX ad n 6 0 0 σ 5 [(0, .ref (ad 1)), (1, .ref (ad (26 + 4 * p1))), (2, .int x2), (3, .long x3), (5, .int x5)] []
  refine g_iload (pc := 5) E dX6_chanceOf_5 4 rfl ?_
  refine g_aload_n (pc := 7) E dX6_chanceOf_7 1 rfl rfl ?_
  refine g_getfield (pc := 8) E uX6_chanceOf_X5 (26 + 4 * p1) (zx_p0 hp1) (tx_p cy ad n p1) rfl 1 (by decide) wX6_chanceOf_0 (.ref (ad (26 + 4 * p1 + 1))) rfl dX6_chanceOf_8 ?_
  refine g_alen (pc := 11) E (26 + 4 * p1 + 1) (zx_p hp1 (by decide)) 1 (tx_p1 cy ad n p1) rfl (7 : Int32) (by rfl) dX6_chanceOf_11 ?_
  refine g_icmp_ge (pc := 12) E 39 dX6_chanceOf_12 (by decide) (fun c1 => ?_) (fun c1 => ?_)
  · replace hf := fq_t c1 hf
    refine g_lload_n (pc := 39) E dX6_chanceOf_39 3 rfl rfl ?_
    refine g_ldc2_w (pc := 40) E dX6_chanceOf_40 wX6_chanceOf_2 ?_
    refine g_ldiv (pc := 43) E dX6_chanceOf_43 (by decide) ?_
    exact hret _ _ _ _ dX6_chanceOf_44 (congrArg (fun z => (z, σ)) (Option.some.inj hf))
  · replace hf := fq_f c1 hf
    refine g_lload_n (pc := 15) E dX6_chanceOf_15 3 rfl rfl ?_
    refine g_aload_n (pc := 16) E dX6_chanceOf_16 1 rfl rfl ?_
    refine g_getfield (pc := 17) E uX6_chanceOf_X5 (26 + 4 * p1) (zx_p0 hp1) (tx_p cy ad n p1) rfl 1 (by decide) wX6_chanceOf_0 (.ref (ad (26 + 4 * p1 + 1))) rfl dX6_chanceOf_17 ?_
    refine g_iload (pc := 20) E dX6_chanceOf_20 4 rfl ?_
    obtain ⟨h2, hf⟩ := fq_in hf
    refine g_laload (pc := 22) E (26 + 4 * p1 + 1) (zx_p hp1 (by decide)) (tx_p1 cy ad n p1) h2 dX6_chanceOf_22 ?_
    refine g_aload_n (pc := 23) E dX6_chanceOf_23 0 rfl rfl ?_
    refine g_iload (pc := 24) E dX6_chanceOf_24 4 rfl ?_
    refine g_iload_n (pc := 26) E dX6_chanceOf_26 2 rfl rfl ?_
    obtain ⟨r4, e3, hf⟩ := fq_b hf
    refine g_callVl (pc := 27) E 1 (zx_l (by decide)) (fun _ _ => rfl) rfl [.int x5, .int x2] (fun l D sz => qX6_chanceAt l D cy ad sz n σ k x5 x2 e3) gX6_chanceOf_X6_chanceAt rfl rfl rfl kcX6_chanceAt ⟨by decide, by decide⟩ rfl rfl (Nat.le_of_ble_eq_true rfl) dX6_chanceOf_27 ⟨by decide, by decide⟩ ?_
    refine g_lmul (pc := 30) E dX6_chanceOf_30 ?_
    refine g_ladd (pc := 31) E dX6_chanceOf_31 ?_
    refine g_lstore_n (pc := 32) E [(3, .long (x3 + ((fqJ σ (26 + 4 * p1 + 1) (Int32.toNatClampNeg x5)) * r4))), (0, .ref (ad 1)), (1, .ref (ad (26 + 4 * p1))), (2, .int x2), (5, .int x5)] dX6_chanceOf_32 rfl (by decide) rfl ?_
    refine g_iinc (pc := 33) E (x5 + (1 : Int32)) [(5, .int (x5 + (1 : Int32))), (3, .long (x3 + ((fqJ σ (26 + 4 * p1 + 1) (Int32.toNatClampNeg x5)) * r4))), (0, .ref (ad 1)), (1, .ref (ad (26 + 4 * p1))), (2, .int x2)] dX6_chanceOf_33 4 rfl rfl (by decide) rfl ?_
    refine g_goto (pc := 36) E 5 dX6_chanceOf_36 (by decide) ?_
    refine g_lv [2, 3, 4, 1, 0] rfl ?_
    exact hrec _ hf
set_option maxRecDepth 100000 in
set_option maxHeartbeats 4000000 in
theorem qX6_chanceOf (l : Launch) (D : va_G) (cy : Nat → ClassId) (ad : Nat → Nat) (sz n : Nat) (σ : fqS) (k : Nat) (p1 : Nat) (x2 : Int32) (hp1 : p1 < n) {r : Int64} (hf : pX6_chanceOf k n σ p1 x2 = some r) : Met l yX6_chanceOf wsX6_chanceOf ({ frames := 2, cells := 0, slots := 0, locals := 52 } : Room) (fqPc (TX cy) ZX D cy ad sz n σ [.ref (ad 1), .ref (ad (26 + 4 * p1)), .int x2]) (fqQl (TX cy) ZX D ad sz n σ r σ) 0 0 (fqA (TX cy) ZX ad sz n σ) := by
  refine fq_enter_l (cc := cX6_chanceOf) (maxL := 6) (own := RX6) _ (by decide) rfl (Nat.le_of_ble_eq_true rfl) rfl (fun X E hret => ?_)
  unfold pX6_chanceOf at hf
  show fqG X (TX cy) ZX ad n 6 0 0 σ 0 [(0, .ref (ad 1)), (1, .ref (ad (26 + 4 * p1))), (2, .int x2)] []
  refine g_lconst (pc := 0) E (0 : Int64) dX6_chanceOf_0 (by decide) ?_
  refine g_lstore_n (pc := 1) E [(3, .long (0 : Int64)), (0, .ref (ad 1)), (1, .ref (ad (26 + 4 * p1))), (2, .int x2)] dX6_chanceOf_1 rfl (by decide) rfl ?_
  refine g_iconst (pc := 2) E (0 : Int32) dX6_chanceOf_2 (by decide) ?_
  refine g_istore (pc := 3) E [(5, .int (0 : Int32)), (3, .long (0 : Int64)), (0, .ref (ad 1)), (1, .ref (ad (26 + 4 * p1))), (2, .int x2)] dX6_chanceOf_3 (by decide) rfl ?_
  refine g_lv [2, 3, 4, 1, 0] rfl ?_
  exact tX6_chanceOf_L5 E hret hp1 _ hf

/-! X5_keepSurprise -/
theorem wX5_keepSurprise_0 : Cond.fieldLink RX5 25 "FairQueue$Player" "kept" "I" ∈ wsX5_keepSurprise := by decide +kernel
theorem uX5_keepSurprise_X5 : ∀ w ∈ u_ws RX5 TX5 5, w ∈ wsX5_keepSurprise := (fun _ h => List.mem_cons_of_mem _ (List.mem_append_right _ h))
theorem wX5_keepSurprise_2 : Cond.fieldLink RX5 22 "FairQueue$Player" "surprises" "[J" ∈ wsX5_keepSurprise := by decide +kernel
theorem kcX5_keepSurprise : yX5_keepSurprise.cls = RX5 ∧ yX5_keepSurprise.cls ≠ "java/lang/invoke/MethodHandle" ∧ yX5_keepSurprise.cls ≠ "java/lang/invoke/VarHandle" ∧ (parseMethodDescriptor yX5_keepSurprise.desc).map (fun d => d.parameters.length) = some 1 := by decide +kernel
def pX5_keepSurprise_L14b (k n : Nat) (p : Nat) (x1 : Int64) (rec : (Int32 × fqS) → Option fqS) (x3 : Int32) (σ : fqS) : Option fqS :=
  (if (8 : Int32) ≤ x3 then (fqN (fqPI σ (26 + 4 * p) 4 ((8 : Int32) - (1 : Int32))) (fun σ8 => (if (fqI σ8 (26 + 4 * p) 4) < 0 ∨ 8 ≤ Int32.toNatClampNeg (fqI σ8 (26 + 4 * p) 4) then none else (fqN (fqPJ σ8 (26 + 4 * p + 3) (Int32.toNatClampNeg (fqI σ8 (26 + 4 * p) 4)) x1) (fun σ11 => (fqN (fqPI σ11 (26 + 4 * p) 4 ((fqI σ11 (26 + 4 * p) 4) + (1 : Int32))) (fun σ13 => some σ13))))))) else (if x3 < 0 ∨ 8 ≤ Int32.toNatClampNeg x3 then none else (if (x3 - (1 : Int32)) < 0 ∨ 8 ≤ Int32.toNatClampNeg (x3 - (1 : Int32)) then none else (fqN (fqPJ σ (26 + 4 * p + 3) (Int32.toNatClampNeg (x3 - (1 : Int32))) (fqJ σ (26 + 4 * p + 3) (Int32.toNatClampNeg x3))) (fun σ17 => (rec ((x3 + (1 : Int32)), σ17)))))))
def pX5_keepSurprise_L14 (k n : Nat) (p : Nat) (x1 : Int64) : (Int32 × fqS) → Option fqS := fqL (fun rec (s : (Int32 × fqS)) => pX5_keepSurprise_L14b k n p x1 rec s.1 s.2) k
def pX5_keepSurprise (k n : Nat) (σ : fqS) (p : Nat) (x1 : Int64) : Option fqS :=
  (if (fqI σ (26 + 4 * p) 4) < (8 : Int32) then (if (fqI σ (26 + 4 * p) 4) < 0 ∨ 8 ≤ Int32.toNatClampNeg (fqI σ (26 + 4 * p) 4) then none else (fqN (fqPJ σ (26 + 4 * p + 3) (Int32.toNatClampNeg (fqI σ (26 + 4 * p) 4)) x1) (fun σ3 => (fqN (fqPI σ3 (26 + 4 * p) 4 ((fqI σ3 (26 + 4 * p) 4) + (1 : Int32))) (fun σ5 => some σ5))))) else (pX5_keepSurprise_L14 k n p x1 ((1 : Int32), σ)))
set_option maxRecDepth 100000 in
set_option maxHeartbeats 4000000 in
theorem tX5_keepSurprise_L14 {k : Nat} {X : fqX} {cy : Nat → ClassId} {ad : Nat → Nat} {n : Nat} {σ' : fqS} {p : Nat} {x1 : Int64} (E : fqE X ({ frames := 0, cells := 0, slots := 0, locals := 0 } : Room) cy cX5_keepSurprise 4 wsX5_keepSurprise RX5) (hret : fqR_v X (TX cy) ZX ad n 4 cX5_keepSurprise σ') (hp : p < n) : ∀ (s : (Int32 × fqS)), pX5_keepSurprise_L14 k n p x1 s = some σ' → fqG X (TX cy) ZX ad n 4 0 0 (s.2) 14 [(0, .ref (ad (26 + 4 * p))), (1, .long x1), (3, .int (s.1))] [] := by
  unfold pX5_keepSurprise_L14
  refine fqL_run (P := fun (s : (Int32 × fqS)) => fqG X (TX cy) ZX ad n 4 0 0 (s.2) 14 [(0, .ref (ad (26 + 4 * p))), (1, .long x1), (3, .int (s.1))] []) (fun rec s hrec hf => ?_) k
  obtain ⟨x3, σ⟩ := s
  have hf : pX5_keepSurprise_L14b k n p x1 rec x3 σ = some σ' := hf
  unfold pX5_keepSurprise_L14b at hf
  show fqG X (TX cy) ZX ad n 4 0 0 σ 14 [(0, .ref (ad (26 + 4 * p))), (1, .long x1), (3, .int x3)] []
  refine g_iload_n (pc := 14) E dX5_keepSurprise_14 2 rfl rfl ?_
  refine g_aload_n (pc := 15) E dX5_keepSurprise_15 0 rfl rfl ?_
  refine g_getfield (pc := 16) E uX5_keepSurprise_X5 (26 + 4 * p) (zx_p0 hp) (tx_p cy ad n p) rfl 3 (by decide) wX5_keepSurprise_2 (.ref (ad (26 + 4 * p + 3))) rfl dX5_keepSurprise_16 ?_
  refine g_alen (pc := 19) E (26 + 4 * p + 3) (zx_p hp (by decide)) 1 (tx_p3 cy ad n p) rfl (8 : Int32) (by rfl) dX5_keepSurprise_19 ?_
  refine g_icmp_ge (pc := 20) E 43 dX5_keepSurprise_20 (by decide) (fun c7 => ?_) (fun c7 => ?_)
  · replace hf := fq_t c7 hf
    refine g_aload_n (pc := 43) E dX5_keepSurprise_43 0 rfl rfl ?_
    refine g_aload_n (pc := 44) E dX5_keepSurprise_44 0 rfl rfl ?_
    refine g_getfield (pc := 45) E uX5_keepSurprise_X5 (26 + 4 * p) (zx_p0 hp) (tx_p cy ad n p) rfl 3 (by decide) wX5_keepSurprise_2 (.ref (ad (26 + 4 * p + 3))) rfl dX5_keepSurprise_45 ?_
    refine g_alen (pc := 48) E (26 + 4 * p + 3) (zx_p hp (by decide)) 1 (tx_p3 cy ad n p) rfl (8 : Int32) (by rfl) dX5_keepSurprise_48 ?_
    refine g_iconst (pc := 49) E (1 : Int32) dX5_keepSurprise_49 (by decide) ?_
    refine g_isub (pc := 50) E dX5_keepSurprise_50 ?_
    refine g_putI (pc := 51) E uX5_keepSurprise_X5 tyX5 tyX5_ok nmX5 (26 + 4 * p) (zx_p0 hp) (tx_p cy ad n p) rfl 4 (by decide) wX5_keepSurprise_0 rfl rfl (Nat.le_of_ble_eq_true rfl) rfl dX5_keepSurprise_51 ?_
    obtain ⟨σ8, e9, hf⟩ := fq_n hf
    refine g_sg e9 ?_
    refine g_aload_n (pc := 54) E dX5_keepSurprise_54 0 rfl rfl ?_
    refine g_getfield (pc := 55) E uX5_keepSurprise_X5 (26 + 4 * p) (zx_p0 hp) (tx_p cy ad n p) rfl 3 (by decide) wX5_keepSurprise_2 (.ref (ad (26 + 4 * p + 3))) rfl dX5_keepSurprise_55 ?_
    refine g_aload_n (pc := 58) E dX5_keepSurprise_58 0 rfl rfl ?_
    refine g_getfield (pc := 59) E uX5_keepSurprise_X5 (26 + 4 * p) (zx_p0 hp) (tx_p cy ad n p) rfl 4 (by decide) wX5_keepSurprise_0 (.int (fqI σ8 (26 + 4 * p) 4)) rfl dX5_keepSurprise_59 ?_
    refine g_lload_n (pc := 62) E dX5_keepSurprise_62 1 rfl rfl ?_
    obtain ⟨h10, hf⟩ := fq_in hf
    refine g_lastore (pc := 63) E (26 + 4 * p + 3) (zx_p hp (by decide)) (tx_p3 cy ad n p) h10 dX5_keepSurprise_63 ?_
    obtain ⟨σ11, e12, hf⟩ := fq_n hf
    refine g_sg e12 ?_
    refine g_aload_n (pc := 64) E dX5_keepSurprise_64 0 rfl rfl ?_
    refine g_dup (pc := 65) E dX5_keepSurprise_65 rfl ?_
    refine g_getfield (pc := 66) E uX5_keepSurprise_X5 (26 + 4 * p) (zx_p0 hp) (tx_p cy ad n p) rfl 4 (by decide) wX5_keepSurprise_0 (.int (fqI σ11 (26 + 4 * p) 4)) rfl dX5_keepSurprise_66 ?_
    refine g_iconst (pc := 69) E (1 : Int32) dX5_keepSurprise_69 (by decide) ?_
    refine g_iadd (pc := 70) E dX5_keepSurprise_70 ?_
    refine g_putI (pc := 71) E uX5_keepSurprise_X5 tyX5 tyX5_ok nmX5 (26 + 4 * p) (zx_p0 hp) (tx_p cy ad n p) rfl 4 (by decide) wX5_keepSurprise_0 rfl rfl (Nat.le_of_ble_eq_true rfl) rfl dX5_keepSurprise_71 ?_
    obtain ⟨σ13, e14, hf⟩ := fq_n hf
    refine g_sg e14 ?_
    exact hret _ _ _ dX5_keepSurprise_74 (Option.some.inj hf)
  · replace hf := fq_f c7 hf
    refine g_aload_n (pc := 23) E dX5_keepSurprise_23 0 rfl rfl ?_
    refine g_getfield (pc := 24) E uX5_keepSurprise_X5 (26 + 4 * p) (zx_p0 hp) (tx_p cy ad n p) rfl 3 (by decide) wX5_keepSurprise_2 (.ref (ad (26 + 4 * p + 3))) rfl dX5_keepSurprise_24 ?_
    refine g_iload_n (pc := 27) E dX5_keepSurprise_27 2 rfl rfl ?_
    refine g_iconst (pc := 28) E (1 : Int32) dX5_keepSurprise_28 (by decide) ?_
    refine g_isub (pc := 29) E dX5_keepSurprise_29 ?_
    refine g_aload_n (pc := 30) E dX5_keepSurprise_30 0 rfl rfl ?_
    refine g_getfield (pc := 31) E uX5_keepSurprise_X5 (26 + 4 * p) (zx_p0 hp) (tx_p cy ad n p) rfl 3 (by decide) wX5_keepSurprise_2 (.ref (ad (26 + 4 * p + 3))) rfl dX5_keepSurprise_31 ?_
    refine g_iload_n (pc := 34) E dX5_keepSurprise_34 2 rfl rfl ?_
    obtain ⟨h15, hf⟩ := fq_in hf
    refine g_laload (pc := 35) E (26 + 4 * p + 3) (zx_p hp (by decide)) (tx_p3 cy ad n p) h15 dX5_keepSurprise_35 ?_
    obtain ⟨h16, hf⟩ := fq_in hf
    refine g_lastore (pc := 36) E (26 + 4 * p + 3) (zx_p hp (by decide)) (tx_p3 cy ad n p) h16 dX5_keepSurprise_36 ?_
    obtain ⟨σ17, e18, hf⟩ := fq_n hf
    refine g_sg e18 ?_
    refine g_iinc (pc := 37) E (x3 + (1 : Int32)) [(3, .int (x3 + (1 : Int32))), (0, .ref (ad (26 + 4 * p))), (1, .long x1)] dX5_keepSurprise_37 2 rfl rfl (by decide) rfl ?_
    refine g_goto (pc := 40) E 14 dX5_keepSurprise_40 (by decide) ?_
    refine g_lv [1, 2, 0] rfl ?_
    exact hrec _ hf
set_option maxRecDepth 100000 in
set_option maxHeartbeats 4000000 in
theorem qX5_keepSurprise (l : Launch) (D : va_G) (cy : Nat → ClassId) (ad : Nat → Nat) (sz n : Nat) (σ : fqS) (k : Nat) (p : Nat) (x1 : Int64) (hp : p < n) {σ' : fqS} (hf : pX5_keepSurprise k n σ p x1 = some σ') : Met l yX5_keepSurprise wsX5_keepSurprise ({ frames := 0, cells := 0, slots := 0, locals := 0 } : Room) (fqPc (TX cy) ZX D cy ad sz n σ [.ref (ad (26 + 4 * p)), .long x1]) (fqQv (TX cy) ZX D ad sz n σ σ') 0 0 (fqA (TX cy) ZX ad sz n σ) := by
  refine fq_enter_v (cc := cX5_keepSurprise) (maxL := 4) (own := RX5) _ (by decide) rfl (Nat.le_of_ble_eq_true rfl) rfl (fun X E hret => ?_)
  unfold pX5_keepSurprise at hf
  show fqG X (TX cy) ZX ad n 4 0 0 σ 0 [(0, .ref (ad (26 + 4 * p))), (1, .long x1)] []
  refine g_aload_n (pc := 0) E dX5_keepSurprise_0 0 rfl rfl ?_
  refine g_getfield (pc := 1) E uX5_keepSurprise_X5 (26 + 4 * p) (zx_p0 hp) (tx_p cy ad n p) rfl 4 (by decide) wX5_keepSurprise_0 (.int (fqI σ (26 + 4 * p) 4)) rfl dX5_keepSurprise_1 ?_
  refine g_aload_n (pc := 4) E dX5_keepSurprise_4 0 rfl rfl ?_
  refine g_getfield (pc := 5) E uX5_keepSurprise_X5 (26 + 4 * p) (zx_p0 hp) (tx_p cy ad n p) rfl 3 (by decide) wX5_keepSurprise_2 (.ref (ad (26 + 4 * p + 3))) rfl dX5_keepSurprise_5 ?_
  refine g_alen (pc := 8) E (26 + 4 * p + 3) (zx_p hp (by decide)) 1 (tx_p3 cy ad n p) rfl (8 : Int32) (by rfl) dX5_keepSurprise_8 ?_
  refine g_icmp_lt (pc := 9) E 54 dX5_keepSurprise_9 (by decide) (fun c1 => ?_) (fun c1 => ?_)
  · replace hf := fq_t c1 hf
    refine g_aload_n (pc := 54) E dX5_keepSurprise_54 0 rfl rfl ?_
    refine g_getfield (pc := 55) E uX5_keepSurprise_X5 (26 + 4 * p) (zx_p0 hp) (tx_p cy ad n p) rfl 3 (by decide) wX5_keepSurprise_2 (.ref (ad (26 + 4 * p + 3))) rfl dX5_keepSurprise_55 ?_
    refine g_aload_n (pc := 58) E dX5_keepSurprise_58 0 rfl rfl ?_
    refine g_getfield (pc := 59) E uX5_keepSurprise_X5 (26 + 4 * p) (zx_p0 hp) (tx_p cy ad n p) rfl 4 (by decide) wX5_keepSurprise_0 (.int (fqI σ (26 + 4 * p) 4)) rfl dX5_keepSurprise_59 ?_
    refine g_lload_n (pc := 62) E dX5_keepSurprise_62 1 rfl rfl ?_
    obtain ⟨h2, hf⟩ := fq_in hf
    refine g_lastore (pc := 63) E (26 + 4 * p + 3) (zx_p hp (by decide)) (tx_p3 cy ad n p) h2 dX5_keepSurprise_63 ?_
    obtain ⟨σ3, e4, hf⟩ := fq_n hf
    refine g_sg e4 ?_
    refine g_aload_n (pc := 64) E dX5_keepSurprise_64 0 rfl rfl ?_
    refine g_dup (pc := 65) E dX5_keepSurprise_65 rfl ?_
    refine g_getfield (pc := 66) E uX5_keepSurprise_X5 (26 + 4 * p) (zx_p0 hp) (tx_p cy ad n p) rfl 4 (by decide) wX5_keepSurprise_0 (.int (fqI σ3 (26 + 4 * p) 4)) rfl dX5_keepSurprise_66 ?_
    refine g_iconst (pc := 69) E (1 : Int32) dX5_keepSurprise_69 (by decide) ?_
    refine g_iadd (pc := 70) E dX5_keepSurprise_70 ?_
    refine g_putI (pc := 71) E uX5_keepSurprise_X5 tyX5 tyX5_ok nmX5 (26 + 4 * p) (zx_p0 hp) (tx_p cy ad n p) rfl 4 (by decide) wX5_keepSurprise_0 rfl rfl (Nat.le_of_ble_eq_true rfl) rfl dX5_keepSurprise_71 ?_
    obtain ⟨σ5, e6, hf⟩ := fq_n hf
    refine g_sg e6 ?_
    exact hret _ _ _ dX5_keepSurprise_74 (Option.some.inj hf)
  · replace hf := fq_f c1 hf
    refine g_iconst (pc := 12) E (1 : Int32) dX5_keepSurprise_12 (by decide) ?_
    refine g_istore_n (pc := 13) E [(3, .int (1 : Int32)), (0, .ref (ad (26 + 4 * p))), (1, .long x1)] dX5_keepSurprise_13 rfl (by decide) rfl ?_
    refine g_lv [1, 2, 0] rfl ?_
    exact tX5_keepSurprise_L14 E hret hp _ hf

/-! X6_factorOf -/
theorem wX6_factorOf_0 : Cond.constantLong RX6 67 (1000000) ∈ wsX6_factorOf := by decide +kernel
theorem kcX6_factorOf : yX6_factorOf.cls ≠ "java/lang/invoke/MethodHandle" ∧ yX6_factorOf.cls ≠ "java/lang/invoke/VarHandle" ∧ (parseMethodDescriptor yX6_factorOf.desc).map (fun d => d.parameters.length) = some 2 := by decide +kernel
def pX6_factorOf (k n : Nat) (σ : fqS) (x0 : Int64) (x2 : Int32) : Option Int64 :=
  (if x2 = (2 : Int32) then some x0 else (if x2 = (1 : Int32) then some ((x0 * ((1000000 : Int64) - x0)) / (1000000 : Int64)) else some ((1000000 : Int64) - x0)))
set_option maxRecDepth 100000 in
set_option maxHeartbeats 4000000 in
theorem qX6_factorOf (l : Launch) (D : va_G) (cy : Nat → ClassId) (ad : Nat → Nat) (sz n : Nat) (σ : fqS) (k : Nat) (x0 : Int64) (x2 : Int32) {r : Int64} (hf : pX6_factorOf k n σ x0 x2 = some r) : Met l yX6_factorOf wsX6_factorOf ({ frames := 0, cells := 0, slots := 0, locals := 0 } : Room) (fqPc (TX cy) ZX D cy ad sz n σ [.long x0, .int x2]) (fqQl (TX cy) ZX D ad sz n σ r σ) 0 0 (fqA (TX cy) ZX ad sz n σ) := by
  refine fq_enter_l (cc := cX6_factorOf) (maxL := 3) (own := RX6) _ (by decide) rfl (Nat.le_of_ble_eq_true rfl) rfl (fun X E hret => ?_)
  unfold pX6_factorOf at hf
  show fqG X (TX cy) ZX ad n 3 0 0 σ 0 [(0, .long x0), (2, .int x2)] []
  refine g_iload_n (pc := 0) E dX6_factorOf_0 1 rfl rfl ?_
  refine g_iconst (pc := 1) E (2 : Int32) dX6_factorOf_1 (by decide) ?_
  refine g_icmp_ne (pc := 2) E 7 dX6_factorOf_2 (by decide) (fun c1 => ?_) (fun c1 => ?_)
  · replace hf := fq_f c1 hf
    refine g_iload_n (pc := 7) E dX6_factorOf_7 1 rfl rfl ?_
    refine g_iconst (pc := 8) E (1 : Int32) dX6_factorOf_8 (by decide) ?_
    refine g_icmp_ne (pc := 9) E 24 dX6_factorOf_9 (by decide) (fun c2 => ?_) (fun c2 => ?_)
    · replace hf := fq_f c2 hf
      refine g_ldc2_w (pc := 24) E dX6_factorOf_24 wX6_factorOf_0 ?_
      refine g_lload_n (pc := 27) E dX6_factorOf_27 0 rfl rfl ?_
      refine g_lsub (pc := 28) E dX6_factorOf_28 ?_
      exact hret _ _ _ _ dX6_factorOf_29 (congrArg (fun z => (z, σ)) (Option.some.inj hf))
    · replace hf := fq_t c2 hf
      refine g_lload_n (pc := 12) E dX6_factorOf_12 0 rfl rfl ?_
      refine g_ldc2_w (pc := 13) E dX6_factorOf_13 wX6_factorOf_0 ?_
      refine g_lload_n (pc := 16) E dX6_factorOf_16 0 rfl rfl ?_
      refine g_lsub (pc := 17) E dX6_factorOf_17 ?_
      refine g_lmul (pc := 18) E dX6_factorOf_18 ?_
      refine g_ldc2_w (pc := 19) E dX6_factorOf_19 wX6_factorOf_0 ?_
      refine g_ldiv (pc := 22) E dX6_factorOf_22 (by decide) ?_
      exact hret _ _ _ _ dX6_factorOf_23 (congrArg (fun z => (z, σ)) (Option.some.inj hf))
  · replace hf := fq_t c1 hf
    refine g_lload_n (pc := 5) E dX6_factorOf_5 0 rfl rfl ?_
    exact hret _ _ _ _ dX6_factorOf_6 (congrArg (fun z => (z, σ)) (Option.some.inj hf))

/-! X5_greatestNext -/
theorem wX5_greatestNext_0 : Cond.fieldLink RX5 19 "FairQueue$Player" "next" "[J" ∈ wsX5_greatestNext := by decide +kernel
theorem uX5_greatestNext_X5 : ∀ w ∈ u_ws RX5 TX5 5, w ∈ wsX5_greatestNext := (fun _ h => List.mem_cons_of_mem _ (List.mem_append_right _ h))
theorem kcX5_greatestNext : yX5_greatestNext.cls = RX5 ∧ yX5_greatestNext.cls ≠ "java/lang/invoke/MethodHandle" ∧ yX5_greatestNext.cls ≠ "java/lang/invoke/VarHandle" ∧ (parseMethodDescriptor yX5_greatestNext.desc).map (fun d => d.parameters.length) = some 0 := by decide +kernel
def pX5_greatestNext_L4b (k n : Nat) (σ : fqS) (p : Nat) (rec : (Int32 × Int32) → Option Int32) (x1 : Int32) (x2 : Int32) : Option Int32 :=
  (if (7 : Int32) ≤ x2 then some x1 else (if x2 < 0 ∨ 7 ≤ Int32.toNatClampNeg x2 then none else (if x1 < 0 ∨ 7 ≤ Int32.toNatClampNeg x1 then none else (if (fqJ σ (26 + 4 * p + 2) (Int32.toNatClampNeg x2)) ≤ (fqJ σ (26 + 4 * p + 2) (Int32.toNatClampNeg x1)) then (rec (x1, (x2 + (1 : Int32)))) else (rec (x2, (x2 + (1 : Int32))))))))
def pX5_greatestNext_L4 (k n : Nat) (σ : fqS) (p : Nat) : (Int32 × Int32) → Option Int32 := fqL (fun rec (s : (Int32 × Int32)) => pX5_greatestNext_L4b k n σ p rec s.1 s.2) k
def pX5_greatestNext (k n : Nat) (σ : fqS) (p : Nat) : Option Int32 :=
  (pX5_greatestNext_L4 k n σ p ((0 : Int32), (1 : Int32)))
set_option maxRecDepth 100000 in
set_option maxHeartbeats 4000000 in
theorem tX5_greatestNext_L4 {k : Nat} {X : fqX} {cy : Nat → ClassId} {ad : Nat → Nat} {n : Nat} {σ : fqS} {r : Int32} {p : Nat} (E : fqE X ({ frames := 0, cells := 0, slots := 0, locals := 0 } : Room) cy cX5_greatestNext 3 wsX5_greatestNext RX5) (hret : fqR_i X (TX cy) ZX ad n 3 cX5_greatestNext r σ) (hp : p < n) : ∀ (s : (Int32 × Int32)), pX5_greatestNext_L4 k n σ p s = some r → fqG X (TX cy) ZX ad n 3 0 0 σ 4 [(0, .ref (ad (26 + 4 * p))), (1, .int (s.1)), (2, .int (s.2))] [] := by
  unfold pX5_greatestNext_L4
  refine fqL_run (P := fun (s : (Int32 × Int32)) => fqG X (TX cy) ZX ad n 3 0 0 σ 4 [(0, .ref (ad (26 + 4 * p))), (1, .int (s.1)), (2, .int (s.2))] []) (fun rec s hrec hf => ?_) k
  obtain ⟨x1, x2⟩ := s
  have hf : pX5_greatestNext_L4b k n σ p rec x1 x2 = some r := hf
  unfold pX5_greatestNext_L4b at hf
  show fqG X (TX cy) ZX ad n 3 0 0 σ 4 [(0, .ref (ad (26 + 4 * p))), (1, .int x1), (2, .int x2)] []
  refine g_iload_n (pc := 4) E dX5_greatestNext_4 2 rfl rfl ?_
  refine g_aload_n (pc := 5) E dX5_greatestNext_5 0 rfl rfl ?_
  refine g_getfield (pc := 6) E uX5_greatestNext_X5 (26 + 4 * p) (zx_p0 hp) (tx_p cy ad n p) rfl 2 (by decide) wX5_greatestNext_0 (.ref (ad (26 + 4 * p + 2))) rfl dX5_greatestNext_6 ?_
  refine g_alen (pc := 9) E (26 + 4 * p + 2) (zx_p hp (by decide)) 1 (tx_p2 cy ad n p) rfl (7 : Int32) (by rfl) dX5_greatestNext_9 ?_
  refine g_icmp_ge (pc := 10) E 37 dX5_greatestNext_10 (by decide) (fun c1 => ?_) (fun c1 => ?_)
  · replace hf := fq_t c1 hf
    refine g_iload_n (pc := 37) E dX5_greatestNext_37 1 rfl rfl ?_
    exact hret _ _ _ _ dX5_greatestNext_38 (congrArg (fun z => (z, σ)) (Option.some.inj hf))
  · replace hf := fq_f c1 hf
    refine g_aload_n (pc := 13) E dX5_greatestNext_13 0 rfl rfl ?_
    refine g_getfield (pc := 14) E uX5_greatestNext_X5 (26 + 4 * p) (zx_p0 hp) (tx_p cy ad n p) rfl 2 (by decide) wX5_greatestNext_0 (.ref (ad (26 + 4 * p + 2))) rfl dX5_greatestNext_14 ?_
    refine g_iload_n (pc := 17) E dX5_greatestNext_17 2 rfl rfl ?_
    obtain ⟨h2, hf⟩ := fq_in hf
    refine g_laload (pc := 18) E (26 + 4 * p + 2) (zx_p hp (by decide)) (tx_p2 cy ad n p) h2 dX5_greatestNext_18 ?_
    refine g_aload_n (pc := 19) E dX5_greatestNext_19 0 rfl rfl ?_
    refine g_getfield (pc := 20) E uX5_greatestNext_X5 (26 + 4 * p) (zx_p0 hp) (tx_p cy ad n p) rfl 2 (by decide) wX5_greatestNext_0 (.ref (ad (26 + 4 * p + 2))) rfl dX5_greatestNext_20 ?_
    refine g_iload_n (pc := 23) E dX5_greatestNext_23 1 rfl rfl ?_
    obtain ⟨h3, hf⟩ := fq_in hf
    refine g_laload (pc := 24) E (26 + 4 * p + 2) (zx_p hp (by decide)) (tx_p2 cy ad n p) h3 dX5_greatestNext_24 ?_
    refine g_lif_le (pc := 25) E 31 dX5_greatestNext_25 dX5_greatestNext_26 (by decide) (fun c4 => ?_) (fun c4 => ?_)
    · replace hf := fq_t c4 hf
      refine g_iinc (pc := 31) E (x2 + (1 : Int32)) [(2, .int (x2 + (1 : Int32))), (0, .ref (ad (26 + 4 * p))), (1, .int x1)] dX5_greatestNext_31 2 rfl rfl (by decide) rfl ?_
      refine g_goto (pc := 34) E 4 dX5_greatestNext_34 (by decide) ?_
      refine g_lv [1, 2, 0] rfl ?_
      exact hrec _ hf
    · replace hf := fq_f c4 hf
      refine g_iload_n (pc := 29) E dX5_greatestNext_29 2 rfl rfl ?_
      refine g_istore_n (pc := 30) E [(1, .int x2), (0, .ref (ad (26 + 4 * p))), (2, .int x2)] dX5_greatestNext_30 rfl (by decide) rfl ?_
      refine g_iinc (pc := 31) E (x2 + (1 : Int32)) [(2, .int (x2 + (1 : Int32))), (1, .int x2), (0, .ref (ad (26 + 4 * p)))] dX5_greatestNext_31 2 rfl rfl (by decide) rfl ?_
      refine g_goto (pc := 34) E 4 dX5_greatestNext_34 (by decide) ?_
      refine g_lv [2, 1, 0] rfl ?_
      exact hrec _ hf
set_option maxRecDepth 100000 in
set_option maxHeartbeats 4000000 in
theorem qX5_greatestNext (l : Launch) (D : va_G) (cy : Nat → ClassId) (ad : Nat → Nat) (sz n : Nat) (σ : fqS) (k : Nat) (p : Nat) (hp : p < n) {r : Int32} (hf : pX5_greatestNext k n σ p = some r) : Met l yX5_greatestNext wsX5_greatestNext ({ frames := 0, cells := 0, slots := 0, locals := 0 } : Room) (fqPc (TX cy) ZX D cy ad sz n σ [.ref (ad (26 + 4 * p))]) (fqQi (TX cy) ZX D ad sz n σ r σ) 0 0 (fqA (TX cy) ZX ad sz n σ) := by
  refine fq_enter_i (cc := cX5_greatestNext) (maxL := 3) (own := RX5) _ (by decide) rfl (Nat.le_of_ble_eq_true rfl) rfl (fun X E hret => ?_)
  unfold pX5_greatestNext at hf
  show fqG X (TX cy) ZX ad n 3 0 0 σ 0 [(0, .ref (ad (26 + 4 * p)))] []
  refine g_iconst (pc := 0) E (0 : Int32) dX5_greatestNext_0 (by decide) ?_
  refine g_istore_n (pc := 1) E [(1, .int (0 : Int32)), (0, .ref (ad (26 + 4 * p)))] dX5_greatestNext_1 rfl (by decide) rfl ?_
  refine g_iconst (pc := 2) E (1 : Int32) dX5_greatestNext_2 (by decide) ?_
  refine g_istore_n (pc := 3) E [(2, .int (1 : Int32)), (1, .int (0 : Int32)), (0, .ref (ad (26 + 4 * p)))] dX5_greatestNext_3 rfl (by decide) rfl ?_
  refine g_lv [2, 1, 0] rfl ?_
  exact tX5_greatestNext_L4 E hret hp _ hf

/-! X5_moveNext -/
theorem wX5_moveNext_0 : Cond.fieldLink RX5 19 "FairQueue$Player" "next" "[J" ∈ wsX5_moveNext := by decide +kernel
theorem uX5_moveNext_X5 : ∀ w ∈ u_ws RX5 TX5 5, w ∈ wsX5_moveNext := (fun _ h => List.mem_cons_of_mem _ (List.mem_append_right _ h))
theorem wX5_moveNext_2 : Cond.constantLong RX5 32 (1000000) ∈ wsX5_moveNext := by decide +kernel
theorem kcX5_moveNext : yX5_moveNext.cls = RX5 ∧ yX5_moveNext.cls ≠ "java/lang/invoke/MethodHandle" ∧ yX5_moveNext.cls ≠ "java/lang/invoke/VarHandle" ∧ (parseMethodDescriptor yX5_moveNext.desc).map (fun d => d.parameters.length) = some 1 := by decide +kernel
def pX5_moveNext_L58b (k n : Nat) (p : Nat) (x2 : Int64) (rec : (Int64 × Int32 × fqS) → Option fqS) (x4 : Int64) (x6 : Int32) (σ : fqS) : Option fqS :=
  (if (7 : Int32) ≤ x6 then ((pX5_greatestNext k n σ p).bind (fun r5 => (if r5 < 0 ∨ 7 ≤ Int32.toNatClampNeg r5 then none else (fqN (fqPJ σ (26 + 4 * p + 2) (Int32.toNatClampNeg r5) ((fqJ σ (26 + 4 * p + 2) (Int32.toNatClampNeg r5)) + x4)) (fun σ7 => some σ7))))) else (if (7 : Int32) ≤ x6 then ((pX5_greatestNext k n σ p).bind (fun r11 => (if r11 < 0 ∨ 7 ≤ Int32.toNatClampNeg r11 then none else (fqN (fqPJ σ (26 + 4 * p + 2) (Int32.toNatClampNeg r11) ((fqJ σ (26 + 4 * p + 2) (Int32.toNatClampNeg r11)) + x4)) (fun σ13 => some σ13))))) else (if x6 < 0 ∨ 7 ≤ Int32.toNatClampNeg x6 then none else (if x2 = 0 then none else (fqN (fqPJ σ (26 + 4 * p + 2) (Int32.toNatClampNeg x6) ((((fqJ σ (26 + 4 * p + 2) (Int32.toNatClampNeg x6)) * (fqJ σ 3 (Int32.toNatClampNeg x6))) * (1000000 : Int64)) / x2)) (fun σ17 => (rec ((x4 - (fqJ σ17 (26 + 4 * p + 2) (Int32.toNatClampNeg x6))), (x6 + (1 : Int32)), σ17))))))))
def pX5_moveNext_L58 (k n : Nat) (p : Nat) (x2 : Int64) : (Int64 × Int32 × fqS) → Option fqS := fqL (fun rec (s : (Int64 × Int32 × fqS)) => pX5_moveNext_L58b k n p x2 rec s.1 s.2.1 s.2.2) k
def pX5_moveNext_L5b (k n : Nat) (p : Nat) (rec : (Int64 × Int32 × fqS) → Option fqS) (x2 : Int64) (x4 : Int32) (σ : fqS) : Option fqS :=
  (if (7 : Int32) ≤ x4 then (if (0 : Int64) < x2 then (pX5_moveNext_L58 k n p x2 ((1000000 : Int64), (0 : Int32), σ)) else some σ) else (if (7 : Int32) ≤ x4 then (if (0 : Int64) < x2 then (pX5_moveNext_L58 k n p x2 ((1000000 : Int64), (0 : Int32), σ)) else some σ) else (if x4 < 0 ∨ 7 ≤ Int32.toNatClampNeg x4 then none else (rec ((x2 + ((fqJ σ (26 + 4 * p + 2) (Int32.toNatClampNeg x4)) * (fqJ σ 3 (Int32.toNatClampNeg x4)))), (x4 + (1 : Int32)), σ)))))
def pX5_moveNext_L5 (k n : Nat) (p : Nat) : (Int64 × Int32 × fqS) → Option fqS := fqL (fun rec (s : (Int64 × Int32 × fqS)) => pX5_moveNext_L5b k n p rec s.1 s.2.1 s.2.2) k
def pX5_moveNext (k n : Nat) (σ : fqS) (p : Nat) : Option fqS :=
  (pX5_moveNext_L5 k n p ((0 : Int64), (0 : Int32), σ))
set_option maxRecDepth 100000 in
set_option maxHeartbeats 4000000 in
theorem tX5_moveNext_L58 {k : Nat} {X : fqX} {cy : Nat → ClassId} {ad : Nat → Nat} {n : Nat} {σ' : fqS} {p : Nat} {x2 : Int64} (E : fqE X ({ frames := 1, cells := 0, slots := 0, locals := 22 } : Room) cy cX5_moveNext 7 wsX5_moveNext RX5) (hret : fqR_v X (TX cy) ZX ad n 7 cX5_moveNext σ') (hp : p < n) : ∀ (s : (Int64 × Int32 × fqS)), pX5_moveNext_L58 k n p x2 s = some σ' → fqG X (TX cy) ZX ad n 7 0 0 (s.2.2) 58 [(0, .ref (ad (26 + 4 * p))), (1, .ref (ad 3)), (2, .long x2), (4, .long (s.1)), (6, .int (s.2.1))] [] := by
  unfold pX5_moveNext_L58
  refine fqL_run (P := fun (s : (Int64 × Int32 × fqS)) => fqG X (TX cy) ZX ad n 7 0 0 (s.2.2) 58 [(0, .ref (ad (26 + 4 * p))), (1, .ref (ad 3)), (2, .long x2), (4, .long (s.1)), (6, .int (s.2.1))] []) (fun rec s hrec hf => ?_) k
  obtain ⟨x4, x6, σ⟩ := s
  have hf : pX5_moveNext_L58b k n p x2 rec x4 x6 σ = some σ' := hf
  unfold pX5_moveNext_L58b at hf
  show fqG X (TX cy) ZX ad n 7 0 0 σ 58 [(0, .ref (ad (26 + 4 * p))), (1, .ref (ad 3)), (2, .long x2), (4, .long x4), (6, .int x6)] []
  refine g_iload (pc := 58) E dX5_moveNext_58 4 rfl ?_
  refine g_aload_n (pc := 60) E dX5_moveNext_60 0 rfl rfl ?_
  refine g_getfield (pc := 61) E uX5_moveNext_X5 (26 + 4 * p) (zx_p0 hp) (tx_p cy ad n p) rfl 2 (by decide) wX5_moveNext_0 (.ref (ad (26 + 4 * p + 2))) rfl dX5_moveNext_61 ?_
  refine g_alen (pc := 64) E (26 + 4 * p + 2) (zx_p hp (by decide)) 1 (tx_p2 cy ad n p) rfl (7 : Int32) (by rfl) dX5_moveNext_64 ?_
  refine g_icmp_ge (pc := 65) E 118 dX5_moveNext_65 (by decide) (fun c3 => ?_) (fun c3 => ?_)
  · replace hf := fq_t c3 hf
    refine g_aload_n (pc := 118) E dX5_moveNext_118 0 rfl rfl ?_
    refine g_getfield (pc := 119) E uX5_moveNext_X5 (26 + 4 * p) (zx_p0 hp) (tx_p cy ad n p) rfl 2 (by decide) wX5_moveNext_0 (.ref (ad (26 + 4 * p + 2))) rfl dX5_moveNext_119 ?_
    refine g_aload_n (pc := 122) E dX5_moveNext_122 0 rfl rfl ?_
    obtain ⟨r5, e4, hf⟩ := fq_b hf
    refine g_callVi (pc := 123) E (26 + 4 * p) (zx_p0 hp) (tx_p cy ad n p) rfl [] (fun l D sz => qX5_greatestNext l D cy ad sz n σ k p hp e4) gX5_moveNext_X5_greatestNext rfl rfl rfl kcX5_greatestNext ⟨by decide, by decide⟩ rfl rfl (Nat.le_of_ble_eq_true rfl) dX5_moveNext_123 ⟨by decide, by decide⟩ ?_
    refine g_dup2_11 (pc := 126) E dX5_moveNext_126 rfl rfl ?_
    obtain ⟨h6, hf⟩ := fq_in hf
    refine g_laload (pc := 127) E (26 + 4 * p + 2) (zx_p hp (by decide)) (tx_p2 cy ad n p) h6 dX5_moveNext_127 ?_
    refine g_lload (pc := 128) E dX5_moveNext_128 3 rfl ?_
    refine g_ladd (pc := 130) E dX5_moveNext_130 ?_
    refine g_lastore (pc := 131) E (26 + 4 * p + 2) (zx_p hp (by decide)) (tx_p2 cy ad n p) h6 dX5_moveNext_131 ?_
    obtain ⟨σ7, e8, hf⟩ := fq_n hf
    refine g_sg e8 ?_
    exact hret _ _ _ dX5_moveNext_132 (Option.some.inj hf)
  · replace hf := fq_f c3 hf
    refine g_iload (pc := 68) E dX5_moveNext_68 4 rfl ?_
    refine g_aload_n (pc := 70) E dX5_moveNext_70 1 rfl rfl ?_
    refine g_alen (pc := 71) E 3 (zx_l (by decide)) 1 (fun _ _ => rfl) rfl (7 : Int32) (by rfl) dX5_moveNext_71 ?_
    refine g_icmp_ge (pc := 72) E 118 dX5_moveNext_72 (by decide) (fun c9 => ?_) (fun c9 => ?_)
    · replace hf := fq_t c9 hf
      refine g_aload_n (pc := 118) E dX5_moveNext_118 0 rfl rfl ?_
      refine g_getfield (pc := 119) E uX5_moveNext_X5 (26 + 4 * p) (zx_p0 hp) (tx_p cy ad n p) rfl 2 (by decide) wX5_moveNext_0 (.ref (ad (26 + 4 * p + 2))) rfl dX5_moveNext_119 ?_
      refine g_aload_n (pc := 122) E dX5_moveNext_122 0 rfl rfl ?_
      obtain ⟨r11, e10, hf⟩ := fq_b hf
      refine g_callVi (pc := 123) E (26 + 4 * p) (zx_p0 hp) (tx_p cy ad n p) rfl [] (fun l D sz => qX5_greatestNext l D cy ad sz n σ k p hp e10) gX5_moveNext_X5_greatestNext rfl rfl rfl kcX5_greatestNext ⟨by decide, by decide⟩ rfl rfl (Nat.le_of_ble_eq_true rfl) dX5_moveNext_123 ⟨by decide, by decide⟩ ?_
      refine g_dup2_11 (pc := 126) E dX5_moveNext_126 rfl rfl ?_
      obtain ⟨h12, hf⟩ := fq_in hf
      refine g_laload (pc := 127) E (26 + 4 * p + 2) (zx_p hp (by decide)) (tx_p2 cy ad n p) h12 dX5_moveNext_127 ?_
      refine g_lload (pc := 128) E dX5_moveNext_128 3 rfl ?_
      refine g_ladd (pc := 130) E dX5_moveNext_130 ?_
      refine g_lastore (pc := 131) E (26 + 4 * p + 2) (zx_p hp (by decide)) (tx_p2 cy ad n p) h12 dX5_moveNext_131 ?_
      obtain ⟨σ13, e14, hf⟩ := fq_n hf
      refine g_sg e14 ?_
      exact hret _ _ _ dX5_moveNext_132 (Option.some.inj hf)
    · replace hf := fq_f c9 hf
      refine g_aload_n (pc := 75) E dX5_moveNext_75 0 rfl rfl ?_
      refine g_getfield (pc := 76) E uX5_moveNext_X5 (26 + 4 * p) (zx_p0 hp) (tx_p cy ad n p) rfl 2 (by decide) wX5_moveNext_0 (.ref (ad (26 + 4 * p + 2))) rfl dX5_moveNext_76 ?_
      refine g_iload (pc := 79) E dX5_moveNext_79 4 rfl ?_
      refine g_aload_n (pc := 81) E dX5_moveNext_81 0 rfl rfl ?_
      refine g_getfield (pc := 82) E uX5_moveNext_X5 (26 + 4 * p) (zx_p0 hp) (tx_p cy ad n p) rfl 2 (by decide) wX5_moveNext_0 (.ref (ad (26 + 4 * p + 2))) rfl dX5_moveNext_82 ?_
      refine g_iload (pc := 85) E dX5_moveNext_85 4 rfl ?_
      obtain ⟨h15, hf⟩ := fq_in hf
      refine g_laload (pc := 87) E (26 + 4 * p + 2) (zx_p hp (by decide)) (tx_p2 cy ad n p) h15 dX5_moveNext_87 ?_
      refine g_aload_n (pc := 88) E dX5_moveNext_88 1 rfl rfl ?_
      refine g_iload (pc := 89) E dX5_moveNext_89 4 rfl ?_
      refine g_laload (pc := 91) E 3 (zx_l (by decide)) (fun _ _ => rfl) h15 dX5_moveNext_91 ?_
      refine g_lmul (pc := 92) E dX5_moveNext_92 ?_
      refine g_ldc2_w (pc := 93) E dX5_moveNext_93 wX5_moveNext_2 ?_
      refine g_lmul (pc := 96) E dX5_moveNext_96 ?_
      refine g_lload_n (pc := 97) E dX5_moveNext_97 2 rfl rfl ?_
      obtain ⟨h16, hf⟩ := fq_z hf
      refine g_ldiv (pc := 98) E dX5_moveNext_98 h16 ?_
      refine g_lastore (pc := 99) E (26 + 4 * p + 2) (zx_p hp (by decide)) (tx_p2 cy ad n p) h15 dX5_moveNext_99 ?_
      obtain ⟨σ17, e18, hf⟩ := fq_n hf
      refine g_sg e18 ?_
      refine g_lload (pc := 100) E dX5_moveNext_100 3 rfl ?_
      refine g_aload_n (pc := 102) E dX5_moveNext_102 0 rfl rfl ?_
      refine g_getfield (pc := 103) E uX5_moveNext_X5 (26 + 4 * p) (zx_p0 hp) (tx_p cy ad n p) rfl 2 (by decide) wX5_moveNext_0 (.ref (ad (26 + 4 * p + 2))) rfl dX5_moveNext_103 ?_
      refine g_iload (pc := 106) E dX5_moveNext_106 4 rfl ?_
      refine g_laload (pc := 108) E (26 + 4 * p + 2) (zx_p hp (by decide)) (tx_p2 cy ad n p) h15 dX5_moveNext_108 ?_
      refine g_lsub (pc := 109) E dX5_moveNext_109 ?_
      refine g_lstore (pc := 110) E [(4, .long (x4 - (fqJ σ17 (26 + 4 * p + 2) (Int32.toNatClampNeg x6)))), (0, .ref (ad (26 + 4 * p))), (1, .ref (ad 3)), (2, .long x2), (6, .int x6)] dX5_moveNext_110 (by decide) rfl ?_
      refine g_iinc (pc := 112) E (x6 + (1 : Int32)) [(6, .int (x6 + (1 : Int32))), (4, .long (x4 - (fqJ σ17 (26 + 4 * p + 2) (Int32.toNatClampNeg x6)))), (0, .ref (ad (26 + 4 * p))), (1, .ref (ad 3)), (2, .long x2)] dX5_moveNext_112 4 rfl rfl (by decide) rfl ?_
      refine g_goto (pc := 115) E 58 dX5_moveNext_115 (by decide) ?_
      refine g_lv [2, 3, 4, 1, 0] rfl ?_
      exact hrec _ hf
set_option maxRecDepth 100000 in
set_option maxHeartbeats 4000000 in
theorem tX5_moveNext_L5 {k : Nat} {X : fqX} {cy : Nat → ClassId} {ad : Nat → Nat} {n : Nat} {σ' : fqS} {p : Nat} (E : fqE X ({ frames := 1, cells := 0, slots := 0, locals := 22 } : Room) cy cX5_moveNext 7 wsX5_moveNext RX5) (hret : fqR_v X (TX cy) ZX ad n 7 cX5_moveNext σ') (hp : p < n) : ∀ (s : (Int64 × Int32 × fqS)), pX5_moveNext_L5 k n p s = some σ' → fqG X (TX cy) ZX ad n 7 0 0 (s.2.2) 5 [(0, .ref (ad (26 + 4 * p))), (1, .ref (ad 3)), (2, .long (s.1)), (4, .int (s.2.1))] [] := by
  unfold pX5_moveNext_L5
  refine fqL_run (P := fun (s : (Int64 × Int32 × fqS)) => fqG X (TX cy) ZX ad n 7 0 0 (s.2.2) 5 [(0, .ref (ad (26 + 4 * p))), (1, .ref (ad 3)), (2, .long (s.1)), (4, .int (s.2.1))] []) (fun rec s hrec hf => ?_) k
  obtain ⟨x2, x4, σ⟩ := s
  have hf : pX5_moveNext_L5b k n p rec x2 x4 σ = some σ' := hf
  unfold pX5_moveNext_L5b at hf
  show fqG X (TX cy) ZX ad n 7 0 0 σ 5 [(0, .ref (ad (26 + 4 * p))), (1, .ref (ad 3)), (2, .long x2), (4, .int x4)] []
  refine g_iload (pc := 5) E dX5_moveNext_5 3 rfl ?_
  refine g_aload_n (pc := 7) E dX5_moveNext_7 0 rfl rfl ?_
  refine g_getfield (pc := 8) E uX5_moveNext_X5 (26 + 4 * p) (zx_p0 hp) (tx_p cy ad n p) rfl 2 (by decide) wX5_moveNext_0 (.ref (ad (26 + 4 * p + 2))) rfl dX5_moveNext_8 ?_
  refine g_alen (pc := 11) E (26 + 4 * p + 2) (zx_p hp (by decide)) 1 (tx_p2 cy ad n p) rfl (7 : Int32) (by rfl) dX5_moveNext_11 ?_
  refine g_icmp_ge (pc := 12) E 43 dX5_moveNext_12 (by decide) (fun c1 => ?_) (fun c1 => ?_)
  · replace hf := fq_t c1 hf
    refine g_lload_n (pc := 43) E dX5_moveNext_43 2 rfl rfl ?_
    refine g_lconst (pc := 44) E (0 : Int64) dX5_moveNext_44 (by decide) ?_
    refine g_lif_gt (pc := 45) E 50 dX5_moveNext_45 dX5_moveNext_46 (by decide) (fun c2 => ?_) (fun c2 => ?_)
    · replace hf := fq_t c2 hf
      refine g_ldc2_w (pc := 50) E dX5_moveNext_50 wX5_moveNext_2 ?_
      refine g_lstore (pc := 53) E [(4, .long (1000000 : Int64)), (0, .ref (ad (26 + 4 * p))), (1, .ref (ad 3)), (2, .long x2)] dX5_moveNext_53 (by decide) rfl ?_
      refine g_iconst (pc := 55) E (0 : Int32) dX5_moveNext_55 (by decide) ?_
      refine g_istore (pc := 56) E [(6, .int (0 : Int32)), (4, .long (1000000 : Int64)), (0, .ref (ad (26 + 4 * p))), (1, .ref (ad 3)), (2, .long x2)] dX5_moveNext_56 (by decide) rfl ?_
      refine g_lv [2, 3, 4, 1, 0] rfl ?_
      exact tX5_moveNext_L58 E hret hp _ hf
    · replace hf := fq_f c2 hf
      exact hret _ _ _ dX5_moveNext_49 (Option.some.inj hf)
  · replace hf := fq_f c1 hf
    refine g_iload (pc := 15) E dX5_moveNext_15 3 rfl ?_
    refine g_aload_n (pc := 17) E dX5_moveNext_17 1 rfl rfl ?_
    refine g_alen (pc := 18) E 3 (zx_l (by decide)) 1 (fun _ _ => rfl) rfl (7 : Int32) (by rfl) dX5_moveNext_18 ?_
    refine g_icmp_ge (pc := 19) E 43 dX5_moveNext_19 (by decide) (fun c19 => ?_) (fun c19 => ?_)
    · replace hf := fq_t c19 hf
      refine g_lload_n (pc := 43) E dX5_moveNext_43 2 rfl rfl ?_
      refine g_lconst (pc := 44) E (0 : Int64) dX5_moveNext_44 (by decide) ?_
      refine g_lif_gt (pc := 45) E 50 dX5_moveNext_45 dX5_moveNext_46 (by decide) (fun c20 => ?_) (fun c20 => ?_)
      · replace hf := fq_t c20 hf
        refine g_ldc2_w (pc := 50) E dX5_moveNext_50 wX5_moveNext_2 ?_
        refine g_lstore (pc := 53) E [(4, .long (1000000 : Int64)), (0, .ref (ad (26 + 4 * p))), (1, .ref (ad 3)), (2, .long x2)] dX5_moveNext_53 (by decide) rfl ?_
        refine g_iconst (pc := 55) E (0 : Int32) dX5_moveNext_55 (by decide) ?_
        refine g_istore (pc := 56) E [(6, .int (0 : Int32)), (4, .long (1000000 : Int64)), (0, .ref (ad (26 + 4 * p))), (1, .ref (ad 3)), (2, .long x2)] dX5_moveNext_56 (by decide) rfl ?_
        refine g_lv [2, 3, 4, 1, 0] rfl ?_
        exact tX5_moveNext_L58 E hret hp _ hf
      · replace hf := fq_f c20 hf
        exact hret _ _ _ dX5_moveNext_49 (Option.some.inj hf)
    · replace hf := fq_f c19 hf
      refine g_lload_n (pc := 22) E dX5_moveNext_22 2 rfl rfl ?_
      refine g_aload_n (pc := 23) E dX5_moveNext_23 0 rfl rfl ?_
      refine g_getfield (pc := 24) E uX5_moveNext_X5 (26 + 4 * p) (zx_p0 hp) (tx_p cy ad n p) rfl 2 (by decide) wX5_moveNext_0 (.ref (ad (26 + 4 * p + 2))) rfl dX5_moveNext_24 ?_
      refine g_iload (pc := 27) E dX5_moveNext_27 3 rfl ?_
      obtain ⟨h21, hf⟩ := fq_in hf
      refine g_laload (pc := 29) E (26 + 4 * p + 2) (zx_p hp (by decide)) (tx_p2 cy ad n p) h21 dX5_moveNext_29 ?_
      refine g_aload_n (pc := 30) E dX5_moveNext_30 1 rfl rfl ?_
      refine g_iload (pc := 31) E dX5_moveNext_31 3 rfl ?_
      refine g_laload (pc := 33) E 3 (zx_l (by decide)) (fun _ _ => rfl) h21 dX5_moveNext_33 ?_
      refine g_lmul (pc := 34) E dX5_moveNext_34 ?_
      refine g_ladd (pc := 35) E dX5_moveNext_35 ?_
      refine g_lstore_n (pc := 36) E [(2, .long (x2 + ((fqJ σ (26 + 4 * p + 2) (Int32.toNatClampNeg x4)) * (fqJ σ 3 (Int32.toNatClampNeg x4))))), (0, .ref (ad (26 + 4 * p))), (1, .ref (ad 3)), (4, .int x4)] dX5_moveNext_36 rfl (by decide) rfl ?_
      refine g_iinc (pc := 37) E (x4 + (1 : Int32)) [(4, .int (x4 + (1 : Int32))), (2, .long (x2 + ((fqJ σ (26 + 4 * p + 2) (Int32.toNatClampNeg x4)) * (fqJ σ 3 (Int32.toNatClampNeg x4))))), (0, .ref (ad (26 + 4 * p))), (1, .ref (ad 3))] dX5_moveNext_37 3 rfl rfl (by decide) rfl ?_
      refine g_goto (pc := 40) E 5 dX5_moveNext_40 (by decide) ?_
      refine g_lv [2, 3, 1, 0] rfl ?_
      exact hrec _ hf
set_option maxRecDepth 100000 in
set_option maxHeartbeats 4000000 in
theorem qX5_moveNext (l : Launch) (D : va_G) (cy : Nat → ClassId) (ad : Nat → Nat) (sz n : Nat) (σ : fqS) (k : Nat) (p : Nat) (hp : p < n) {σ' : fqS} (hf : pX5_moveNext k n σ p = some σ') : Met l yX5_moveNext wsX5_moveNext ({ frames := 1, cells := 0, slots := 0, locals := 22 } : Room) (fqPc (TX cy) ZX D cy ad sz n σ [.ref (ad (26 + 4 * p)), .ref (ad 3)]) (fqQv (TX cy) ZX D ad sz n σ σ') 0 0 (fqA (TX cy) ZX ad sz n σ) := by
  refine fq_enter_v (cc := cX5_moveNext) (maxL := 7) (own := RX5) _ (by decide) rfl (Nat.le_of_ble_eq_true rfl) rfl (fun X E hret => ?_)
  unfold pX5_moveNext at hf
  show fqG X (TX cy) ZX ad n 7 0 0 σ 0 [(0, .ref (ad (26 + 4 * p))), (1, .ref (ad 3))] []
  refine g_lconst (pc := 0) E (0 : Int64) dX5_moveNext_0 (by decide) ?_
  refine g_lstore_n (pc := 1) E [(2, .long (0 : Int64)), (0, .ref (ad (26 + 4 * p))), (1, .ref (ad 3))] dX5_moveNext_1 rfl (by decide) rfl ?_
  refine g_iconst (pc := 2) E (0 : Int32) dX5_moveNext_2 (by decide) ?_
  refine g_istore (pc := 3) E [(4, .int (0 : Int32)), (2, .long (0 : Int64)), (0, .ref (ad (26 + 4 * p))), (1, .ref (ad 3))] dX5_moveNext_3 (by decide) rfl ?_
  refine g_lv [2, 3, 1, 0] rfl ?_
  exact tX5_moveNext_L5 E hret hp _ hf

/-! X5_reckonNext -/
theorem wX5_reckonNext_0 : Cond.fieldLink RX5 19 "FairQueue$Player" "next" "[J" ∈ wsX5_reckonNext := by decide +kernel
theorem uX5_reckonNext_X5 : ∀ w ∈ u_ws RX5 TX5 5, w ∈ wsX5_reckonNext := (fun _ h => List.mem_cons_of_mem _ (List.mem_append_right _ h))
theorem wX5_reckonNext_2 : Cond.fieldLink RX5 9 "FairQueue$Player" "kind" "I" ∈ wsX5_reckonNext := by decide +kernel
theorem wX5_reckonNext_3 : Cond.fieldLink RX5 15 "FairQueue$Player" "shares" "[J" ∈ wsX5_reckonNext := by decide +kernel
theorem kcX5_reckonNext : yX5_reckonNext.cls = RX5 ∧ yX5_reckonNext.cls ≠ "java/lang/invoke/MethodHandle" ∧ yX5_reckonNext.cls ≠ "java/lang/invoke/VarHandle" ∧ (parseMethodDescriptor yX5_reckonNext.desc).map (fun d => d.parameters.length) = some 1 := by decide +kernel
def pX5_reckonNext_L2b (k n : Nat) (p : Nat) (rec : (Int32 × fqS) → Option fqS) (x2 : Int32) (σ : fqS) : Option fqS :=
  (if (7 : Int32) ≤ x2 then ((pX5_moveNext k n σ p).bind (fun σ3 => (if (fqI σ3 (26 + 4 * p) 0) = (1 : Int32) then ((pX5_moveNext k n σ3 p).bind (fun σ6 => some σ6)) else some σ3))) else (if (7 : Int32) ≤ x2 then ((pX5_moveNext k n σ p).bind (fun σ9 => (if (fqI σ9 (26 + 4 * p) 0) = (1 : Int32) then ((pX5_moveNext k n σ9 p).bind (fun σ12 => some σ12)) else some σ9))) else (if x2 < 0 ∨ 7 ≤ Int32.toNatClampNeg x2 then none else (fqN (fqPJ σ (26 + 4 * p + 2) (Int32.toNatClampNeg x2) (fqJ σ (26 + 4 * p + 1) (Int32.toNatClampNeg x2))) (fun σ14 => (rec ((x2 + (1 : Int32)), σ14)))))))
def pX5_reckonNext_L2 (k n : Nat) (p : Nat) : (Int32 × fqS) → Option fqS := fqL (fun rec (s : (Int32 × fqS)) => pX5_reckonNext_L2b k n p rec s.1 s.2) k
def pX5_reckonNext (k n : Nat) (σ : fqS) (p : Nat) : Option fqS :=
  (pX5_reckonNext_L2 k n p ((0 : Int32), σ))
set_option maxRecDepth 100000 in
set_option maxHeartbeats 4000000 in
theorem tX5_reckonNext_L2 {k : Nat} {X : fqX} {cy : Nat → ClassId} {ad : Nat → Nat} {n : Nat} {σ' : fqS} {p : Nat} (E : fqE X ({ frames := 2, cells := 0, slots := 0, locals := 48 } : Room) cy cX5_reckonNext 3 wsX5_reckonNext RX5) (hret : fqR_v X (TX cy) ZX ad n 3 cX5_reckonNext σ') (hp : p < n) : ∀ (s : (Int32 × fqS)), pX5_reckonNext_L2 k n p s = some σ' → fqG X (TX cy) ZX ad n 3 0 0 (s.2) 2 [(0, .ref (ad (26 + 4 * p))), (1, .ref (ad 3)), (2, .int (s.1))] [] := by
  unfold pX5_reckonNext_L2
  refine fqL_run (P := fun (s : (Int32 × fqS)) => fqG X (TX cy) ZX ad n 3 0 0 (s.2) 2 [(0, .ref (ad (26 + 4 * p))), (1, .ref (ad 3)), (2, .int (s.1))] []) (fun rec s hrec hf => ?_) k
  obtain ⟨x2, σ⟩ := s
  have hf : pX5_reckonNext_L2b k n p rec x2 σ = some σ' := hf
  unfold pX5_reckonNext_L2b at hf
  show fqG X (TX cy) ZX ad n 3 0 0 σ 2 [(0, .ref (ad (26 + 4 * p))), (1, .ref (ad 3)), (2, .int x2)] []
  refine g_iload_n (pc := 2) E dX5_reckonNext_2 2 rfl rfl ?_
  refine g_aload_n (pc := 3) E dX5_reckonNext_3 0 rfl rfl ?_
  refine g_getfield (pc := 4) E uX5_reckonNext_X5 (26 + 4 * p) (zx_p0 hp) (tx_p cy ad n p) rfl 2 (by decide) wX5_reckonNext_0 (.ref (ad (26 + 4 * p + 2))) rfl dX5_reckonNext_4 ?_
  refine g_alen (pc := 7) E (26 + 4 * p + 2) (zx_p hp (by decide)) 1 (tx_p2 cy ad n p) rfl (7 : Int32) (by rfl) dX5_reckonNext_7 ?_
  refine g_icmp_ge (pc := 8) E 38 dX5_reckonNext_8 (by decide) (fun c1 => ?_) (fun c1 => ?_)
  · replace hf := fq_t c1 hf
    refine g_aload_n (pc := 38) E dX5_reckonNext_38 0 rfl rfl ?_
    refine g_aload_n (pc := 39) E dX5_reckonNext_39 1 rfl rfl ?_
    obtain ⟨σ3, e2, hf⟩ := fq_b hf
    refine g_callVv (pc := 40) E (26 + 4 * p) (zx_p0 hp) (tx_p cy ad n p) rfl [.ref (ad 3)] (fun l D sz => qX5_moveNext l D cy ad sz n σ k p hp e2) gX5_reckonNext_X5_moveNext rfl rfl rfl kcX5_moveNext ⟨by decide, by decide⟩ rfl rfl (Nat.le_of_ble_eq_true rfl) dX5_reckonNext_40 ⟨by decide, by decide⟩ ?_
    refine g_aload_n (pc := 43) E dX5_reckonNext_43 0 rfl rfl ?_
    refine g_getfield (pc := 44) E uX5_reckonNext_X5 (26 + 4 * p) (zx_p0 hp) (tx_p cy ad n p) rfl 0 (by decide) wX5_reckonNext_2 (.int (fqI σ3 (26 + 4 * p) 0)) rfl dX5_reckonNext_44 ?_
    refine g_iconst (pc := 47) E (1 : Int32) dX5_reckonNext_47 (by decide) ?_
    refine g_icmp_ne (pc := 48) E 56 dX5_reckonNext_48 (by decide) (fun c4 => ?_) (fun c4 => ?_)
    · replace hf := fq_f c4 hf
      exact hret _ _ _ dX5_reckonNext_56 (Option.some.inj hf)
    · replace hf := fq_t c4 hf
      refine g_aload_n (pc := 51) E dX5_reckonNext_51 0 rfl rfl ?_
      refine g_aload_n (pc := 52) E dX5_reckonNext_52 1 rfl rfl ?_
      obtain ⟨σ6, e5, hf⟩ := fq_b hf
      refine g_callVv (pc := 53) E (26 + 4 * p) (zx_p0 hp) (tx_p cy ad n p) rfl [.ref (ad 3)] (fun l D sz => qX5_moveNext l D cy ad sz n σ3 k p hp e5) gX5_reckonNext_X5_moveNext rfl rfl rfl kcX5_moveNext ⟨by decide, by decide⟩ rfl rfl (Nat.le_of_ble_eq_true rfl) dX5_reckonNext_53 ⟨by decide, by decide⟩ ?_
      exact hret _ _ _ dX5_reckonNext_56 (Option.some.inj hf)
  · replace hf := fq_f c1 hf
    refine g_iload_n (pc := 11) E dX5_reckonNext_11 2 rfl rfl ?_
    refine g_aload_n (pc := 12) E dX5_reckonNext_12 0 rfl rfl ?_
    refine g_getfield (pc := 13) E uX5_reckonNext_X5 (26 + 4 * p) (zx_p0 hp) (tx_p cy ad n p) rfl 1 (by decide) wX5_reckonNext_3 (.ref (ad (26 + 4 * p + 1))) rfl dX5_reckonNext_13 ?_
    refine g_alen (pc := 16) E (26 + 4 * p + 1) (zx_p hp (by decide)) 1 (tx_p1 cy ad n p) rfl (7 : Int32) (by rfl) dX5_reckonNext_16 ?_
    refine g_icmp_ge (pc := 17) E 38 dX5_reckonNext_17 (by decide) (fun c7 => ?_) (fun c7 => ?_)
    · replace hf := fq_t c7 hf
      refine g_aload_n (pc := 38) E dX5_reckonNext_38 0 rfl rfl ?_
      refine g_aload_n (pc := 39) E dX5_reckonNext_39 1 rfl rfl ?_
      obtain ⟨σ9, e8, hf⟩ := fq_b hf
      refine g_callVv (pc := 40) E (26 + 4 * p) (zx_p0 hp) (tx_p cy ad n p) rfl [.ref (ad 3)] (fun l D sz => qX5_moveNext l D cy ad sz n σ k p hp e8) gX5_reckonNext_X5_moveNext rfl rfl rfl kcX5_moveNext ⟨by decide, by decide⟩ rfl rfl (Nat.le_of_ble_eq_true rfl) dX5_reckonNext_40 ⟨by decide, by decide⟩ ?_
      refine g_aload_n (pc := 43) E dX5_reckonNext_43 0 rfl rfl ?_
      refine g_getfield (pc := 44) E uX5_reckonNext_X5 (26 + 4 * p) (zx_p0 hp) (tx_p cy ad n p) rfl 0 (by decide) wX5_reckonNext_2 (.int (fqI σ9 (26 + 4 * p) 0)) rfl dX5_reckonNext_44 ?_
      refine g_iconst (pc := 47) E (1 : Int32) dX5_reckonNext_47 (by decide) ?_
      refine g_icmp_ne (pc := 48) E 56 dX5_reckonNext_48 (by decide) (fun c10 => ?_) (fun c10 => ?_)
      · replace hf := fq_f c10 hf
        exact hret _ _ _ dX5_reckonNext_56 (Option.some.inj hf)
      · replace hf := fq_t c10 hf
        refine g_aload_n (pc := 51) E dX5_reckonNext_51 0 rfl rfl ?_
        refine g_aload_n (pc := 52) E dX5_reckonNext_52 1 rfl rfl ?_
        obtain ⟨σ12, e11, hf⟩ := fq_b hf
        refine g_callVv (pc := 53) E (26 + 4 * p) (zx_p0 hp) (tx_p cy ad n p) rfl [.ref (ad 3)] (fun l D sz => qX5_moveNext l D cy ad sz n σ9 k p hp e11) gX5_reckonNext_X5_moveNext rfl rfl rfl kcX5_moveNext ⟨by decide, by decide⟩ rfl rfl (Nat.le_of_ble_eq_true rfl) dX5_reckonNext_53 ⟨by decide, by decide⟩ ?_
        exact hret _ _ _ dX5_reckonNext_56 (Option.some.inj hf)
    · replace hf := fq_f c7 hf
      refine g_aload_n (pc := 20) E dX5_reckonNext_20 0 rfl rfl ?_
      refine g_getfield (pc := 21) E uX5_reckonNext_X5 (26 + 4 * p) (zx_p0 hp) (tx_p cy ad n p) rfl 2 (by decide) wX5_reckonNext_0 (.ref (ad (26 + 4 * p + 2))) rfl dX5_reckonNext_21 ?_
      refine g_iload_n (pc := 24) E dX5_reckonNext_24 2 rfl rfl ?_
      refine g_aload_n (pc := 25) E dX5_reckonNext_25 0 rfl rfl ?_
      refine g_getfield (pc := 26) E uX5_reckonNext_X5 (26 + 4 * p) (zx_p0 hp) (tx_p cy ad n p) rfl 1 (by decide) wX5_reckonNext_3 (.ref (ad (26 + 4 * p + 1))) rfl dX5_reckonNext_26 ?_
      refine g_iload_n (pc := 29) E dX5_reckonNext_29 2 rfl rfl ?_
      obtain ⟨h13, hf⟩ := fq_in hf
      refine g_laload (pc := 30) E (26 + 4 * p + 1) (zx_p hp (by decide)) (tx_p1 cy ad n p) h13 dX5_reckonNext_30 ?_
      refine g_lastore (pc := 31) E (26 + 4 * p + 2) (zx_p hp (by decide)) (tx_p2 cy ad n p) h13 dX5_reckonNext_31 ?_
      obtain ⟨σ14, e15, hf⟩ := fq_n hf
      refine g_sg e15 ?_
      refine g_iinc (pc := 32) E (x2 + (1 : Int32)) [(2, .int (x2 + (1 : Int32))), (0, .ref (ad (26 + 4 * p))), (1, .ref (ad 3))] dX5_reckonNext_32 2 rfl rfl (by decide) rfl ?_
      refine g_goto (pc := 35) E 2 dX5_reckonNext_35 (by decide) ?_
      refine g_lv [1, 2, 0] rfl ?_
      exact hrec _ hf
set_option maxRecDepth 100000 in
set_option maxHeartbeats 4000000 in
theorem qX5_reckonNext (l : Launch) (D : va_G) (cy : Nat → ClassId) (ad : Nat → Nat) (sz n : Nat) (σ : fqS) (k : Nat) (p : Nat) (hp : p < n) {σ' : fqS} (hf : pX5_reckonNext k n σ p = some σ') : Met l yX5_reckonNext wsX5_reckonNext ({ frames := 2, cells := 0, slots := 0, locals := 48 } : Room) (fqPc (TX cy) ZX D cy ad sz n σ [.ref (ad (26 + 4 * p)), .ref (ad 3)]) (fqQv (TX cy) ZX D ad sz n σ σ') 0 0 (fqA (TX cy) ZX ad sz n σ) := by
  refine fq_enter_v (cc := cX5_reckonNext) (maxL := 3) (own := RX5) _ (by decide) rfl (Nat.le_of_ble_eq_true rfl) rfl (fun X E hret => ?_)
  unfold pX5_reckonNext at hf
  show fqG X (TX cy) ZX ad n 3 0 0 σ 0 [(0, .ref (ad (26 + 4 * p))), (1, .ref (ad 3))] []
  refine g_iconst (pc := 0) E (0 : Int32) dX5_reckonNext_0 (by decide) ?_
  refine g_istore_n (pc := 1) E [(2, .int (0 : Int32)), (0, .ref (ad (26 + 4 * p))), (1, .ref (ad 3))] dX5_reckonNext_1 rfl (by decide) rfl ?_
  refine g_lv [1, 2, 0] rfl ?_
  exact tX5_reckonNext_L2 E hret hp _ hf

/-! X6_reckon -/
theorem wX6_reckon_0 : Cond.constantLong RX6 76 (500000) ∈ wsX6_reckon := by decide +kernel
theorem wX6_reckon_1 : Cond.fieldLink RX6 17 "FairQueue$Players" "factors" "[J" ∈ wsX6_reckon := by decide +kernel
theorem uX6_reckon_X6 : ∀ w ∈ u_ws RX6 TX6 3, w ∈ wsX6_reckon := (fun _ h => List.mem_cons_of_mem _ (List.mem_append_left _ (List.mem_append_right _ h)))
theorem kcX6_reckon : yX6_reckon.cls = RX6 ∧ yX6_reckon.cls ≠ "java/lang/invoke/MethodHandle" ∧ yX6_reckon.cls ≠ "java/lang/invoke/VarHandle" ∧ (parseMethodDescriptor yX6_reckon.desc).map (fun d => d.parameters.length) = some 3 := by decide +kernel
def pX6_reckon_L35b (k n : Nat) (p1 : Nat) (x2 : Int32) (x3 : Int32) (x4 : Int32) (rec : (Int32 × fqS) → Option (Int32 × fqS)) (x5 : Int32) (σ : fqS) : Option (Int32 × fqS) :=
  (if (7 : Int32) ≤ x5 then ((pX5_reckonNext k n σ p1).bind (fun σ10 => some ((1 : Int32), σ10))) else ((pX6_chanceAt k n σ x5 x4).bind (fun r12 => ((pX6_factorOf k n σ r12 x3).bind (fun r14 => (if x5 < 0 ∨ 7 ≤ Int32.toNatClampNeg x5 then none else (fqN (fqPJ σ 3 (Int32.toNatClampNeg x5) r14) (fun σ16 => (rec ((x5 + (1 : Int32)), σ16))))))))))
def pX6_reckon_L35 (k n : Nat) (p1 : Nat) (x2 : Int32) (x3 : Int32) (x4 : Int32) : (Int32 × fqS) → Option (Int32 × fqS) := fqL (fun rec (s : (Int32 × fqS)) => pX6_reckon_L35b k n p1 x2 x3 x4 rec s.1 s.2) k
def pX6_reckon (k n : Nat) (σ : fqS) (p1 : Nat) (x2 : Int32) (x3 : Int32) : Option (Int32 × fqS) :=
  ((pX6_undoubted k n σ x2).bind (fun r2 => (if r2 = 0 then some ((0 : Int32), σ) else ((pX6_chanceOf k n σ p1 r2).bind (fun r5 => ((pX5_keepSurprise k n σ p1 (((500000 : Int64) * (Int32.toInt64 x3)) - r5)).bind (fun σ7 => (pX6_reckon_L35 k n p1 x2 x3 r2 ((0 : Int32), σ7)))))))))
set_option maxRecDepth 100000 in
set_option maxHeartbeats 4000000 in
theorem tX6_reckon_L35 {k : Nat} {X : fqX} {cy : Nat → ClassId} {ad : Nat → Nat} {n : Nat} {r : Int32} {σ' : fqS} {p1 : Nat} {x2 : Int32} {x3 : Int32} {x4 : Int32} (E : fqE X ({ frames := 3, cells := 0, slots := 0, locals := 77 } : Room) cy cX6_reckon 6 wsX6_reckon RX6) (hret : fqR_z X (TX cy) ZX ad n 6 cX6_reckon r σ') (hp1 : p1 < n) : ∀ (s : (Int32 × fqS)), pX6_reckon_L35 k n p1 x2 x3 x4 s = some (r, σ') → fqG X (TX cy) ZX ad n 6 0 0 (s.2) 35 [(0, .ref (ad 1)), (1, .ref (ad (26 + 4 * p1))), (3, .int x3), (4, .int x4), (5, .int (s.1))] [] := by
  unfold pX6_reckon_L35
  refine fqL_run (P := fun (s : (Int32 × fqS)) => fqG X (TX cy) ZX ad n 6 0 0 (s.2) 35 [(0, .ref (ad 1)), (1, .ref (ad (26 + 4 * p1))), (3, .int x3), (4, .int x4), (5, .int (s.1))] []) (fun rec s hrec hf => ?_) k
  obtain ⟨x5, σ⟩ := s
  have hf : pX6_reckon_L35b k n p1 x2 x3 x4 rec x5 σ = some (r, σ') := hf
  unfold pX6_reckon_L35b at hf
  show fqG X (TX cy) ZX ad n 6 0 0 σ 35 [(0, .ref (ad 1)), (1, .ref (ad (26 + 4 * p1))), (3, .int x3), (4, .int x4), (5, .int x5)] []
  refine g_iload (pc := 35) E dX6_reckon_35 4 rfl ?_
  refine g_aload_n (pc := 37) E dX6_reckon_37 0 rfl rfl ?_
  refine g_getfield (pc := 38) E uX6_reckon_X6 1 (zx_l (by decide)) (fun _ _ => rfl) rfl 1 (by decide) wX6_reckon_1 (.ref (ad 3)) rfl dX6_reckon_38 ?_
  refine g_alen (pc := 41) E 3 (zx_l (by decide)) 1 (fun _ _ => rfl) rfl (7 : Int32) (by rfl) dX6_reckon_41 ?_
  refine g_icmp_ge (pc := 42) E 70 dX6_reckon_42 (by decide) (fun c8 => ?_) (fun c8 => ?_)
  · replace hf := fq_t c8 hf
    refine g_aload_n (pc := 70) E dX6_reckon_70 1 rfl rfl ?_
    refine g_aload_n (pc := 71) E dX6_reckon_71 0 rfl rfl ?_
    refine g_getfield (pc := 72) E uX6_reckon_X6 1 (zx_l (by decide)) (fun _ _ => rfl) rfl 1 (by decide) wX6_reckon_1 (.ref (ad 3)) rfl dX6_reckon_72 ?_
    obtain ⟨σ10, e9, hf⟩ := fq_b hf
    refine g_callVv (pc := 75) E (26 + 4 * p1) (zx_p0 hp1) (tx_p cy ad n p1) rfl [.ref (ad 3)] (fun l D sz => qX5_reckonNext l D cy ad sz n σ k p1 hp1 e9) gX6_reckon_X5_reckonNext rfl rfl rfl kcX5_reckonNext ⟨by decide, by decide⟩ rfl rfl (Nat.le_of_ble_eq_true rfl) dX6_reckon_75 ⟨by decide, by decide⟩ ?_
    refine g_iconst (pc := 78) E (1 : Int32) dX6_reckon_78 (by decide) ?_
    exact hret _ _ _ _ rfl dX6_reckon_79 (Option.some.inj hf)
  · replace hf := fq_f c8 hf
    refine g_aload_n (pc := 45) E dX6_reckon_45 0 rfl rfl ?_
    refine g_getfield (pc := 46) E uX6_reckon_X6 1 (zx_l (by decide)) (fun _ _ => rfl) rfl 1 (by decide) wX6_reckon_1 (.ref (ad 3)) rfl dX6_reckon_46 ?_
    refine g_iload (pc := 49) E dX6_reckon_49 4 rfl ?_
    refine g_aload_n (pc := 51) E dX6_reckon_51 0 rfl rfl ?_
    refine g_iload (pc := 52) E dX6_reckon_52 4 rfl ?_
    refine g_iload (pc := 54) E dX6_reckon_54 3 rfl ?_
    obtain ⟨r12, e11, hf⟩ := fq_b hf
    refine g_callVl (pc := 56) E 1 (zx_l (by decide)) (fun _ _ => rfl) rfl [.int x5, .int x4] (fun l D sz => qX6_chanceAt l D cy ad sz n σ k x5 x4 e11) gX6_reckon_X6_chanceAt rfl rfl rfl kcX6_chanceAt ⟨by decide, by decide⟩ rfl rfl (Nat.le_of_ble_eq_true rfl) dX6_reckon_56 ⟨by decide, by decide⟩ ?_
    refine g_iload_n (pc := 59) E dX6_reckon_59 2 rfl rfl ?_
    obtain ⟨r14, e13, hf⟩ := fq_b hf
    refine g_callSl (pc := 60) E [.long r12, .int x3] (fun l D sz => qX6_factorOf l D cy ad sz n σ k r12 x3 e13) gX6_reckon_X6_factorOf rfl rfl rfl kcX6_factorOf ⟨by decide, by decide⟩ rfl rfl (Nat.le_of_ble_eq_true rfl) dX6_reckon_60 ⟨by decide, by decide⟩ ?_
    obtain ⟨h15, hf⟩ := fq_in hf
    refine g_lastore (pc := 63) E 3 (zx_l (by decide)) (fun _ _ => rfl) h15 dX6_reckon_63 ?_
    obtain ⟨σ16, e17, hf⟩ := fq_n hf
    refine g_sg e17 ?_
    refine g_iinc (pc := 64) E (x5 + (1 : Int32)) [(5, .int (x5 + (1 : Int32))), (0, .ref (ad 1)), (1, .ref (ad (26 + 4 * p1))), (3, .int x3), (4, .int x4)] dX6_reckon_64 4 rfl rfl (by decide) rfl ?_
    refine g_goto (pc := 67) E 35 dX6_reckon_67 (by decide) ?_
    refine g_lv [1, 2, 3, 4, 0] rfl ?_
    exact hrec _ hf
set_option maxRecDepth 100000 in
set_option maxHeartbeats 4000000 in
theorem qX6_reckon (l : Launch) (D : va_G) (cy : Nat → ClassId) (ad : Nat → Nat) (sz n : Nat) (σ : fqS) (k : Nat) (p1 : Nat) (x2 : Int32) (x3 : Int32) (hp1 : p1 < n) {r : Int32} {σ' : fqS} (hf : pX6_reckon k n σ p1 x2 x3 = some (r, σ')) : Met l yX6_reckon wsX6_reckon ({ frames := 3, cells := 0, slots := 0, locals := 77 } : Room) (fqPc (TX cy) ZX D cy ad sz n σ [.ref (ad 1), .ref (ad (26 + 4 * p1)), .int x2, .int x3]) (fqQi (TX cy) ZX D ad sz n σ r σ') 0 0 (fqA (TX cy) ZX ad sz n σ) := by
  refine fq_enter_z (cc := cX6_reckon) (maxL := 6) (own := RX6) _ (by decide) rfl (Nat.le_of_ble_eq_true rfl) rfl (fun X E hret => ?_)
  unfold pX6_reckon at hf
  show fqG X (TX cy) ZX ad n 6 0 0 σ 0 [(0, .ref (ad 1)), (1, .ref (ad (26 + 4 * p1))), (2, .int x2), (3, .int x3)] []
  refine g_aload_n (pc := 0) E dX6_reckon_0 0 rfl rfl ?_
  refine g_iload_n (pc := 1) E dX6_reckon_1 2 rfl rfl ?_
  obtain ⟨r2, e1, hf⟩ := fq_b hf
  refine g_callVi (pc := 2) E 1 (zx_l (by decide)) (fun _ _ => rfl) rfl [.int x2] (fun l D sz => qX6_undoubted l D cy ad sz n σ k x2 e1) gX6_reckon_X6_undoubted rfl rfl rfl kcX6_undoubted ⟨by decide, by decide⟩ rfl rfl (Nat.le_of_ble_eq_true rfl) dX6_reckon_2 ⟨by decide, by decide⟩ ?_
  refine g_istore (pc := 5) E [(4, .int r2), (0, .ref (ad 1)), (1, .ref (ad (26 + 4 * p1))), (2, .int x2), (3, .int x3)] dX6_reckon_5 (by decide) rfl ?_
  refine g_iload (pc := 7) E dX6_reckon_7 0 rfl ?_
  refine g_if_ne (pc := 9) E 14 dX6_reckon_9 (by decide) (fun c3 => ?_) (fun c3 => ?_)
  · replace hf := fq_f c3 hf
    refine g_aload_n (pc := 14) E dX6_reckon_14 2 rfl rfl ?_
    refine g_ldc2_w (pc := 15) E dX6_reckon_15 wX6_reckon_0 ?_
    refine g_iload_n (pc := 18) E dX6_reckon_18 4 rfl rfl ?_
    refine g_i2l (pc := 19) E dX6_reckon_19 ?_
    refine g_lmul (pc := 20) E dX6_reckon_20 ?_
    refine g_aload_n (pc := 21) E dX6_reckon_21 1 rfl rfl ?_
    refine g_aload_n (pc := 22) E dX6_reckon_22 2 rfl rfl ?_
    refine g_iload (pc := 23) E dX6_reckon_23 0 rfl ?_
    obtain ⟨r5, e4, hf⟩ := fq_b hf
    refine g_callVl (pc := 25) E 1 (zx_l (by decide)) (fun _ _ => rfl) rfl [.ref (ad (26 + 4 * p1)), .int r2] (fun l D sz => qX6_chanceOf l D cy ad sz n σ k p1 r2 hp1 e4) gX6_reckon_X6_chanceOf rfl rfl rfl kcX6_chanceOf ⟨by decide, by decide⟩ rfl rfl (Nat.le_of_ble_eq_true rfl) dX6_reckon_25 ⟨by decide, by decide⟩ ?_
    refine g_lsub (pc := 28) E dX6_reckon_28 ?_
    obtain ⟨σ7, e6, hf⟩ := fq_b hf
    refine g_callVv (pc := 29) E (26 + 4 * p1) (zx_p0 hp1) (tx_p cy ad n p1) rfl [.long (((500000 : Int64) * (Int32.toInt64 x3)) - r5)] (fun l D sz => qX5_keepSurprise l D cy ad sz n σ k p1 (((500000 : Int64) * (Int32.toInt64 x3)) - r5) hp1 e6) gX6_reckon_X5_keepSurprise rfl rfl rfl kcX5_keepSurprise ⟨by decide, by decide⟩ rfl rfl (Nat.le_of_ble_eq_true rfl) dX6_reckon_29 ⟨by decide, by decide⟩ ?_
    refine g_iconst (pc := 32) E (0 : Int32) dX6_reckon_32 (by decide) ?_
    refine g_istore (pc := 33) E [(5, .int (0 : Int32)), (4, .int r2), (0, .ref (ad 1)), (1, .ref (ad (26 + 4 * p1))), (2, .int x2), (3, .int x3)] dX6_reckon_33 (by decide) rfl ?_
    refine g_lv [2, 3, 5, 1, 0] rfl ?_
    exact tX6_reckon_L35 E hret hp1 _ hf
  · replace hf := fq_t c3 hf
    refine g_iconst (pc := 12) E (0 : Int32) dX6_reckon_12 (by decide) ?_
    exact hret _ _ _ _ rfl dX6_reckon_13 (Option.some.inj hf)

/-! X6_reckonTeam -/
theorem wX6_reckonTeam_0 : Cond.fieldLink RX6 11 "FairQueue$Players" "row" "[LFairQueue$Player;" ∈ wsX6_reckonTeam := by decide +kernel
theorem uX6_reckonTeam_X6 : ∀ w ∈ u_ws RX6 TX6 3, w ∈ wsX6_reckonTeam := (fun _ h => List.mem_cons_of_mem _ (List.mem_append_left _ (List.mem_append_right _ h)))
theorem wX6_reckonTeam_2 : Cond.initialized RX8 ∈ wsX6_reckonTeam := by decide +kernel
theorem wX6_reckonTeam_3 : Cond.static yX8_hasBit ∈ wsX6_reckonTeam := by decide +kernel
theorem wX6_reckonTeam_4 : Cond.static yX8_bitOf ∈ wsX6_reckonTeam := by decide +kernel
theorem kcX6_reckonTeam : yX6_reckonTeam.cls = RX6 ∧ yX6_reckonTeam.cls ≠ "java/lang/invoke/MethodHandle" ∧ yX6_reckonTeam.cls ≠ "java/lang/invoke/VarHandle" ∧ (parseMethodDescriptor yX6_reckonTeam.desc).map (fun d => d.parameters.length) = some 3 := by decide +kernel
def pX6_reckonTeam_L6b (k n : Nat) (x1 : Int32) (x2 : Int32) (x3 : Int32) (rec : (Int32 × Int32 × fqS) → Option (Int32 × fqS)) (x4 : Int32) (x5 : Int32) (σ : fqS) : Option (Int32 × fqS) :=
  (if (16 : Int32) ≤ x5 then some (x4, σ) else ((pX6_at k n σ x5).bind (fun r3 => (fqM r3 ((rec (x4, (x5 + (1 : Int32)), σ))) (fun z4 => (if z4 < n then ((pX8_hasBit k n σ x1 x5).bind (fun r7 => (if r7 = 0 then (rec (x4, (x5 + (1 : Int32)), σ)) else (fqB2 (pX6_reckon k n σ z4 x2 x3) (fun r10 σ11 => (if r10 = 0 then (rec (x4, (x5 + (1 : Int32)), σ11)) else ((pX8_bitOf k n σ11 x5).bind (fun r14 => (rec ((x4 ||| r14), (x5 + (1 : Int32)), σ11)))))))))) else none))))))
def pX6_reckonTeam_L6 (k n : Nat) (x1 : Int32) (x2 : Int32) (x3 : Int32) : (Int32 × Int32 × fqS) → Option (Int32 × fqS) := fqL (fun rec (s : (Int32 × Int32 × fqS)) => pX6_reckonTeam_L6b k n x1 x2 x3 rec s.1 s.2.1 s.2.2) k
def pX6_reckonTeam (k n : Nat) (σ : fqS) (x1 : Int32) (x2 : Int32) (x3 : Int32) : Option (Int32 × fqS) :=
  (pX6_reckonTeam_L6 k n x1 x2 x3 ((0 : Int32), (0 : Int32), σ))
set_option maxRecDepth 100000 in
set_option maxHeartbeats 4000000 in
theorem tX6_reckonTeam_L6 {k : Nat} {X : fqX} {cy : Nat → ClassId} {ad : Nat → Nat} {n : Nat} {r : Int32} {σ' : fqS} {x1 : Int32} {x2 : Int32} {x3 : Int32} (E : fqE X ({ frames := 4, cells := 0, slots := 0, locals := 102 } : Room) cy cX6_reckonTeam 7 wsX6_reckonTeam RX6) (hret : fqR_i X (TX cy) ZX ad n 7 cX6_reckonTeam r σ') : ∀ (s : (Int32 × Int32 × fqS)), pX6_reckonTeam_L6 k n x1 x2 x3 s = some (r, σ') → fqG X (TX cy) ZX ad n 7 0 0 (s.2.2) 6 [(0, .ref (ad 1)), (1, .int x1), (2, .int x2), (3, .int x3), (4, .int (s.1)), (5, .int (s.2.1))] [] := by
  unfold pX6_reckonTeam_L6
  refine fqL_run (P := fun (s : (Int32 × Int32 × fqS)) => fqG X (TX cy) ZX ad n 7 0 0 (s.2.2) 6 [(0, .ref (ad 1)), (1, .int x1), (2, .int x2), (3, .int x3), (4, .int (s.1)), (5, .int (s.2.1))] []) (fun rec s hrec hf => ?_) k
  obtain ⟨x4, x5, σ⟩ := s
  have hf : pX6_reckonTeam_L6b k n x1 x2 x3 rec x4 x5 σ = some (r, σ') := hf
  unfold pX6_reckonTeam_L6b at hf
  show fqG X (TX cy) ZX ad n 7 0 0 σ 6 [(0, .ref (ad 1)), (1, .int x1), (2, .int x2), (3, .int x3), (4, .int x4), (5, .int x5)] []
  refine g_iload (pc := 6) E dX6_reckonTeam_6 5 rfl ?_
  refine g_aload_n (pc := 8) E dX6_reckonTeam_8 0 rfl rfl ?_
  refine g_getfield (pc := 9) E uX6_reckonTeam_X6 1 (zx_l (by decide)) (fun _ _ => rfl) rfl 0 (by decide) wX6_reckonTeam_0 (.ref (ad 2)) rfl dX6_reckonTeam_9 ?_
  refine g_alen (pc := 12) E 2 (zx_l (by decide)) 4 (fun _ _ => rfl) rfl (16 : Int32) (by rfl) dX6_reckonTeam_12 ?_
  refine g_icmp_ge (pc := 13) E 65 dX6_reckonTeam_13 (by decide) (fun c1 => ?_) (fun c1 => ?_)
  · replace hf := fq_t c1 hf
    refine g_iload (pc := 65) E dX6_reckonTeam_65 4 rfl ?_
    exact hret _ _ _ _ dX6_reckonTeam_67 (Option.some.inj hf)
  · replace hf := fq_f c1 hf
    refine g_aload_n (pc := 16) E dX6_reckonTeam_16 0 rfl rfl ?_
    refine g_iload (pc := 17) E dX6_reckonTeam_17 5 rfl ?_
    obtain ⟨r3, e2, hf⟩ := fq_b hf
    refine g_callVq (pc := 19) E 1 (zx_l (by decide)) (fun _ _ => rfl) rfl [.int x5] (fun l D sz => qX6_at l D cy ad sz n σ k x5 e2) gX6_reckonTeam_X6_at rfl rfl rfl kcX6_at ⟨by decide, by decide⟩ rfl rfl (Nat.le_of_ble_eq_true rfl) dX6_reckonTeam_19 ⟨by decide, by decide⟩ ?_
    cases r3 with
    | none =>
      replace hf := fqM_n hf
      refine g_st (st' := [.null]) rfl ?_
      refine g_astoreN (pc := 22) E [(6, .null), (0, .ref (ad 1)), (1, .int x1), (2, .int x2), (3, .int x3), (4, .int x4), (5, .int x5)] dX6_reckonTeam_22 (by decide) rfl ?_
      refine g_aloadN (pc := 24) E dX6_reckonTeam_24 0 rfl ?_
      refine g_ifnullN (pc := 26) E 59 dX6_reckonTeam_26 (by decide) ?_
      refine g_iinc (pc := 59) E (x5 + (1 : Int32)) [(5, .int (x5 + (1 : Int32))), (6, .null), (0, .ref (ad 1)), (1, .int x1), (2, .int x2), (3, .int x3), (4, .int x4)] dX6_reckonTeam_59 6 rfl rfl (by decide) rfl ?_
      refine g_goto (pc := 62) E 6 dX6_reckonTeam_62 (by decide) ?_
      refine g_lv [2, 3, 4, 5, 6, 0] rfl ?_
      exact hrec _ hf
    | some z4 =>
      obtain ⟨h5, hf⟩ := fq_g (fqM_s hf)
      refine g_st (st' := [.ref (ad (26 + 4 * z4))]) rfl ?_
      refine g_astore (pc := 22) E [(6, .ref (ad (26 + 4 * z4))), (0, .ref (ad 1)), (1, .int x1), (2, .int x2), (3, .int x3), (4, .int x4), (5, .int x5)] dX6_reckonTeam_22 (by decide) rfl ?_
      refine g_aload (pc := 24) E dX6_reckonTeam_24 0 rfl ?_
      refine g_ifnull (pc := 26) E dX6_reckonTeam_26 ?_
      refine g_iload_n (pc := 29) E dX6_reckonTeam_29 2 rfl rfl ?_
      refine g_iload (pc := 30) E dX6_reckonTeam_30 6 rfl ?_
      obtain ⟨r7, e6, hf⟩ := fq_b hf
      refine g_callNi (pc := 32) E [.int x1, .int x5] (fun l D sz => qX8_hasBit l D cy ad sz n σ k x1 x5 e6) gX6_reckonTeam_X8_hasBit_n35 rfl rfl rfl (fun U h => h.2.2.1) wX6_reckonTeam_2 wX6_reckonTeam_3 kcX8_hasBit ⟨by decide, by decide⟩ rfl rfl (Nat.le_of_ble_eq_true rfl) dX6_reckonTeam_32 ⟨by decide, by decide⟩ ?_
      refine g_if_eq (pc := 35) E 59 dX6_reckonTeam_35 (by decide) (fun c8 => ?_) (fun c8 => ?_)
      · replace hf := fq_t c8 hf
        refine g_iinc (pc := 59) E (x5 + (1 : Int32)) [(5, .int (x5 + (1 : Int32))), (6, .ref (ad (26 + 4 * z4))), (0, .ref (ad 1)), (1, .int x1), (2, .int x2), (3, .int x3), (4, .int x4)] dX6_reckonTeam_59 6 rfl rfl (by decide) rfl ?_
        refine g_goto (pc := 62) E 6 dX6_reckonTeam_62 (by decide) ?_
        refine g_lv [2, 3, 4, 5, 6, 0] rfl ?_
        exact hrec _ hf
      · replace hf := fq_f c8 hf
        refine g_aload_n (pc := 38) E dX6_reckonTeam_38 1 rfl rfl ?_
        refine g_aload (pc := 39) E dX6_reckonTeam_39 0 rfl ?_
        refine g_iload_n (pc := 41) E dX6_reckonTeam_41 3 rfl rfl ?_
        refine g_iload_n (pc := 42) E dX6_reckonTeam_42 4 rfl rfl ?_
        obtain ⟨r10, σ11, e9, hf⟩ := fq_b2 hf
        refine g_callVi (pc := 43) E 1 (zx_l (by decide)) (fun _ _ => rfl) rfl [.ref (ad (26 + 4 * z4)), .int x2, .int x3] (fun l D sz => qX6_reckon l D cy ad sz n σ k z4 x2 x3 h5 e9) gX6_reckonTeam_X6_reckon rfl rfl rfl kcX6_reckon ⟨by decide, by decide⟩ rfl rfl (Nat.le_of_ble_eq_true rfl) dX6_reckonTeam_43 ⟨by decide, by decide⟩ ?_
        refine g_if_eq (pc := 46) E 59 dX6_reckonTeam_46 (by decide) (fun c12 => ?_) (fun c12 => ?_)
        · replace hf := fq_t c12 hf
          refine g_iinc (pc := 59) E (x5 + (1 : Int32)) [(5, .int (x5 + (1 : Int32))), (6, .ref (ad (26 + 4 * z4))), (0, .ref (ad 1)), (1, .int x1), (2, .int x2), (3, .int x3), (4, .int x4)] dX6_reckonTeam_59 6 rfl rfl (by decide) rfl ?_
          refine g_goto (pc := 62) E 6 dX6_reckonTeam_62 (by decide) ?_
          refine g_lv [2, 3, 4, 5, 6, 0] rfl ?_
          exact hrec _ hf
        · replace hf := fq_f c12 hf
          refine g_iload (pc := 49) E dX6_reckonTeam_49 5 rfl ?_
          refine g_iload (pc := 51) E dX6_reckonTeam_51 6 rfl ?_
          obtain ⟨r14, e13, hf⟩ := fq_b hf
          refine g_callNi (pc := 53) E [.int x5] (fun l D sz => qX8_bitOf l D cy ad sz n σ11 k x5 e13) gX6_reckonTeam_X8_bitOf_n46 rfl rfl rfl (fun U h => h.2.2.2.2.2) wX6_reckonTeam_2 wX6_reckonTeam_4 kcX8_bitOf ⟨by decide, by decide⟩ rfl rfl (Nat.le_of_ble_eq_true rfl) dX6_reckonTeam_53 ⟨by decide, by decide⟩ ?_
          refine g_ior (pc := 56) E dX6_reckonTeam_56 ?_
          refine g_istore (pc := 57) E [(4, .int (x4 ||| r14)), (6, .ref (ad (26 + 4 * z4))), (0, .ref (ad 1)), (1, .int x1), (2, .int x2), (3, .int x3), (5, .int x5)] dX6_reckonTeam_57 (by decide) rfl ?_
          refine g_iinc (pc := 59) E (x5 + (1 : Int32)) [(5, .int (x5 + (1 : Int32))), (4, .int (x4 ||| r14)), (6, .ref (ad (26 + 4 * z4))), (0, .ref (ad 1)), (1, .int x1), (2, .int x2), (3, .int x3)] dX6_reckonTeam_59 6 rfl rfl (by decide) rfl ?_
          refine g_goto (pc := 62) E 6 dX6_reckonTeam_62 (by decide) ?_
          refine g_lv [3, 4, 5, 6, 1, 0] rfl ?_
          exact hrec _ hf
set_option maxRecDepth 100000 in
set_option maxHeartbeats 4000000 in
theorem qX6_reckonTeam (l : Launch) (D : va_G) (cy : Nat → ClassId) (ad : Nat → Nat) (sz n : Nat) (σ : fqS) (k : Nat) (x1 : Int32) (x2 : Int32) (x3 : Int32) {r : Int32} {σ' : fqS} (hf : pX6_reckonTeam k n σ x1 x2 x3 = some (r, σ')) : Met l yX6_reckonTeam wsX6_reckonTeam ({ frames := 4, cells := 0, slots := 0, locals := 102 } : Room) (fqPc (TX cy) ZX D cy ad sz n σ [.ref (ad 1), .int x1, .int x2, .int x3]) (fqQi (TX cy) ZX D ad sz n σ r σ') 0 0 (fqA (TX cy) ZX ad sz n σ) := by
  refine fq_enter_i (cc := cX6_reckonTeam) (maxL := 7) (own := RX6) _ (by decide) rfl (Nat.le_of_ble_eq_true rfl) rfl (fun X E hret => ?_)
  unfold pX6_reckonTeam at hf
  show fqG X (TX cy) ZX ad n 7 0 0 σ 0 [(0, .ref (ad 1)), (1, .int x1), (2, .int x2), (3, .int x3)] []
  refine g_iconst (pc := 0) E (0 : Int32) dX6_reckonTeam_0 (by decide) ?_
  refine g_istore (pc := 1) E [(4, .int (0 : Int32)), (0, .ref (ad 1)), (1, .int x1), (2, .int x2), (3, .int x3)] dX6_reckonTeam_1 (by decide) rfl ?_
  refine g_iconst (pc := 3) E (0 : Int32) dX6_reckonTeam_3 (by decide) ?_
  refine g_istore (pc := 4) E [(5, .int (0 : Int32)), (4, .int (0 : Int32)), (0, .ref (ad 1)), (1, .int x1), (2, .int x2), (3, .int x3)] dX6_reckonTeam_4 (by decide) rfl ?_
  refine g_lv [2, 3, 4, 5, 1, 0] rfl ?_
  exact tX6_reckonTeam_L6 E hret _ hf

/-! X5_settle -/
theorem wX5_settle_0 : Cond.fieldLink RX5 15 "FairQueue$Player" "shares" "[J" ∈ wsX5_settle := by decide +kernel
theorem uX5_settle_X5 : ∀ w ∈ u_ws RX5 TX5 5, w ∈ wsX5_settle := (fun _ h => List.mem_cons_of_mem _ (List.mem_append_right _ h))
theorem wX5_settle_2 : Cond.fieldLink RX5 19 "FairQueue$Player" "next" "[J" ∈ wsX5_settle := by decide +kernel
theorem kcX5_settle : yX5_settle.cls = RX5 ∧ yX5_settle.cls ≠ "java/lang/invoke/MethodHandle" ∧ yX5_settle.cls ≠ "java/lang/invoke/VarHandle" ∧ (parseMethodDescriptor yX5_settle.desc).map (fun d => d.parameters.length) = some 0 := by decide +kernel
def pX5_settle_L2b (k n : Nat) (p : Nat) (rec : (Int32 × fqS) → Option fqS) (x1 : Int32) (σ : fqS) : Option fqS :=
  (if (7 : Int32) ≤ x1 then some σ else (if (7 : Int32) ≤ x1 then some σ else (if x1 < 0 ∨ 7 ≤ Int32.toNatClampNeg x1 then none else (fqN (fqPJ σ (26 + 4 * p + 1) (Int32.toNatClampNeg x1) (fqJ σ (26 + 4 * p + 2) (Int32.toNatClampNeg x1))) (fun σ4 => (rec ((x1 + (1 : Int32)), σ4)))))))
def pX5_settle_L2 (k n : Nat) (p : Nat) : (Int32 × fqS) → Option fqS := fqL (fun rec (s : (Int32 × fqS)) => pX5_settle_L2b k n p rec s.1 s.2) k
def pX5_settle (k n : Nat) (σ : fqS) (p : Nat) : Option fqS :=
  (pX5_settle_L2 k n p ((0 : Int32), σ))
set_option maxRecDepth 100000 in
set_option maxHeartbeats 4000000 in
theorem tX5_settle_L2 {k : Nat} {X : fqX} {cy : Nat → ClassId} {ad : Nat → Nat} {n : Nat} {σ' : fqS} {p : Nat} (E : fqE X ({ frames := 0, cells := 0, slots := 0, locals := 0 } : Room) cy cX5_settle 2 wsX5_settle RX5) (hret : fqR_v X (TX cy) ZX ad n 2 cX5_settle σ') (hp : p < n) : ∀ (s : (Int32 × fqS)), pX5_settle_L2 k n p s = some σ' → fqG X (TX cy) ZX ad n 2 0 0 (s.2) 2 [(0, .ref (ad (26 + 4 * p))), (1, .int (s.1))] [] := by
  unfold pX5_settle_L2
  refine fqL_run (P := fun (s : (Int32 × fqS)) => fqG X (TX cy) ZX ad n 2 0 0 (s.2) 2 [(0, .ref (ad (26 + 4 * p))), (1, .int (s.1))] []) (fun rec s hrec hf => ?_) k
  obtain ⟨x1, σ⟩ := s
  have hf : pX5_settle_L2b k n p rec x1 σ = some σ' := hf
  unfold pX5_settle_L2b at hf
  show fqG X (TX cy) ZX ad n 2 0 0 σ 2 [(0, .ref (ad (26 + 4 * p))), (1, .int x1)] []
  refine g_iload_n (pc := 2) E dX5_settle_2 1 rfl rfl ?_
  refine g_aload_n (pc := 3) E dX5_settle_3 0 rfl rfl ?_
  refine g_getfield (pc := 4) E uX5_settle_X5 (26 + 4 * p) (zx_p0 hp) (tx_p cy ad n p) rfl 1 (by decide) wX5_settle_0 (.ref (ad (26 + 4 * p + 1))) rfl dX5_settle_4 ?_
  refine g_alen (pc := 7) E (26 + 4 * p + 1) (zx_p hp (by decide)) 1 (tx_p1 cy ad n p) rfl (7 : Int32) (by rfl) dX5_settle_7 ?_
  refine g_icmp_ge (pc := 8) E 38 dX5_settle_8 (by decide) (fun c1 => ?_) (fun c1 => ?_)
  · replace hf := fq_t c1 hf
    exact hret _ _ _ dX5_settle_38 (Option.some.inj hf)
  · replace hf := fq_f c1 hf
    refine g_iload_n (pc := 11) E dX5_settle_11 1 rfl rfl ?_
    refine g_aload_n (pc := 12) E dX5_settle_12 0 rfl rfl ?_
    refine g_getfield (pc := 13) E uX5_settle_X5 (26 + 4 * p) (zx_p0 hp) (tx_p cy ad n p) rfl 2 (by decide) wX5_settle_2 (.ref (ad (26 + 4 * p + 2))) rfl dX5_settle_13 ?_
    refine g_alen (pc := 16) E (26 + 4 * p + 2) (zx_p hp (by decide)) 1 (tx_p2 cy ad n p) rfl (7 : Int32) (by rfl) dX5_settle_16 ?_
    refine g_icmp_ge (pc := 17) E 38 dX5_settle_17 (by decide) (fun c2 => ?_) (fun c2 => ?_)
    · replace hf := fq_t c2 hf
      exact hret _ _ _ dX5_settle_38 (Option.some.inj hf)
    · replace hf := fq_f c2 hf
      refine g_aload_n (pc := 20) E dX5_settle_20 0 rfl rfl ?_
      refine g_getfield (pc := 21) E uX5_settle_X5 (26 + 4 * p) (zx_p0 hp) (tx_p cy ad n p) rfl 1 (by decide) wX5_settle_0 (.ref (ad (26 + 4 * p + 1))) rfl dX5_settle_21 ?_
      refine g_iload_n (pc := 24) E dX5_settle_24 1 rfl rfl ?_
      refine g_aload_n (pc := 25) E dX5_settle_25 0 rfl rfl ?_
      refine g_getfield (pc := 26) E uX5_settle_X5 (26 + 4 * p) (zx_p0 hp) (tx_p cy ad n p) rfl 2 (by decide) wX5_settle_2 (.ref (ad (26 + 4 * p + 2))) rfl dX5_settle_26 ?_
      refine g_iload_n (pc := 29) E dX5_settle_29 1 rfl rfl ?_
      obtain ⟨h3, hf⟩ := fq_in hf
      refine g_laload (pc := 30) E (26 + 4 * p + 2) (zx_p hp (by decide)) (tx_p2 cy ad n p) h3 dX5_settle_30 ?_
      refine g_lastore (pc := 31) E (26 + 4 * p + 1) (zx_p hp (by decide)) (tx_p1 cy ad n p) h3 dX5_settle_31 ?_
      obtain ⟨σ4, e5, hf⟩ := fq_n hf
      refine g_sg e5 ?_
      refine g_iinc (pc := 32) E (x1 + (1 : Int32)) [(1, .int (x1 + (1 : Int32))), (0, .ref (ad (26 + 4 * p)))] dX5_settle_32 1 rfl rfl (by decide) rfl ?_
      refine g_goto (pc := 35) E 2 dX5_settle_35 (by decide) ?_
      refine g_lv [1, 0] rfl ?_
      exact hrec _ hf
set_option maxRecDepth 100000 in
set_option maxHeartbeats 4000000 in
theorem qX5_settle (l : Launch) (D : va_G) (cy : Nat → ClassId) (ad : Nat → Nat) (sz n : Nat) (σ : fqS) (k : Nat) (p : Nat) (hp : p < n) {σ' : fqS} (hf : pX5_settle k n σ p = some σ') : Met l yX5_settle wsX5_settle ({ frames := 0, cells := 0, slots := 0, locals := 0 } : Room) (fqPc (TX cy) ZX D cy ad sz n σ [.ref (ad (26 + 4 * p))]) (fqQv (TX cy) ZX D ad sz n σ σ') 0 0 (fqA (TX cy) ZX ad sz n σ) := by
  refine fq_enter_v (cc := cX5_settle) (maxL := 2) (own := RX5) _ (by decide) rfl (Nat.le_of_ble_eq_true rfl) rfl (fun X E hret => ?_)
  unfold pX5_settle at hf
  show fqG X (TX cy) ZX ad n 2 0 0 σ 0 [(0, .ref (ad (26 + 4 * p)))] []
  refine g_iconst (pc := 0) E (0 : Int32) dX5_settle_0 (by decide) ?_
  refine g_istore_n (pc := 1) E [(1, .int (0 : Int32)), (0, .ref (ad (26 + 4 * p)))] dX5_settle_1 rfl (by decide) rfl ?_
  refine g_lv [1, 0] rfl ?_
  exact tX5_settle_L2 E hret hp _ hf

/-! X6_settleTeam -/
theorem wX6_settleTeam_0 : Cond.fieldLink RX6 11 "FairQueue$Players" "row" "[LFairQueue$Player;" ∈ wsX6_settleTeam := by decide +kernel
theorem uX6_settleTeam_X6 : ∀ w ∈ u_ws RX6 TX6 3, w ∈ wsX6_settleTeam := (fun _ h => List.mem_cons_of_mem _ (List.mem_append_left _ (List.mem_append_right _ h)))
theorem wX6_settleTeam_2 : Cond.initialized RX8 ∈ wsX6_settleTeam := by decide +kernel
theorem wX6_settleTeam_3 : Cond.static yX8_hasBit ∈ wsX6_settleTeam := by decide +kernel
theorem kcX6_settleTeam : yX6_settleTeam.cls = RX6 ∧ yX6_settleTeam.cls ≠ "java/lang/invoke/MethodHandle" ∧ yX6_settleTeam.cls ≠ "java/lang/invoke/VarHandle" ∧ (parseMethodDescriptor yX6_settleTeam.desc).map (fun d => d.parameters.length) = some 1 := by decide +kernel
def pX6_settleTeam_L2b (k n : Nat) (x1 : Int32) (rec : (Int32 × fqS) → Option fqS) (x2 : Int32) (σ : fqS) : Option fqS :=
  (if (16 : Int32) ≤ x2 then some σ else ((pX6_at k n σ x2).bind (fun r3 => (fqM r3 ((rec ((x2 + (1 : Int32)), σ))) (fun z4 => (if z4 < n then ((pX8_hasBit k n σ x1 x2).bind (fun r7 => (if r7 = 0 then (rec ((x2 + (1 : Int32)), σ)) else ((pX5_settle k n σ z4).bind (fun σ10 => (rec ((x2 + (1 : Int32)), σ10))))))) else none))))))
def pX6_settleTeam_L2 (k n : Nat) (x1 : Int32) : (Int32 × fqS) → Option fqS := fqL (fun rec (s : (Int32 × fqS)) => pX6_settleTeam_L2b k n x1 rec s.1 s.2) k
def pX6_settleTeam (k n : Nat) (σ : fqS) (x1 : Int32) : Option fqS :=
  (pX6_settleTeam_L2 k n x1 ((0 : Int32), σ))
set_option maxRecDepth 100000 in
set_option maxHeartbeats 4000000 in
theorem tX6_settleTeam_L2 {k : Nat} {X : fqX} {cy : Nat → ClassId} {ad : Nat → Nat} {n : Nat} {σ' : fqS} {x1 : Int32} (E : fqE X ({ frames := 1, cells := 0, slots := 0, locals := 21 } : Room) cy cX6_settleTeam 4 wsX6_settleTeam RX6) (hret : fqR_v X (TX cy) ZX ad n 4 cX6_settleTeam σ') : ∀ (s : (Int32 × fqS)), pX6_settleTeam_L2 k n x1 s = some σ' → fqG X (TX cy) ZX ad n 4 0 0 (s.2) 2 [(0, .ref (ad 1)), (1, .int x1), (2, .int (s.1))] [] := by
  unfold pX6_settleTeam_L2
  refine fqL_run (P := fun (s : (Int32 × fqS)) => fqG X (TX cy) ZX ad n 4 0 0 (s.2) 2 [(0, .ref (ad 1)), (1, .int x1), (2, .int (s.1))] []) (fun rec s hrec hf => ?_) k
  obtain ⟨x2, σ⟩ := s
  have hf : pX6_settleTeam_L2b k n x1 rec x2 σ = some σ' := hf
  unfold pX6_settleTeam_L2b at hf
  show fqG X (TX cy) ZX ad n 4 0 0 σ 2 [(0, .ref (ad 1)), (1, .int x1), (2, .int x2)] []
  refine g_iload_n (pc := 2) E dX6_settleTeam_2 2 rfl rfl ?_
  refine g_aload_n (pc := 3) E dX6_settleTeam_3 0 rfl rfl ?_
  refine g_getfield (pc := 4) E uX6_settleTeam_X6 1 (zx_l (by decide)) (fun _ _ => rfl) rfl 0 (by decide) wX6_settleTeam_0 (.ref (ad 2)) rfl dX6_settleTeam_4 ?_
  refine g_alen (pc := 7) E 2 (zx_l (by decide)) 4 (fun _ _ => rfl) rfl (16 : Int32) (by rfl) dX6_settleTeam_7 ?_
  refine g_icmp_ge (pc := 8) E 39 dX6_settleTeam_8 (by decide) (fun c1 => ?_) (fun c1 => ?_)
  · replace hf := fq_t c1 hf
    exact hret _ _ _ dX6_settleTeam_39 (Option.some.inj hf)
  · replace hf := fq_f c1 hf
    refine g_aload_n (pc := 11) E dX6_settleTeam_11 0 rfl rfl ?_
    refine g_iload_n (pc := 12) E dX6_settleTeam_12 2 rfl rfl ?_
    obtain ⟨r3, e2, hf⟩ := fq_b hf
    refine g_callVq (pc := 13) E 1 (zx_l (by decide)) (fun _ _ => rfl) rfl [.int x2] (fun l D sz => qX6_at l D cy ad sz n σ k x2 e2) gX6_settleTeam_X6_at rfl rfl rfl kcX6_at ⟨by decide, by decide⟩ rfl rfl (Nat.le_of_ble_eq_true rfl) dX6_settleTeam_13 ⟨by decide, by decide⟩ ?_
    cases r3 with
    | none =>
      replace hf := fqM_n hf
      refine g_st (st' := [.null]) rfl ?_
      refine g_astore_nN (pc := 16) E [(3, .null), (0, .ref (ad 1)), (1, .int x1), (2, .int x2)] dX6_settleTeam_16 rfl (by decide) rfl ?_
      refine g_aload_nN (pc := 17) E dX6_settleTeam_17 0 rfl rfl ?_
      refine g_ifnullN (pc := 18) E 33 dX6_settleTeam_18 (by decide) ?_
      refine g_iinc (pc := 33) E (x2 + (1 : Int32)) [(2, .int (x2 + (1 : Int32))), (3, .null), (0, .ref (ad 1)), (1, .int x1)] dX6_settleTeam_33 3 rfl rfl (by decide) rfl ?_
      refine g_goto (pc := 36) E 2 dX6_settleTeam_36 (by decide) ?_
      refine g_lv [2, 3, 0] rfl ?_
      exact hrec _ hf
    | some z4 =>
      obtain ⟨h5, hf⟩ := fq_g (fqM_s hf)
      refine g_st (st' := [.ref (ad (26 + 4 * z4))]) rfl ?_
      refine g_astore_n (pc := 16) E [(3, .ref (ad (26 + 4 * z4))), (0, .ref (ad 1)), (1, .int x1), (2, .int x2)] dX6_settleTeam_16 rfl (by decide) rfl ?_
      refine g_aload_n (pc := 17) E dX6_settleTeam_17 0 rfl rfl ?_
      refine g_ifnull (pc := 18) E dX6_settleTeam_18 ?_
      refine g_iload_n (pc := 21) E dX6_settleTeam_21 2 rfl rfl ?_
      refine g_iload_n (pc := 22) E dX6_settleTeam_22 3 rfl rfl ?_
      obtain ⟨r7, e6, hf⟩ := fq_b hf
      refine g_callNi (pc := 23) E [.int x1, .int x2] (fun l D sz => qX8_hasBit l D cy ad sz n σ k x1 x2 e6) gX6_settleTeam_X8_hasBit_n35 rfl rfl rfl (fun U h => h.2.2.1) wX6_settleTeam_2 wX6_settleTeam_3 kcX8_hasBit ⟨by decide, by decide⟩ rfl rfl (Nat.le_of_ble_eq_true rfl) dX6_settleTeam_23 ⟨by decide, by decide⟩ ?_
      refine g_if_eq (pc := 26) E 33 dX6_settleTeam_26 (by decide) (fun c8 => ?_) (fun c8 => ?_)
      · replace hf := fq_t c8 hf
        refine g_iinc (pc := 33) E (x2 + (1 : Int32)) [(2, .int (x2 + (1 : Int32))), (3, .ref (ad (26 + 4 * z4))), (0, .ref (ad 1)), (1, .int x1)] dX6_settleTeam_33 3 rfl rfl (by decide) rfl ?_
        refine g_goto (pc := 36) E 2 dX6_settleTeam_36 (by decide) ?_
        refine g_lv [2, 3, 0] rfl ?_
        exact hrec _ hf
      · replace hf := fq_f c8 hf
        refine g_aload_n (pc := 29) E dX6_settleTeam_29 0 rfl rfl ?_
        obtain ⟨σ10, e9, hf⟩ := fq_b hf
        refine g_callVv (pc := 30) E (26 + 4 * z4) (zx_p0 h5) (tx_p cy ad n z4) rfl [] (fun l D sz => qX5_settle l D cy ad sz n σ k z4 h5 e9) gX6_settleTeam_X5_settle rfl rfl rfl kcX5_settle ⟨by decide, by decide⟩ rfl rfl (Nat.le_of_ble_eq_true rfl) dX6_settleTeam_30 ⟨by decide, by decide⟩ ?_
        refine g_iinc (pc := 33) E (x2 + (1 : Int32)) [(2, .int (x2 + (1 : Int32))), (3, .ref (ad (26 + 4 * z4))), (0, .ref (ad 1)), (1, .int x1)] dX6_settleTeam_33 3 rfl rfl (by decide) rfl ?_
        refine g_goto (pc := 36) E 2 dX6_settleTeam_36 (by decide) ?_
        refine g_lv [2, 3, 0] rfl ?_
        exact hrec _ hf
set_option maxRecDepth 100000 in
set_option maxHeartbeats 4000000 in
theorem qX6_settleTeam (l : Launch) (D : va_G) (cy : Nat → ClassId) (ad : Nat → Nat) (sz n : Nat) (σ : fqS) (k : Nat) (x1 : Int32) {σ' : fqS} (hf : pX6_settleTeam k n σ x1 = some σ') : Met l yX6_settleTeam wsX6_settleTeam ({ frames := 1, cells := 0, slots := 0, locals := 21 } : Room) (fqPc (TX cy) ZX D cy ad sz n σ [.ref (ad 1), .int x1]) (fqQv (TX cy) ZX D ad sz n σ σ') 0 0 (fqA (TX cy) ZX ad sz n σ) := by
  refine fq_enter_v (cc := cX6_settleTeam) (maxL := 4) (own := RX6) _ (by decide) rfl (Nat.le_of_ble_eq_true rfl) rfl (fun X E hret => ?_)
  unfold pX6_settleTeam at hf
  show fqG X (TX cy) ZX ad n 4 0 0 σ 0 [(0, .ref (ad 1)), (1, .int x1)] []
  refine g_iconst (pc := 0) E (0 : Int32) dX6_settleTeam_0 (by decide) ?_
  refine g_istore_n (pc := 1) E [(2, .int (0 : Int32)), (0, .ref (ad 1)), (1, .int x1)] dX6_settleTeam_1 rfl (by decide) rfl ?_
  refine g_lv [1, 2, 0] rfl ?_
  exact tX6_settleTeam_L2 E hret _ hf
