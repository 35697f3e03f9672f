/-! X9_drop -/
theorem wX9_drop_0 : Cond.fieldLink RX9 52 "FairQueueModel" "firstOf" "[I" ∈ wsX9_drop := by decide +kernel
theorem uX9_drop_X9 : ∀ w ∈ u_ws RX9 TX9 33, w ∈ wsX9_drop := (fun _ h => List.mem_cons_of_mem _ (List.mem_append_right _ h))
theorem wX9_drop_2 : Cond.fieldLink RX9 58 "FairQueueModel" "dropped" "[I" ∈ wsX9_drop := by decide +kernel
theorem wX9_drop_3 : Cond.fieldLink RX9 55 "FairQueueModel" "secondOf" "[I" ∈ wsX9_drop := by decide +kernel
theorem wX9_drop_4 : Cond.constantLong RX9 173 (-1000000002) ∈ wsX9_drop := by decide +kernel
theorem wX9_drop_5 : Cond.constantLong RX9 109 (-1000000001) ∈ wsX9_drop := by decide +kernel
theorem kcX9_drop : yX9_drop.cls = RX9 ∧ yX9_drop.cls ≠ "java/lang/invoke/MethodHandle" ∧ yX9_drop.cls ≠ "java/lang/invoke/VarHandle" ∧ (parseMethodDescriptor yX9_drop.desc).map (fun d => d.parameters.length) = some 1 := by decide +kernel
def pX9_drop_J116 (k n : Nat) (x1 : Int32) (x2 : Int32) (x3 : Int32) (s0 : Int32) (σ : fqS) : Option (Int64 × fqS) :=
  (if x2 < 0 ∨ 5 ≤ Int32.toNatClampNeg x2 then none else (if (s0 &&& ((fqI σ 11 (Int32.toNatClampNeg x2)) ^^^ (-1 : Int32))) = 0 then (if x3 = 0 then (fqB2 (pX9_endMatch k n σ x2 (2 : Int32)) (fun r23 σ24 => some ((1 : Int64), σ24))) else (fqB2 (pX9_endMatch k n σ x2 (0 : Int32)) (fun r26 σ27 => some ((1 : Int64), σ27)))) else some ((0 : Int64), σ)))
def pX9_drop_J53 (k n : Nat) (x1 : Int32) (x2 : Int32) (s0 : Int32) (σ : fqS) : Option (Int64 × fqS) :=
  ((pX9_layAside k n σ).bind (fun σ10 => (if s0 = 0 then (if x2 < 0 ∨ 5 ≤ Int32.toNatClampNeg x2 then none else (fqB2 (pX9_takeResult k n σ10 x1 (0 : Int32) (fqI σ10 9 (Int32.toNatClampNeg x2))) (fun r14 σ15 => (fqN (fqPI σ15 11 (Int32.toNatClampNeg x2) ((fqI σ15 11 (Int32.toNatClampNeg x2)) ||| ((1 : Int32) <<< (x1 &&& 31)))) (fun σ16 => (if s0 = 0 then (pX9_drop_J116 k n x1 x2 s0 (fqI σ16 10 (Int32.toNatClampNeg x2)) σ16) else (pX9_drop_J116 k n x1 x2 s0 (fqI σ16 9 (Int32.toNatClampNeg x2)) σ16))))))) else (if x2 < 0 ∨ 5 ≤ Int32.toNatClampNeg x2 then none else (fqB2 (pX9_takeResult k n σ10 x1 (0 : Int32) (fqI σ10 10 (Int32.toNatClampNeg x2))) (fun r30 σ31 => (fqN (fqPI σ31 11 (Int32.toNatClampNeg x2) ((fqI σ31 11 (Int32.toNatClampNeg x2)) ||| ((1 : Int32) <<< (x1 &&& 31)))) (fun σ32 => (if s0 = 0 then (pX9_drop_J116 k n x1 x2 s0 (fqI σ32 10 (Int32.toNatClampNeg x2)) σ32) else (pX9_drop_J116 k n x1 x2 s0 (fqI σ32 9 (Int32.toNatClampNeg x2)) σ32))))))))))
def pX9_drop (k n : Nat) (σ : fqS) (x1 : Int32) : Option (Int64 × fqS) :=
  ((pX9_isPlayer k n σ x1).bind (fun r2 => (if r2 = 0 then (fqB2 (pX9_finding k n σ (-1000000001 : Int64)) (fun r39 σ40 => some (r39, σ40))) else ((pX9_matchOf k n σ x1).bind (fun r5 => (if 0 ≤ r5 then (if r5 < 0 ∨ 5 ≤ Int32.toNatClampNeg r5 then none else (if (((fqI σ 9 (Int32.toNatClampNeg r5)) >>> (x1 &&& 31)) &&& (1 : Int32)) = (1 : Int32) then (pX9_drop_J53 k n x1 r5 (1 : Int32) σ) else (pX9_drop_J53 k n x1 r5 (0 : Int32) σ))) else (fqB2 (pX9_finding k n σ (-1000000002 : Int64)) (fun r36 σ37 => some (r36, σ37)))))))))
set_option maxRecDepth 100000 in
set_option maxHeartbeats 4000000 in
theorem tX9_drop_J116 {k : Nat} {X : fqX} {cy : Nat → ClassId} {ad : Nat → Nat} {n : Nat} {r : Int64} {σ' : fqS} {x1 : Int32} {x2 : Int32} {x3 : Int32} {s0 : Int32} {σ : fqS} (E : fqE X ({ frames := 5, cells := 0, slots := 0, locals := 129 } : Room) cy cX9_drop 7 wsX9_drop RX9) (hret : fqR_l X (TM cy) ZM ad n 7 cX9_drop r σ') (hf : pX9_drop_J116 k n x1 x2 x3 s0 σ = some (r, σ')) : fqG X (TM cy) ZM ad n 7 0 0 σ 116 [(0, .ref (ad 0)), (2, .int x2), (3, .int x3)] [.int s0] := by
  unfold pX9_drop_J116 at hf
  refine g_istore (pc := 116) E [(5, .int s0), (0, .ref (ad 0)), (2, .int x2), (3, .int x3)] dX9_drop_116 (by decide) rfl ?_
  refine g_iload (pc := 118) E dX9_drop_118 0 rfl ?_
  refine g_aload_n (pc := 120) E dX9_drop_120 1 rfl rfl ?_
  refine g_getfield (pc := 121) E uX9_drop_X9 0 (zm_l (by decide)) (fun _ _ => rfl) rfl 17 (by decide) wX9_drop_2 (.ref (ad 11)) rfl dX9_drop_121 ?_
  refine g_iload_n (pc := 124) E dX9_drop_124 2 rfl rfl ?_
  obtain ⟨h19, hf⟩ := fq_in hf
  refine g_iaload (pc := 125) E 11 (zm_l (by decide)) (fun _ _ => rfl) h19 dX9_drop_125 ?_
  refine g_iconst (pc := 126) E (-1 : Int32) dX9_drop_126 (by decide) ?_
  refine g_ixor (pc := 127) E dX9_drop_127 ?_
  refine g_iand (pc := 128) E dX9_drop_128 ?_
  refine g_if_eq (pc := 129) E 134 dX9_drop_129 (by decide) (fun c20 => ?_) (fun c20 => ?_)
  · replace hf := fq_t c20 hf
    refine g_aload_n (pc := 134) E dX9_drop_134 1 rfl rfl ?_
    refine g_iload_n (pc := 135) E dX9_drop_135 2 rfl rfl ?_
    refine g_iload_n (pc := 136) E dX9_drop_136 3 rfl rfl ?_
    refine g_if_eq (pc := 137) E 144 dX9_drop_137 (by decide) (fun c21 => ?_) (fun c21 => ?_)
    · replace hf := fq_t c21 hf
      refine g_iconst (pc := 144) E (2 : Int32) dX9_drop_144 (by decide) ?_
      obtain ⟨r23, σ24, e22, hf⟩ := fq_b2 hf
      refine g_callVi (pc := 145) E 0 (zm_l (by decide)) (fun _ _ => rfl) rfl [.int x2, .int (2 : Int32)] (fun l D sz => qX9_endMatch l D cy ad sz n σ k x2 (2 : Int32) e22) gX9_drop_X9_endMatch rfl rfl rfl kcX9_endMatch ⟨by decide, by decide⟩ rfl rfl (Nat.le_of_ble_eq_true rfl) dX9_drop_145 ⟨by decide, by decide⟩ ?_
      refine g_istore (pc := 148) E [(6, .int r23), (5, .int s0), (0, .ref (ad 0)), (2, .int x2), (3, .int x3)] dX9_drop_148 (by decide) rfl ?_
      refine g_lconst (pc := 150) E (1 : Int64) dX9_drop_150 (by decide) ?_
      exact hret _ _ _ _ dX9_drop_151 (Option.some.inj hf)
    · replace hf := fq_f c21 hf
      refine g_iconst (pc := 140) E (0 : Int32) dX9_drop_140 (by decide) ?_
      refine g_goto (pc := 141) E 145 dX9_drop_141 (by decide) ?_
      obtain ⟨r26, σ27, e25, hf⟩ := fq_b2 hf
      refine g_callVi (pc := 145) E 0 (zm_l (by decide)) (fun _ _ => rfl) rfl [.int x2, .int (0 : Int32)] (fun l D sz => qX9_endMatch l D cy ad sz n σ k x2 (0 : Int32) e25) gX9_drop_X9_endMatch rfl rfl rfl kcX9_endMatch ⟨by decide, by decide⟩ rfl rfl (Nat.le_of_ble_eq_true rfl) dX9_drop_145 ⟨by decide, by decide⟩ ?_
      refine g_istore (pc := 148) E [(6, .int r26), (5, .int s0), (0, .ref (ad 0)), (2, .int x2), (3, .int x3)] dX9_drop_148 (by decide) rfl ?_
      refine g_lconst (pc := 150) E (1 : Int64) dX9_drop_150 (by decide) ?_
      exact hret _ _ _ _ dX9_drop_151 (Option.some.inj hf)
  · replace hf := fq_f c20 hf
    refine g_lconst (pc := 132) E (0 : Int64) dX9_drop_132 (by decide) ?_
    exact hret _ _ _ _ dX9_drop_133 (Option.some.inj hf)
set_option maxRecDepth 100000 in
set_option maxHeartbeats 4000000 in
theorem tX9_drop_J53 {k : Nat} {X : fqX} {cy : Nat → ClassId} {ad : Nat → Nat} {n : Nat} {r : Int64} {σ' : fqS} {x1 : Int32} {x2 : Int32} {s0 : Int32} {σ : fqS} (E : fqE X ({ frames := 5, cells := 0, slots := 0, locals := 129 } : Room) cy cX9_drop 7 wsX9_drop RX9) (hret : fqR_l X (TM cy) ZM ad n 7 cX9_drop r σ') (hf : pX9_drop_J53 k n x1 x2 s0 σ = some (r, σ')) : fqG X (TM cy) ZM ad n 7 0 0 σ 53 [(0, .ref (ad 0)), (1, .int x1), (2, .int x2)] [.int s0] := by
  unfold pX9_drop_J53 at hf
  refine g_istore_n (pc := 53) E [(3, .int s0), (0, .ref (ad 0)), (1, .int x1), (2, .int x2)] dX9_drop_53 rfl (by decide) rfl ?_
  refine g_aload_n (pc := 54) E dX9_drop_54 1 rfl rfl ?_
  obtain ⟨σ10, e9, hf⟩ := fq_b hf
  refine g_callVv (pc := 55) E 0 (zm_l (by decide)) (fun _ _ => rfl) rfl [] (fun l D sz => qX9_layAside l D cy ad sz n σ k e9) gX9_drop_X9_layAside rfl rfl rfl kcX9_layAside ⟨by decide, by decide⟩ rfl rfl (Nat.le_of_ble_eq_true rfl) dX9_drop_55 ⟨by decide, by decide⟩ ?_
  refine g_aload_n (pc := 58) E dX9_drop_58 1 rfl rfl ?_
  refine g_iload_n (pc := 59) E dX9_drop_59 2 rfl rfl ?_
  refine g_iconst (pc := 60) E (0 : Int32) dX9_drop_60 (by decide) ?_
  refine g_iload_n (pc := 61) E dX9_drop_61 0 rfl rfl ?_
  refine g_if_eq (pc := 62) E 74 dX9_drop_62 (by decide) (fun c11 => ?_) (fun c11 => ?_)
  · replace hf := fq_t c11 hf
    refine g_aload_n (pc := 74) E dX9_drop_74 1 rfl rfl ?_
    refine g_getfield (pc := 75) E uX9_drop_X9 0 (zm_l (by decide)) (fun _ _ => rfl) rfl 15 (by decide) wX9_drop_0 (.ref (ad 9)) rfl dX9_drop_75 ?_
    refine g_iload_n (pc := 78) E dX9_drop_78 3 rfl rfl ?_
    obtain ⟨h12, hf⟩ := fq_in hf
    refine g_iaload (pc := 79) E 9 (zm_l (by decide)) (fun _ _ => rfl) h12 dX9_drop_79 ?_
    obtain ⟨r14, σ15, e13, hf⟩ := fq_b2 hf
    refine g_callVi (pc := 80) E 0 (zm_l (by decide)) (fun _ _ => rfl) rfl [.int x1, .int (0 : Int32), .int (fqI σ10 9 (Int32.toNatClampNeg x2))] (fun l D sz => qX9_takeResult l D cy ad sz n σ10 k x1 (0 : Int32) (fqI σ10 9 (Int32.toNatClampNeg x2)) e13) gX9_drop_X9_takeResult rfl rfl rfl kcX9_takeResult ⟨by decide, by decide⟩ rfl rfl (Nat.le_of_ble_eq_true rfl) dX9_drop_80 ⟨by decide, by decide⟩ ?_
    refine g_istore (pc := 83) E [(4, .int r14), (3, .int s0), (0, .ref (ad 0)), (1, .int x1), (2, .int x2)] dX9_drop_83 (by decide) rfl ?_
    refine g_aload_n (pc := 85) E dX9_drop_85 2 rfl rfl ?_
    refine g_getfield (pc := 86) E uX9_drop_X9 0 (zm_l (by decide)) (fun _ _ => rfl) rfl 17 (by decide) wX9_drop_2 (.ref (ad 11)) rfl dX9_drop_86 ?_
    refine g_iload_n (pc := 89) E dX9_drop_89 4 rfl rfl ?_
    refine g_dup2_11 (pc := 90) E dX9_drop_90 rfl rfl ?_
    refine g_iaload (pc := 91) E 11 (zm_l (by decide)) (fun _ _ => rfl) h12 dX9_drop_91 ?_
    refine g_iconst (pc := 92) E (1 : Int32) dX9_drop_92 (by decide) ?_
    refine g_iload_n (pc := 93) E dX9_drop_93 3 rfl rfl ?_
    refine g_ishl (pc := 94) E dX9_drop_94 ?_
    refine g_ior (pc := 95) E dX9_drop_95 ?_
    refine g_iastore (pc := 96) E 11 (zm_l (by decide)) (fun _ _ => rfl) h12 dX9_drop_96 ?_
    obtain ⟨σ16, e17, hf⟩ := fq_n hf
    refine g_sg e17 ?_
    refine g_iload_n (pc := 97) E dX9_drop_97 1 rfl rfl ?_
    refine g_if_eq (pc := 98) E 110 dX9_drop_98 (by decide) (fun c18 => ?_) (fun c18 => ?_)
    · replace hf := fq_t c18 hf
      refine g_aload_n (pc := 110) E dX9_drop_110 2 rfl rfl ?_
      refine g_getfield (pc := 111) E uX9_drop_X9 0 (zm_l (by decide)) (fun _ _ => rfl) rfl 16 (by decide) wX9_drop_3 (.ref (ad 10)) rfl dX9_drop_111 ?_
      refine g_iload_n (pc := 114) E dX9_drop_114 4 rfl rfl ?_
      refine g_iaload (pc := 115) E 10 (zm_l (by decide)) (fun _ _ => rfl) h12 dX9_drop_115 ?_
      refine g_lv [2, 4, 1] rfl ?_
      exact tX9_drop_J116 E hret hf
    · replace hf := fq_f c18 hf
      refine g_aload_n (pc := 101) E dX9_drop_101 2 rfl rfl ?_
      refine g_getfield (pc := 102) E uX9_drop_X9 0 (zm_l (by decide)) (fun _ _ => rfl) rfl 15 (by decide) wX9_drop_0 (.ref (ad 9)) rfl dX9_drop_102 ?_
      refine g_iload_n (pc := 105) E dX9_drop_105 4 rfl rfl ?_
      refine g_iaload (pc := 106) E 9 (zm_l (by decide)) (fun _ _ => rfl) h12 dX9_drop_106 ?_
      refine g_goto (pc := 107) E 116 dX9_drop_107 (by decide) ?_
      refine g_lv [2, 4, 1] rfl ?_
      exact tX9_drop_J116 E hret hf
  · replace hf := fq_f c11 hf
    refine g_aload_n (pc := 65) E dX9_drop_65 1 rfl rfl ?_
    refine g_getfield (pc := 66) E uX9_drop_X9 0 (zm_l (by decide)) (fun _ _ => rfl) rfl 16 (by decide) wX9_drop_3 (.ref (ad 10)) rfl dX9_drop_66 ?_
    refine g_iload_n (pc := 69) E dX9_drop_69 3 rfl rfl ?_
    obtain ⟨h28, hf⟩ := fq_in hf
    refine g_iaload (pc := 70) E 10 (zm_l (by decide)) (fun _ _ => rfl) h28 dX9_drop_70 ?_
    refine g_goto (pc := 71) E 80 dX9_drop_71 (by decide) ?_
    obtain ⟨r30, σ31, e29, hf⟩ := fq_b2 hf
    refine g_callVi (pc := 80) E 0 (zm_l (by decide)) (fun _ _ => rfl) rfl [.int x1, .int (0 : Int32), .int (fqI σ10 10 (Int32.toNatClampNeg x2))] (fun l D sz => qX9_takeResult l D cy ad sz n σ10 k x1 (0 : Int32) (fqI σ10 10 (Int32.toNatClampNeg x2)) e29) gX9_drop_X9_takeResult rfl rfl rfl kcX9_takeResult ⟨by decide, by decide⟩ rfl rfl (Nat.le_of_ble_eq_true rfl) dX9_drop_80 ⟨by decide, by decide⟩ ?_
    refine g_istore (pc := 83) E [(4, .int r30), (3, .int s0), (0, .ref (ad 0)), (1, .int x1), (2, .int x2)] dX9_drop_83 (by decide) rfl ?_
    refine g_aload_n (pc := 85) E dX9_drop_85 2 rfl rfl ?_
    refine g_getfield (pc := 86) E uX9_drop_X9 0 (zm_l (by decide)) (fun _ _ => rfl) rfl 17 (by decide) wX9_drop_2 (.ref (ad 11)) rfl dX9_drop_86 ?_
    refine g_iload_n (pc := 89) E dX9_drop_89 4 rfl rfl ?_
    refine g_dup2_11 (pc := 90) E dX9_drop_90 rfl rfl ?_
    refine g_iaload (pc := 91) E 11 (zm_l (by decide)) (fun _ _ => rfl) h28 dX9_drop_91 ?_
    refine g_iconst (pc := 92) E (1 : Int32) dX9_drop_92 (by decide) ?_
    refine g_iload_n (pc := 93) E dX9_drop_93 3 rfl rfl ?_
    refine g_ishl (pc := 94) E dX9_drop_94 ?_
    refine g_ior (pc := 95) E dX9_drop_95 ?_
    refine g_iastore (pc := 96) E 11 (zm_l (by decide)) (fun _ _ => rfl) h28 dX9_drop_96 ?_
    obtain ⟨σ32, e33, hf⟩ := fq_n hf
    refine g_sg e33 ?_
    refine g_iload_n (pc := 97) E dX9_drop_97 1 rfl rfl ?_
    refine g_if_eq (pc := 98) E 110 dX9_drop_98 (by decide) (fun c34 => ?_) (fun c34 => ?_)
    · replace hf := fq_t c34 hf
      refine g_aload_n (pc := 110) E dX9_drop_110 2 rfl rfl ?_
      refine g_getfield (pc := 111) E uX9_drop_X9 0 (zm_l (by decide)) (fun _ _ => rfl) rfl 16 (by decide) wX9_drop_3 (.ref (ad 10)) rfl dX9_drop_111 ?_
      refine g_iload_n (pc := 114) E dX9_drop_114 4 rfl rfl ?_
      refine g_iaload (pc := 115) E 10 (zm_l (by decide)) (fun _ _ => rfl) h28 dX9_drop_115 ?_
      refine g_lv [2, 4, 1] rfl ?_
      exact tX9_drop_J116 E hret hf
    · replace hf := fq_f c34 hf
      refine g_aload_n (pc := 101) E dX9_drop_101 2 rfl rfl ?_
      refine g_getfield (pc := 102) E uX9_drop_X9 0 (zm_l (by decide)) (fun _ _ => rfl) rfl 15 (by decide) wX9_drop_0 (.ref (ad 9)) rfl dX9_drop_102 ?_
      refine g_iload_n (pc := 105) E dX9_drop_105 4 rfl rfl ?_
      refine g_iaload (pc := 106) E 9 (zm_l (by decide)) (fun _ _ => rfl) h28 dX9_drop_106 ?_
      refine g_goto (pc := 107) E 116 dX9_drop_107 (by decide) ?_
      refine g_lv [2, 4, 1] rfl ?_
      exact tX9_drop_J116 E hret hf
set_option maxRecDepth 100000 in
set_option maxHeartbeats 4000000 in
theorem qX9_drop (l : Launch) (D : va_G) (cy : Nat → ClassId) (ad : Nat → Nat) (sz n : Nat) (σ : fqS) (k : Nat) (x1 : Int32) {r : Int64} {σ' : fqS} (hf : pX9_drop k n σ x1 = some (r, σ')) : Met l yX9_drop wsX9_drop ({ frames := 5, cells := 0, slots := 0, locals := 129 } : Room) (fqPc (TM cy) ZM D cy ad sz n σ [.ref (ad 0), .int x1]) (fqQl (TM cy) ZM D ad sz n σ r σ') 0 0 (fqA (TM cy) ZM ad sz n σ) := by
  refine fq_enter_l (cc := cX9_drop) (maxL := 7) (own := RX9) _ (by decide) rfl (Nat.le_of_ble_eq_true rfl) rfl (fun X E hret => ?_)
  unfold pX9_drop at hf
  show fqG X (TM cy) ZM ad n 7 0 0 σ 0 [(0, .ref (ad 0)), (1, .int x1)] []
  refine g_aload_n (pc := 0) E dX9_drop_0 0 rfl rfl ?_
  refine g_iload_n (pc := 1) E dX9_drop_1 1 rfl rfl ?_
  obtain ⟨r2, e1, hf⟩ := fq_b hf
  refine g_callVi (pc := 2) E 0 (zm_l (by decide)) (fun _ _ => rfl) rfl [.int x1] (fun l D sz => qX9_isPlayer l D cy ad sz n σ k x1 e1) gX9_drop_X9_isPlayer rfl rfl rfl kcX9_isPlayer ⟨by decide, by decide⟩ rfl rfl (Nat.le_of_ble_eq_true rfl) dX9_drop_2 ⟨by decide, by decide⟩ ?_
  refine g_if_ne (pc := 5) E 16 dX9_drop_5 (by decide) (fun c3 => ?_) (fun c3 => ?_)
  · replace hf := fq_f c3 hf
    refine g_aload_n (pc := 16) E dX9_drop_16 0 rfl rfl ?_
    refine g_iload_n (pc := 17) E dX9_drop_17 1 rfl rfl ?_
    obtain ⟨r5, e4, hf⟩ := fq_b hf
    refine g_callVi (pc := 18) E 0 (zm_l (by decide)) (fun _ _ => rfl) rfl [.int x1] (fun l D sz => qX9_matchOf l D cy ad sz n σ k x1 e4) gX9_drop_X9_matchOf rfl rfl rfl kcX9_matchOf ⟨by decide, by decide⟩ rfl rfl (Nat.le_of_ble_eq_true rfl) dX9_drop_18 ⟨by decide, by decide⟩ ?_
    refine g_istore_n (pc := 21) E [(2, .int r5), (0, .ref (ad 0)), (1, .int x1)] dX9_drop_21 rfl (by decide) rfl ?_
    refine g_iload_n (pc := 22) E dX9_drop_22 0 rfl rfl ?_
    refine g_if_ge (pc := 23) E 34 dX9_drop_23 (by decide) (fun c6 => ?_) (fun c6 => ?_)
    · replace hf := fq_t c6 hf
      refine g_aload_n (pc := 34) E dX9_drop_34 1 rfl rfl ?_
      refine g_getfield (pc := 35) E uX9_drop_X9 0 (zm_l (by decide)) (fun _ _ => rfl) rfl 15 (by decide) wX9_drop_0 (.ref (ad 9)) rfl dX9_drop_35 ?_
      refine g_iload_n (pc := 38) E dX9_drop_38 0 rfl rfl ?_
      obtain ⟨h7, hf⟩ := fq_in hf
      refine g_iaload (pc := 39) E 9 (zm_l (by decide)) (fun _ _ => rfl) h7 dX9_drop_39 ?_
      refine g_iload_n (pc := 40) E dX9_drop_40 2 rfl rfl ?_
      refine g_ishr (pc := 41) E dX9_drop_41 ?_
      refine g_iconst (pc := 42) E (1 : Int32) dX9_drop_42 (by decide) ?_
      refine g_iand (pc := 43) E dX9_drop_43 ?_
      refine g_iconst (pc := 44) E (1 : Int32) dX9_drop_44 (by decide) ?_
      refine g_icmp_ne (pc := 45) E 52 dX9_drop_45 (by decide) (fun c8 => ?_) (fun c8 => ?_)
      · replace hf := fq_f c8 hf
        refine g_iconst (pc := 52) E (0 : Int32) dX9_drop_52 (by decide) ?_
        refine g_lv [1, 2, 0] rfl ?_
        exact tX9_drop_J53 E hret hf
      · replace hf := fq_t c8 hf
        refine g_iconst (pc := 48) E (1 : Int32) dX9_drop_48 (by decide) ?_
        refine g_goto (pc := 49) E 53 dX9_drop_49 (by decide) ?_
        refine g_lv [1, 2, 0] rfl ?_
        exact tX9_drop_J53 E hret hf
    · replace hf := fq_f c6 hf
      refine g_aload_n (pc := 26) E dX9_drop_26 1 rfl rfl ?_
      refine g_ldc2_w (pc := 27) E dX9_drop_27 wX9_drop_4 ?_
      obtain ⟨r36, σ37, e35, hf⟩ := fq_b2 hf
      refine g_callVl (pc := 30) E 0 (zm_l (by decide)) (fun _ _ => rfl) rfl [.long (-1000000002 : Int64)] (fun l D sz => qX9_finding l D cy ad sz n σ k (-1000000002 : Int64) e35) gX9_drop_X9_finding rfl rfl rfl kcX9_finding ⟨by decide, by decide⟩ rfl rfl (Nat.le_of_ble_eq_true rfl) dX9_drop_30 ⟨by decide, by decide⟩ ?_
      exact hret _ _ _ _ dX9_drop_33 (Option.some.inj hf)
  · replace hf := fq_t c3 hf
    refine g_aload_n (pc := 8) E dX9_drop_8 0 rfl rfl ?_
    refine g_ldc2_w (pc := 9) E dX9_drop_9 wX9_drop_5 ?_
    obtain ⟨r39, σ40, e38, hf⟩ := fq_b2 hf
    refine g_callVl (pc := 12) E 0 (zm_l (by decide)) (fun _ _ => rfl) rfl [.long (-1000000001 : Int64)] (fun l D sz => qX9_finding l D cy ad sz n σ k (-1000000001 : Int64) e38) gX9_drop_X9_finding rfl rfl rfl kcX9_finding ⟨by decide, by decide⟩ rfl rfl (Nat.le_of_ble_eq_true rfl) dX9_drop_12 ⟨by decide, by decide⟩ ?_
    exact hret _ _ _ _ dX9_drop_15 (Option.some.inj hf)

/-! X9_isPlaceOfMatch -/
theorem wX9_isPlaceOfMatch_0 : Cond.constantLong RX9 212 (4) ∈ wsX9_isPlaceOfMatch := by decide +kernel
theorem kcX9_isPlaceOfMatch : yX9_isPlaceOfMatch.cls ≠ "java/lang/invoke/MethodHandle" ∧ yX9_isPlaceOfMatch.cls ≠ "java/lang/invoke/VarHandle" ∧ (parseMethodDescriptor yX9_isPlaceOfMatch.desc).map (fun d => d.parameters.length) = some 1 := by decide +kernel
def pX9_isPlaceOfMatch (k n : Nat) (σ : fqS) (x0 : Int32) : Option Int32 :=
  ((pX9_in k n σ (Int32.toInt64 x0) (0 : Int64) (4 : Int64)).bind (fun r2 => (if r2 &&& 1 = r2 then some r2 else none)))
set_option maxRecDepth 100000 in
set_option maxHeartbeats 4000000 in
theorem qX9_isPlaceOfMatch (l : Launch) (D : va_G) (cy : Nat → ClassId) (ad : Nat → Nat) (sz n : Nat) (σ : fqS) (k : Nat) (x0 : Int32) {r : Int32} (hf : pX9_isPlaceOfMatch k n σ x0 = some r) : Met l yX9_isPlaceOfMatch wsX9_isPlaceOfMatch ({ frames := 1, cells := 0, slots := 0, locals := 25 } : Room) (fqPc (TM cy) ZM D cy ad sz n σ [.int x0]) (fqQi (TM cy) ZM D ad sz n σ r σ) 0 0 (fqA (TM cy) ZM ad sz n σ) := by
  refine fq_enter_z (cc := cX9_isPlaceOfMatch) (maxL := 1) (own := RX9) _ (by decide) rfl (Nat.le_of_ble_eq_true rfl) rfl (fun X E hret => ?_)
  unfold pX9_isPlaceOfMatch at hf
  show fqG X (TM cy) ZM ad n 1 0 0 σ 0 [(0, .int x0)] []
  refine g_iload_n (pc := 0) E dX9_isPlaceOfMatch_0 0 rfl rfl ?_
  refine g_i2l (pc := 1) E dX9_isPlaceOfMatch_1 ?_
  refine g_lconst (pc := 2) E (0 : Int64) dX9_isPlaceOfMatch_2 (by decide) ?_
  refine g_ldc2_w (pc := 3) E dX9_isPlaceOfMatch_3 wX9_isPlaceOfMatch_0 ?_
  obtain ⟨r2, e1, hf⟩ := fq_b hf
  refine g_callSi (pc := 6) E [.long (Int32.toInt64 x0), .long (0 : Int64), .long (4 : Int64)] (fun l D sz => qX9_in l D cy ad sz n σ k (Int32.toInt64 x0) (0 : Int64) (4 : Int64) e1) gX9_isPlaceOfMatch_X9_in rfl rfl rfl kcX9_in ⟨by decide, by decide⟩ rfl rfl (Nat.le_of_ble_eq_true rfl) dX9_isPlaceOfMatch_6 ⟨by decide, by decide⟩ ?_
  obtain ⟨h3, hf⟩ := fq_g hf
  exact hret _ _ _ _ (fq_nb h3) dX9_isPlaceOfMatch_9 (congrArg (fun z => (z, σ)) (Option.some.inj hf))

/-! X9_end -/
theorem wX9_end_0 : Cond.constantLong RX9 109 (-1000000001) ∈ wsX9_end := by decide +kernel
theorem wX9_end_1 : Cond.constantLong RX9 107 (2) ∈ wsX9_end := by decide +kernel
theorem wX9_end_2 : Cond.fieldLink RX9 48 "FairQueueModel" "goesOn" "[Z" ∈ wsX9_end := by decide +kernel
theorem uX9_end_X9 : ∀ w ∈ u_ws RX9 TX9 33, w ∈ wsX9_end := (fun _ h => List.mem_cons_of_mem _ (List.mem_append_right _ h))
theorem wX9_end_4 : Cond.constantLong RX9 173 (-1000000002) ∈ wsX9_end := by decide +kernel
theorem kcX9_end : yX9_end.cls = RX9 ∧ yX9_end.cls ≠ "java/lang/invoke/MethodHandle" ∧ yX9_end.cls ≠ "java/lang/invoke/VarHandle" ∧ (parseMethodDescriptor yX9_end.desc).map (fun d => d.parameters.length) = some 2 := by decide +kernel
def pX9_end (k n : Nat) (σ : fqS) (x1 : Int32) (x2 : Int32) : Option (Int64 × fqS) :=
  ((pX9_isPlaceOfMatch k n σ x1).bind (fun r2 => (if r2 = 0 then (fqB2 (pX9_finding k n σ (-1000000001 : Int64)) (fun r5 σ6 => some (r5, σ6))) else ((pX9_in k n σ (Int32.toInt64 x2) (0 : Int64) (2 : Int64)).bind (fun r8 => (if r8 = 0 then (fqB2 (pX9_finding k n σ (-1000000001 : Int64)) (fun r19 σ20 => some (r19, σ20))) else (if x1 < 0 ∨ 5 ≤ Int32.toNatClampNeg x1 then none else (if (fqI σ 8 (Int32.toNatClampNeg x1)) = 0 then (fqB2 (pX9_finding k n σ (-1000000002 : Int64)) (fun r13 σ14 => some (r13, σ14))) else (fqB2 (pX9_endMatch k n σ x1 x2) (fun r16 σ17 => some ((Int32.toInt64 r16), σ17)))))))))))
set_option maxRecDepth 100000 in
set_option maxHeartbeats 4000000 in
theorem qX9_end (l : Launch) (D : va_G) (cy : Nat → ClassId) (ad : Nat → Nat) (sz n : Nat) (σ : fqS) (k : Nat) (x1 : Int32) (x2 : Int32) {r : Int64} {σ' : fqS} (hf : pX9_end k n σ x1 x2 = some (r, σ')) : Met l yX9_end wsX9_end ({ frames := 5, cells := 0, slots := 0, locals := 129 } : Room) (fqPc (TM cy) ZM D cy ad sz n σ [.ref (ad 0), .int x1, .int x2]) (fqQl (TM cy) ZM D ad sz n σ r σ') 0 0 (fqA (TM cy) ZM ad sz n σ) := by
  refine fq_enter_l (cc := cX9_end) (maxL := 3) (own := RX9) _ (by decide) rfl (Nat.le_of_ble_eq_true rfl) rfl (fun X E hret => ?_)
  unfold pX9_end at hf
  show fqG X (TM cy) ZM ad n 3 0 0 σ 0 [(0, .ref (ad 0)), (1, .int x1), (2, .int x2)] []
  refine g_iload_n (pc := 0) E dX9_end_0 1 rfl rfl ?_
  obtain ⟨r2, e1, hf⟩ := fq_b hf
  refine g_callSi (pc := 1) E [.int x1] (fun l D sz => qX9_isPlaceOfMatch l D cy ad sz n σ k x1 e1) gX9_end_X9_isPlaceOfMatch rfl rfl rfl kcX9_isPlaceOfMatch ⟨by decide, by decide⟩ rfl rfl (Nat.le_of_ble_eq_true rfl) dX9_end_1 ⟨by decide, by decide⟩ ?_
  refine g_if_eq (pc := 4) E 19 dX9_end_4 (by decide) (fun c3 => ?_) (fun c3 => ?_)
  · replace hf := fq_t c3 hf
    refine g_aload_n (pc := 19) E dX9_end_19 0 rfl rfl ?_
    refine g_ldc2_w (pc := 20) E dX9_end_20 wX9_end_0 ?_
    obtain ⟨r5, σ6, e4, hf⟩ := fq_b2 hf
    refine g_callVl (pc := 23) E 0 (zm_l (by decide)) (fun _ _ => rfl) rfl [.long (-1000000001 : Int64)] (fun l D sz => qX9_finding l D cy ad sz n σ k (-1000000001 : Int64) e4) gX9_end_X9_finding rfl rfl rfl kcX9_finding ⟨by decide, by decide⟩ rfl rfl (Nat.le_of_ble_eq_true rfl) dX9_end_23 ⟨by decide, by decide⟩ ?_
    exact hret _ _ _ _ dX9_end_26 (Option.some.inj hf)
  · replace hf := fq_f c3 hf
    refine g_iload_n (pc := 7) E dX9_end_7 2 rfl rfl ?_
    refine g_i2l (pc := 8) E dX9_end_8 ?_
    refine g_lconst (pc := 9) E (0 : Int64) dX9_end_9 (by decide) ?_
    refine g_ldc2_w (pc := 10) E dX9_end_10 wX9_end_1 ?_
    obtain ⟨r8, e7, hf⟩ := fq_b hf
    refine g_callSi (pc := 13) E [.long (Int32.toInt64 x2), .long (0 : Int64), .long (2 : Int64)] (fun l D sz => qX9_in l D cy ad sz n σ k (Int32.toInt64 x2) (0 : Int64) (2 : Int64) e7) gX9_end_X9_in rfl rfl rfl kcX9_in ⟨by decide, by decide⟩ rfl rfl (Nat.le_of_ble_eq_true rfl) dX9_end_13 ⟨by decide, by decide⟩ ?_
    refine g_if_ne (pc := 16) E 27 dX9_end_16 (by decide) (fun c9 => ?_) (fun c9 => ?_)
    · replace hf := fq_f c9 hf
      refine g_aload_n (pc := 27) E dX9_end_27 0 rfl rfl ?_
      refine g_getfield (pc := 28) E uX9_end_X9 0 (zm_l (by decide)) (fun _ _ => rfl) rfl 14 (by decide) wX9_end_2 (.ref (ad 8)) rfl dX9_end_28 ?_
      refine g_iload_n (pc := 31) E dX9_end_31 1 rfl rfl ?_
      obtain ⟨h10, hf⟩ := fq_in hf
      refine g_baload (pc := 32) E 8 (zm_l (by decide)) (fun _ _ => rfl) h10 dX9_end_32 ?_
      refine g_if_eq (pc := 33) E 46 dX9_end_33 (by decide) (fun c11 => ?_) (fun c11 => ?_)
      · replace hf := fq_t c11 hf
        refine g_aload_n (pc := 46) E dX9_end_46 0 rfl rfl ?_
        refine g_ldc2_w (pc := 47) E dX9_end_47 wX9_end_4 ?_
        obtain ⟨r13, σ14, e12, hf⟩ := fq_b2 hf
        refine g_callVl (pc := 50) E 0 (zm_l (by decide)) (fun _ _ => rfl) rfl [.long (-1000000002 : Int64)] (fun l D sz => qX9_finding l D cy ad sz n σ k (-1000000002 : Int64) e12) gX9_end_X9_finding rfl rfl rfl kcX9_finding ⟨by decide, by decide⟩ rfl rfl (Nat.le_of_ble_eq_true rfl) dX9_end_50 ⟨by decide, by decide⟩ ?_
        exact hret _ _ _ _ dX9_end_53 (Option.some.inj hf)
      · replace hf := fq_f c11 hf
        refine g_aload_n (pc := 36) E dX9_end_36 0 rfl rfl ?_
        refine g_iload_n (pc := 37) E dX9_end_37 1 rfl rfl ?_
        refine g_iload_n (pc := 38) E dX9_end_38 2 rfl rfl ?_
        obtain ⟨r16, σ17, e15, hf⟩ := fq_b2 hf
        refine g_callVi (pc := 39) E 0 (zm_l (by decide)) (fun _ _ => rfl) rfl [.int x1, .int x2] (fun l D sz => qX9_endMatch l D cy ad sz n σ k x1 x2 e15) gX9_end_X9_endMatch rfl rfl rfl kcX9_endMatch ⟨by decide, by decide⟩ rfl rfl (Nat.le_of_ble_eq_true rfl) dX9_end_39 ⟨by decide, by decide⟩ ?_
        refine g_i2l (pc := 42) E dX9_end_42 ?_
        refine g_goto (pc := 43) E 53 dX9_end_43 (by decide) ?_
        exact hret _ _ _ _ dX9_end_53 (Option.some.inj hf)
    · replace hf := fq_t c9 hf
      refine g_aload_n (pc := 19) E dX9_end_19 0 rfl rfl ?_
      refine g_ldc2_w (pc := 20) E dX9_end_20 wX9_end_0 ?_
      obtain ⟨r19, σ20, e18, hf⟩ := fq_b2 hf
      refine g_callVl (pc := 23) E 0 (zm_l (by decide)) (fun _ _ => rfl) rfl [.long (-1000000001 : Int64)] (fun l D sz => qX9_finding l D cy ad sz n σ k (-1000000001 : Int64) e18) gX9_end_X9_finding rfl rfl rfl kcX9_finding ⟨by decide, by decide⟩ rfl rfl (Nat.le_of_ble_eq_true rfl) dX9_end_23 ⟨by decide, by decide⟩ ?_
      exact hret _ _ _ _ dX9_end_26 (Option.some.inj hf)

/-! X9_found -/
theorem wX9_found_0 : Cond.constantLong RX9 256 (5) ∈ wsX9_found := by decide +kernel
theorem wX9_found_1 : Cond.constantLong RX9 109 (-1000000001) ∈ wsX9_found := by decide +kernel
theorem wX9_found_2 : Cond.fieldLink RX9 9 "FairQueueModel" "foundMany" "[I" ∈ wsX9_found := by decide +kernel
theorem uX9_found_X9 : ∀ w ∈ u_ws RX9 TX9 33, w ∈ wsX9_found := (fun _ h => List.mem_cons_of_mem _ (List.mem_append_right _ h))
theorem kcX9_found : yX9_found.cls = RX9 ∧ yX9_found.cls ≠ "java/lang/invoke/MethodHandle" ∧ yX9_found.cls ≠ "java/lang/invoke/VarHandle" ∧ (parseMethodDescriptor yX9_found.desc).map (fun d => d.parameters.length) = some 1 := by decide +kernel
def pX9_found (k n : Nat) (σ : fqS) (x1 : Int32) : Option (Int64 × fqS) :=
  ((pX9_in k n σ (Int32.toInt64 x1) (1 : Int64) (5 : Int64)).bind (fun r2 => (if r2 = 0 then (fqB2 (pX9_finding k n σ (-1000000001 : Int64)) (fun r5 σ6 => some (r5, σ6))) else (if x1 < 0 ∨ 6 ≤ Int32.toNatClampNeg x1 then none else some ((Int32.toInt64 (fqI σ 1 (Int32.toNatClampNeg x1))), σ)))))
set_option maxRecDepth 100000 in
set_option maxHeartbeats 4000000 in
theorem qX9_found (l : Launch) (D : va_G) (cy : Nat → ClassId) (ad : Nat → Nat) (sz n : Nat) (σ : fqS) (k : Nat) (x1 : Int32) {r : Int64} {σ' : fqS} (hf : pX9_found k n σ x1 = some (r, σ')) : Met l yX9_found wsX9_found ({ frames := 1, cells := 0, slots := 0, locals := 25 } : Room) (fqPc (TM cy) ZM D cy ad sz n σ [.ref (ad 0), .int x1]) (fqQl (TM cy) ZM D ad sz n σ r σ') 0 0 (fqA (TM cy) ZM ad sz n σ) := by
  refine fq_enter_l (cc := cX9_found) (maxL := 2) (own := RX9) _ (by decide) rfl (Nat.le_of_ble_eq_true rfl) rfl (fun X E hret => ?_)
  unfold pX9_found at hf
  show fqG X (TM cy) ZM ad n 2 0 0 σ 0 [(0, .ref (ad 0)), (1, .int x1)] []
  refine g_iload_n (pc := 0) E dX9_found_0 1 rfl rfl ?_
  refine g_i2l (pc := 1) E dX9_found_1 ?_
  refine g_lconst (pc := 2) E (1 : Int64) dX9_found_2 (by decide) ?_
  refine g_ldc2_w (pc := 3) E dX9_found_3 wX9_found_0 ?_
  obtain ⟨r2, e1, hf⟩ := fq_b hf
  refine g_callSi (pc := 6) E [.long (Int32.toInt64 x1), .long (1 : Int64), .long (5 : Int64)] (fun l D sz => qX9_in l D cy ad sz n σ k (Int32.toInt64 x1) (1 : Int64) (5 : Int64) e1) gX9_found_X9_in rfl rfl rfl kcX9_in ⟨by decide, by decide⟩ rfl rfl (Nat.le_of_ble_eq_true rfl) dX9_found_6 ⟨by decide, by decide⟩ ?_
  refine g_if_eq (pc := 9) E 22 dX9_found_9 (by decide) (fun c3 => ?_) (fun c3 => ?_)
  · replace hf := fq_t c3 hf
    refine g_aload_n (pc := 22) E dX9_found_22 0 rfl rfl ?_
    refine g_ldc2_w (pc := 23) E dX9_found_23 wX9_found_1 ?_
    obtain ⟨r5, σ6, e4, hf⟩ := fq_b2 hf
    refine g_callVl (pc := 26) E 0 (zm_l (by decide)) (fun _ _ => rfl) rfl [.long (-1000000001 : Int64)] (fun l D sz => qX9_finding l D cy ad sz n σ k (-1000000001 : Int64) e4) gX9_found_X9_finding rfl rfl rfl kcX9_finding ⟨by decide, by decide⟩ rfl rfl (Nat.le_of_ble_eq_true rfl) dX9_found_26 ⟨by decide, by decide⟩ ?_
    exact hret _ _ _ _ dX9_found_29 (Option.some.inj hf)
  · replace hf := fq_f c3 hf
    refine g_aload_n (pc := 12) E dX9_found_12 0 rfl rfl ?_
    refine g_getfield (pc := 13) E uX9_found_X9 0 (zm_l (by decide)) (fun _ _ => rfl) rfl 0 (by decide) wX9_found_2 (.ref (ad 1)) rfl dX9_found_13 ?_
    refine g_iload_n (pc := 16) E dX9_found_16 1 rfl rfl ?_
    obtain ⟨h7, hf⟩ := fq_in hf
    refine g_iaload (pc := 17) E 1 (zm_l (by decide)) (fun _ _ => rfl) h7 dX9_found_17 ?_
    refine g_i2l (pc := 18) E dX9_found_18 ?_
    refine g_goto (pc := 19) E 29 dX9_found_19 (by decide) ?_
    exact hret _ _ _ _ dX9_found_29 (Option.some.inj hf)

/-! X9_partyOf -/
theorem wX9_partyOf_0 : Cond.fieldLink RX9 159 "FairQueueModel" "parties" "I" ∈ wsX9_partyOf := by decide +kernel
theorem uX9_partyOf_X9 : ∀ w ∈ u_ws RX9 TX9 33, w ∈ wsX9_partyOf := (fun _ h => List.mem_cons_of_mem _ (List.mem_append_right _ h))
theorem wX9_partyOf_2 : Cond.fieldLink RX9 42 "FairQueueModel" "partyBits" "[I" ∈ wsX9_partyOf := by decide +kernel
theorem kcX9_partyOf : yX9_partyOf.cls = RX9 ∧ yX9_partyOf.cls ≠ "java/lang/invoke/MethodHandle" ∧ yX9_partyOf.cls ≠ "java/lang/invoke/VarHandle" ∧ (parseMethodDescriptor yX9_partyOf.desc).map (fun d => d.parameters.length) = some 1 := by decide +kernel
def pX9_partyOf_L2b (k n : Nat) (σ : fqS) (x1 : Int32) (rec : (Int32) → Option Int32) (x2 : Int32) : Option Int32 :=
  (if (fqI σ 0 11) ≤ x2 then some (-1 : Int32) else (if x2 < 0 ∨ 10 ≤ Int32.toNatClampNeg x2 then none else (if (((fqI σ 6 (Int32.toNatClampNeg x2)) >>> (x1 &&& 31)) &&& (1 : Int32)) = (1 : Int32) then some x2 else (rec ((x2 + (1 : Int32)))))))
def pX9_partyOf_L2 (k n : Nat) (σ : fqS) (x1 : Int32) : (Int32) → Option Int32 := fqL (fun rec (s : (Int32)) => pX9_partyOf_L2b k n σ x1 rec s) k
def pX9_partyOf (k n : Nat) (σ : fqS) (x1 : Int32) : Option Int32 :=
  (pX9_partyOf_L2 k n σ x1 ((0 : Int32)))
set_option maxRecDepth 100000 in
set_option maxHeartbeats 4000000 in
theorem tX9_partyOf_L2 {k : Nat} {X : fqX} {cy : Nat → ClassId} {ad : Nat → Nat} {n : Nat} {σ : fqS} {r : Int32} {x1 : Int32} (E : fqE X ({ frames := 0, cells := 0, slots := 0, locals := 0 } : Room) cy cX9_partyOf 3 wsX9_partyOf RX9) (hret : fqR_i X (TM cy) ZM ad n 3 cX9_partyOf r σ) : ∀ (s : (Int32)), pX9_partyOf_L2 k n σ x1 s = some r → fqG X (TM cy) ZM ad n 3 0 0 σ 2 [(0, .ref (ad 0)), (1, .int x1), (2, .int (s))] [] := by
  unfold pX9_partyOf_L2
  refine fqL_run (P := fun (s : (Int32)) => fqG X (TM cy) ZM ad n 3 0 0 σ 2 [(0, .ref (ad 0)), (1, .int x1), (2, .int (s))] []) (fun rec s hrec hf => ?_) k
  obtain ⟨x2, rfl⟩ : ∃ z, z = s := ⟨_, rfl⟩
  have hf : pX9_partyOf_L2b k n σ x1 rec x2 = some r := hf
  unfold pX9_partyOf_L2b at hf
  show fqG X (TM cy) ZM ad n 3 0 0 σ 2 [(0, .ref (ad 0)), (1, .int x1), (2, .int x2)] []
  refine g_iload_n (pc := 2) E dX9_partyOf_2 2 rfl rfl ?_
  refine g_aload_n (pc := 3) E dX9_partyOf_3 0 rfl rfl ?_
  refine g_getfield (pc := 4) E uX9_partyOf_X9 0 (zm_l (by decide)) (fun _ _ => rfl) rfl 11 (by decide) wX9_partyOf_0 (.int (fqI σ 0 11)) rfl dX9_partyOf_4 ?_
  refine g_icmp_ge (pc := 7) E 32 dX9_partyOf_7 (by decide) (fun c1 => ?_) (fun c1 => ?_)
  · replace hf := fq_t c1 hf
    refine g_iconst (pc := 32) E (-1 : Int32) dX9_partyOf_32 (by decide) ?_
    exact hret _ _ _ _ dX9_partyOf_33 (congrArg (fun z => (z, σ)) (Option.some.inj hf))
  · replace hf := fq_f c1 hf
    refine g_aload_n (pc := 10) E dX9_partyOf_10 0 rfl rfl ?_
    refine g_getfield (pc := 11) E uX9_partyOf_X9 0 (zm_l (by decide)) (fun _ _ => rfl) rfl 12 (by decide) wX9_partyOf_2 (.ref (ad 6)) rfl dX9_partyOf_11 ?_
    refine g_iload_n (pc := 14) E dX9_partyOf_14 2 rfl rfl ?_
    obtain ⟨h2, hf⟩ := fq_in hf
    refine g_iaload (pc := 15) E 6 (zm_l (by decide)) (fun _ _ => rfl) h2 dX9_partyOf_15 ?_
    refine g_iload_n (pc := 16) E dX9_partyOf_16 1 rfl rfl ?_
    refine g_ishr (pc := 17) E dX9_partyOf_17 ?_
    refine g_iconst (pc := 18) E (1 : Int32) dX9_partyOf_18 (by decide) ?_
    refine g_iand (pc := 19) E dX9_partyOf_19 ?_
    refine g_iconst (pc := 20) E (1 : Int32) dX9_partyOf_20 (by decide) ?_
    refine g_icmp_ne (pc := 21) E 26 dX9_partyOf_21 (by decide) (fun c3 => ?_) (fun c3 => ?_)
    · replace hf := fq_f c3 hf
      refine g_iinc (pc := 26) E (x2 + (1 : Int32)) [(2, .int (x2 + (1 : Int32))), (0, .ref (ad 0)), (1, .int x1)] dX9_partyOf_26 2 rfl rfl (by decide) rfl ?_
      refine g_goto (pc := 29) E 2 dX9_partyOf_29 (by decide) ?_
      refine g_lv [1, 2, 0] rfl ?_
      exact hrec _ hf
    · replace hf := fq_t c3 hf
      refine g_iload_n (pc := 24) E dX9_partyOf_24 2 rfl rfl ?_
      exact hret _ _ _ _ dX9_partyOf_25 (congrArg (fun z => (z, σ)) (Option.some.inj hf))
set_option maxRecDepth 100000 in
set_option maxHeartbeats 4000000 in
theorem qX9_partyOf (l : Launch) (D : va_G) (cy : Nat → ClassId) (ad : Nat → Nat) (sz n : Nat) (σ : fqS) (k : Nat) (x1 : Int32) {r : Int32} (hf : pX9_partyOf k n σ x1 = some r) : Met l yX9_partyOf wsX9_partyOf ({ frames := 0, cells := 0, slots := 0, locals := 0 } : Room) (fqPc (TM cy) ZM D cy ad sz n σ [.ref (ad 0), .int x1]) (fqQi (TM cy) ZM D ad sz n σ r σ) 0 0 (fqA (TM cy) ZM ad sz n σ) := by
  refine fq_enter_i (cc := cX9_partyOf) (maxL := 3) (own := RX9) _ (by decide) rfl (Nat.le_of_ble_eq_true rfl) rfl (fun X E hret => ?_)
  unfold pX9_partyOf at hf
  show fqG X (TM cy) ZM ad n 3 0 0 σ 0 [(0, .ref (ad 0)), (1, .int x1)] []
  refine g_iconst (pc := 0) E (0 : Int32) dX9_partyOf_0 (by decide) ?_
  refine g_istore_n (pc := 1) E [(2, .int (0 : Int32)), (0, .ref (ad 0)), (1, .int x1)] dX9_partyOf_1 rfl (by decide) rfl ?_
  refine g_lv [1, 2, 0] rfl ?_
  exact tX9_partyOf_L2 E hret _ hf

/-! X9_isBusy -/
theorem kcX9_isBusy : yX9_isBusy.cls = RX9 ∧ yX9_isBusy.cls ≠ "java/lang/invoke/MethodHandle" ∧ yX9_isBusy.cls ≠ "java/lang/invoke/VarHandle" ∧ (parseMethodDescriptor yX9_isBusy.desc).map (fun d => d.parameters.length) = some 1 := by decide +kernel
def pX9_isBusy (k n : Nat) (σ : fqS) (x1 : Int32) : Option Int32 :=
  ((pX9_partyOf k n σ x1).bind (fun r2 => (if 0 ≤ r2 then some (1 : Int32) else ((pX9_matchOf k n σ x1).bind (fun r5 => (if r5 < 0 then some (0 : Int32) else some (1 : Int32)))))))
set_option maxRecDepth 100000 in
set_option maxHeartbeats 4000000 in
theorem qX9_isBusy (l : Launch) (D : va_G) (cy : Nat → ClassId) (ad : Nat → Nat) (sz n : Nat) (σ : fqS) (k : Nat) (x1 : Int32) {r : Int32} (hf : pX9_isBusy k n σ x1 = some r) : Met l yX9_isBusy wsX9_isBusy ({ frames := 1, cells := 0, slots := 0, locals := 22 } : Room) (fqPc (TM cy) ZM D cy ad sz n σ [.ref (ad 0), .int x1]) (fqQi (TM cy) ZM D ad sz n σ r σ) 0 0 (fqA (TM cy) ZM ad sz n σ) := by
  refine fq_enter_z (cc := cX9_isBusy) (maxL := 2) (own := RX9) _ (by decide) rfl (Nat.le_of_ble_eq_true rfl) rfl (fun X E hret => ?_)
  unfold pX9_isBusy at hf
  show fqG X (TM cy) ZM ad n 2 0 0 σ 0 [(0, .ref (ad 0)), (1, .int x1)] []
  refine g_aload_n (pc := 0) E dX9_isBusy_0 0 rfl rfl ?_
  refine g_iload_n (pc := 1) E dX9_isBusy_1 1 rfl rfl ?_
  obtain ⟨r2, e1, hf⟩ := fq_b hf
  refine g_callVi (pc := 2) E 0 (zm_l (by decide)) (fun _ _ => rfl) rfl [.int x1] (fun l D sz => qX9_partyOf l D cy ad sz n σ k x1 e1) gX9_isBusy_X9_partyOf rfl rfl rfl kcX9_partyOf ⟨by decide, by decide⟩ rfl rfl (Nat.le_of_ble_eq_true rfl) dX9_isBusy_2 ⟨by decide, by decide⟩ ?_
  refine g_if_ge (pc := 5) E 16 dX9_isBusy_5 (by decide) (fun c3 => ?_) (fun c3 => ?_)
  · replace hf := fq_t c3 hf
    refine g_iconst (pc := 16) E (1 : Int32) dX9_isBusy_16 (by decide) ?_
    refine g_goto (pc := 17) E 21 dX9_isBusy_17 (by decide) ?_
    exact hret _ _ _ _ rfl dX9_isBusy_21 (congrArg (fun z => (z, σ)) (Option.some.inj hf))
  · replace hf := fq_f c3 hf
    refine g_aload_n (pc := 8) E dX9_isBusy_8 0 rfl rfl ?_
    refine g_iload_n (pc := 9) E dX9_isBusy_9 1 rfl rfl ?_
    obtain ⟨r5, e4, hf⟩ := fq_b hf
    refine g_callVi (pc := 10) E 0 (zm_l (by decide)) (fun _ _ => rfl) rfl [.int x1] (fun l D sz => qX9_matchOf l D cy ad sz n σ k x1 e4) gX9_isBusy_X9_matchOf rfl rfl rfl kcX9_matchOf ⟨by decide, by decide⟩ rfl rfl (Nat.le_of_ble_eq_true rfl) dX9_isBusy_10 ⟨by decide, by decide⟩ ?_
    refine g_if_lt (pc := 13) E 20 dX9_isBusy_13 (by decide) (fun c6 => ?_) (fun c6 => ?_)
    · replace hf := fq_t c6 hf
      refine g_iconst (pc := 20) E (0 : Int32) dX9_isBusy_20 (by decide) ?_
      exact hret _ _ _ _ rfl dX9_isBusy_21 (congrArg (fun z => (z, σ)) (Option.some.inj hf))
    · replace hf := fq_f c6 hf
      refine g_iconst (pc := 16) E (1 : Int32) dX9_isBusy_16 (by decide) ?_
      refine g_goto (pc := 17) E 21 dX9_isBusy_17 (by decide) ?_
      exact hret _ _ _ _ rfl dX9_isBusy_21 (congrArg (fun z => (z, σ)) (Option.some.inj hf))

/-! X9_isLevel -/
theorem wX9_isLevel_0 : Cond.constantLong RX9 101 (6) ∈ wsX9_isLevel := by decide +kernel
theorem kcX9_isLevel : yX9_isLevel.cls ≠ "java/lang/invoke/MethodHandle" ∧ yX9_isLevel.cls ≠ "java/lang/invoke/VarHandle" ∧ (parseMethodDescriptor yX9_isLevel.desc).map (fun d => d.parameters.length) = some 1 := by decide +kernel
def pX9_isLevel (k n : Nat) (σ : fqS) (x0 : Int32) : Option Int32 :=
  ((pX9_in k n σ (Int32.toInt64 x0) (0 : Int64) (6 : Int64)).bind (fun r2 => (if r2 &&& 1 = r2 then some r2 else none)))
set_option maxRecDepth 100000 in
set_option maxHeartbeats 4000000 in
theorem qX9_isLevel (l : Launch) (D : va_G) (cy : Nat → ClassId) (ad : Nat → Nat) (sz n : Nat) (σ : fqS) (k : Nat) (x0 : Int32) {r : Int32} (hf : pX9_isLevel k n σ x0 = some r) : Met l yX9_isLevel wsX9_isLevel ({ frames := 1, cells := 0, slots := 0, locals := 25 } : Room) (fqPc (TM cy) ZM D cy ad sz n σ [.int x0]) (fqQi (TM cy) ZM D ad sz n σ r σ) 0 0 (fqA (TM cy) ZM ad sz n σ) := by
  refine fq_enter_z (cc := cX9_isLevel) (maxL := 1) (own := RX9) _ (by decide) rfl (Nat.le_of_ble_eq_true rfl) rfl (fun X E hret => ?_)
  unfold pX9_isLevel at hf
  show fqG X (TM cy) ZM ad n 1 0 0 σ 0 [(0, .int x0)] []
  refine g_iload_n (pc := 0) E dX9_isLevel_0 0 rfl rfl ?_
  refine g_i2l (pc := 1) E dX9_isLevel_1 ?_
  refine g_lconst (pc := 2) E (0 : Int64) dX9_isLevel_2 (by decide) ?_
  refine g_ldc2_w (pc := 3) E dX9_isLevel_3 wX9_isLevel_0 ?_
  obtain ⟨r2, e1, hf⟩ := fq_b hf
  refine g_callSi (pc := 6) E [.long (Int32.toInt64 x0), .long (0 : Int64), .long (6 : Int64)] (fun l D sz => qX9_in l D cy ad sz n σ k (Int32.toInt64 x0) (0 : Int64) (6 : Int64) e1) gX9_isLevel_X9_in rfl rfl rfl kcX9_in ⟨by decide, by decide⟩ rfl rfl (Nat.le_of_ble_eq_true rfl) dX9_isLevel_6 ⟨by decide, by decide⟩ ?_
  obtain ⟨h3, hf⟩ := fq_g hf
  exact hret _ _ _ _ (fq_nb h3) dX9_isLevel_9 (congrArg (fun z => (z, σ)) (Option.some.inj hf))

/-! X9_takeOut -/
theorem wX9_takeOut_0 : Cond.fieldLink RX9 159 "FairQueueModel" "parties" "I" ∈ wsX9_takeOut := by decide +kernel
theorem uX9_takeOut_X9 : ∀ w ∈ u_ws RX9 TX9 33, w ∈ wsX9_takeOut := (fun _ h => List.mem_cons_of_mem _ (List.mem_append_right _ h))
theorem wX9_takeOut_2 : Cond.fieldLink RX9 42 "FairQueueModel" "partyBits" "[I" ∈ wsX9_takeOut := by decide +kernel
theorem wX9_takeOut_3 : Cond.fieldLink RX9 45 "FairQueueModel" "partyTick" "[I" ∈ wsX9_takeOut := by decide +kernel
theorem kcX9_takeOut : yX9_takeOut.cls = RX9 ∧ yX9_takeOut.cls ≠ "java/lang/invoke/MethodHandle" ∧ yX9_takeOut.cls ≠ "java/lang/invoke/VarHandle" ∧ (parseMethodDescriptor yX9_takeOut.desc).map (fun d => d.parameters.length) = some 1 := by decide +kernel
def pX9_takeOut_L12b (k n : Nat) (x1 : Int32) (rec : (Int32 × fqS) → Option fqS) (x2 : Int32) (σ : fqS) : Option fqS :=
  (if (fqI σ 0 11) ≤ x2 then some σ else (if (x2 + (1 : Int32)) < 0 ∨ 10 ≤ Int32.toNatClampNeg (x2 + (1 : Int32)) then none else (if x2 < 0 ∨ 10 ≤ Int32.toNatClampNeg x2 then none else (fqN (fqPI σ 6 (Int32.toNatClampNeg x2) (fqI σ 6 (Int32.toNatClampNeg (x2 + (1 : Int32))))) (fun σ6 => (fqN (fqPI σ6 7 (Int32.toNatClampNeg x2) (fqI σ6 7 (Int32.toNatClampNeg (x2 + (1 : Int32))))) (fun σ8 => (rec ((x2 + (1 : Int32)), σ8)))))))))
def pX9_takeOut_L12 (k n : Nat) (x1 : Int32) : (Int32 × fqS) → Option fqS := fqL (fun rec (s : (Int32 × fqS)) => pX9_takeOut_L12b k n x1 rec s.1 s.2) k
def pX9_takeOut (k n : Nat) (σ : fqS) (x1 : Int32) : Option fqS :=
  (fqN (fqPI σ 0 11 ((fqI σ 0 11) - (1 : Int32))) (fun σ1 => (pX9_takeOut_L12 k n x1 (x1, σ1))))
set_option maxRecDepth 100000 in
set_option maxHeartbeats 4000000 in
theorem tX9_takeOut_L12 {k : Nat} {X : fqX} {cy : Nat → ClassId} {ad : Nat → Nat} {n : Nat} {σ' : fqS} {x1 : Int32} (E : fqE X ({ frames := 0, cells := 0, slots := 0, locals := 0 } : Room) cy cX9_takeOut 3 wsX9_takeOut RX9) (hret : fqR_v X (TM cy) ZM ad n 3 cX9_takeOut σ') : ∀ (s : (Int32 × fqS)), pX9_takeOut_L12 k n x1 s = some σ' → fqG X (TM cy) ZM ad n 3 0 0 (s.2) 12 [(0, .ref (ad 0)), (2, .int (s.1))] [] := by
  unfold pX9_takeOut_L12
  refine fqL_run (P := fun (s : (Int32 × fqS)) => fqG X (TM cy) ZM ad n 3 0 0 (s.2) 12 [(0, .ref (ad 0)), (2, .int (s.1))] []) (fun rec s hrec hf => ?_) k
  obtain ⟨x2, σ⟩ := s
  have hf : pX9_takeOut_L12b k n x1 rec x2 σ = some σ' := hf
  unfold pX9_takeOut_L12b at hf
  show fqG X (TM cy) ZM ad n 3 0 0 σ 12 [(0, .ref (ad 0)), (2, .int x2)] []
  refine g_iload_n (pc := 12) E dX9_takeOut_12 1 rfl rfl ?_
  refine g_aload_n (pc := 13) E dX9_takeOut_13 0 rfl rfl ?_
  refine g_getfield (pc := 14) E uX9_takeOut_X9 0 (zm_l (by decide)) (fun _ _ => rfl) rfl 11 (by decide) wX9_takeOut_0 (.int (fqI σ 0 11)) rfl dX9_takeOut_14 ?_
  refine g_icmp_ge (pc := 17) E 54 dX9_takeOut_17 (by decide) (fun c3 => ?_) (fun c3 => ?_)
  · replace hf := fq_t c3 hf
    exact hret _ _ _ dX9_takeOut_54 (Option.some.inj hf)
  · replace hf := fq_f c3 hf
    refine g_aload_n (pc := 20) E dX9_takeOut_20 0 rfl rfl ?_
    refine g_getfield (pc := 21) E uX9_takeOut_X9 0 (zm_l (by decide)) (fun _ _ => rfl) rfl 12 (by decide) wX9_takeOut_2 (.ref (ad 6)) rfl dX9_takeOut_21 ?_
    refine g_iload_n (pc := 24) E dX9_takeOut_24 1 rfl rfl ?_
    refine g_aload_n (pc := 25) E dX9_takeOut_25 0 rfl rfl ?_
    refine g_getfield (pc := 26) E uX9_takeOut_X9 0 (zm_l (by decide)) (fun _ _ => rfl) rfl 12 (by decide) wX9_takeOut_2 (.ref (ad 6)) rfl dX9_takeOut_26 ?_
    refine g_iload_n (pc := 29) E dX9_takeOut_29 1 rfl rfl ?_
    refine g_iconst (pc := 30) E (1 : Int32) dX9_takeOut_30 (by decide) ?_
    refine g_iadd (pc := 31) E dX9_takeOut_31 ?_
    obtain ⟨h4, hf⟩ := fq_in hf
    refine g_iaload (pc := 32) E 6 (zm_l (by decide)) (fun _ _ => rfl) h4 dX9_takeOut_32 ?_
    obtain ⟨h5, hf⟩ := fq_in hf
    refine g_iastore (pc := 33) E 6 (zm_l (by decide)) (fun _ _ => rfl) h5 dX9_takeOut_33 ?_
    obtain ⟨σ6, e7, hf⟩ := fq_n hf
    refine g_sg e7 ?_
    refine g_aload_n (pc := 34) E dX9_takeOut_34 0 rfl rfl ?_
    refine g_getfield (pc := 35) E uX9_takeOut_X9 0 (zm_l (by decide)) (fun _ _ => rfl) rfl 13 (by decide) wX9_takeOut_3 (.ref (ad 7)) rfl dX9_takeOut_35 ?_
    refine g_iload_n (pc := 38) E dX9_takeOut_38 1 rfl rfl ?_
    refine g_aload_n (pc := 39) E dX9_takeOut_39 0 rfl rfl ?_
    refine g_getfield (pc := 40) E uX9_takeOut_X9 0 (zm_l (by decide)) (fun _ _ => rfl) rfl 13 (by decide) wX9_takeOut_3 (.ref (ad 7)) rfl dX9_takeOut_40 ?_
    refine g_iload_n (pc := 43) E dX9_takeOut_43 1 rfl rfl ?_
    refine g_iconst (pc := 44) E (1 : Int32) dX9_takeOut_44 (by decide) ?_
    refine g_iadd (pc := 45) E dX9_takeOut_45 ?_
    refine g_iaload (pc := 46) E 7 (zm_l (by decide)) (fun _ _ => rfl) h4 dX9_takeOut_46 ?_
    refine g_iastore (pc := 47) E 7 (zm_l (by decide)) (fun _ _ => rfl) h5 dX9_takeOut_47 ?_
    obtain ⟨σ8, e9, hf⟩ := fq_n hf
    refine g_sg e9 ?_
    refine g_iinc (pc := 48) E (x2 + (1 : Int32)) [(2, .int (x2 + (1 : Int32))), (0, .ref (ad 0))] dX9_takeOut_48 1 rfl rfl (by decide) rfl ?_
    refine g_goto (pc := 51) E 12 dX9_takeOut_51 (by decide) ?_
    refine g_lv [1, 0] rfl ?_
    exact hrec _ hf
set_option maxRecDepth 100000 in
set_option maxHeartbeats 4000000 in
theorem qX9_takeOut (l : Launch) (D : va_G) (cy : Nat → ClassId) (ad : Nat → Nat) (sz n : Nat) (σ : fqS) (k : Nat) (x1 : Int32) {σ' : fqS} (hf : pX9_takeOut k n σ x1 = some σ') : Met l yX9_takeOut wsX9_takeOut ({ frames := 0, cells := 0, slots := 0, locals := 0 } : Room) (fqPc (TM cy) ZM D cy ad sz n σ [.ref (ad 0), .int x1]) (fqQv (TM cy) ZM D ad sz n σ σ') 0 0 (fqA (TM cy) ZM ad sz n σ) := by
  refine fq_enter_v (cc := cX9_takeOut) (maxL := 3) (own := RX9) _ (by decide) rfl (Nat.le_of_ble_eq_true rfl) rfl (fun X E hret => ?_)
  unfold pX9_takeOut at hf
  show fqG X (TM cy) ZM ad n 3 0 0 σ 0 [(0, .ref (ad 0)), (1, .int x1)] []
  refine g_aload_n (pc := 0) E dX9_takeOut_0 0 rfl rfl ?_
  refine g_dup (pc := 1) E dX9_takeOut_1 rfl ?_
  refine g_getfield (pc := 2) E uX9_takeOut_X9 0 (zm_l (by decide)) (fun _ _ => rfl) rfl 11 (by decide) wX9_takeOut_0 (.int (fqI σ 0 11)) rfl dX9_takeOut_2 ?_
  refine g_iconst (pc := 5) E (1 : Int32) dX9_takeOut_5 (by decide) ?_
  refine g_isub (pc := 6) E dX9_takeOut_6 ?_
  refine g_putI (pc := 7) E uX9_takeOut_X9 tyX9 tyX9_ok nmX9 0 (zm_l (by decide)) (fun _ _ => rfl) rfl 11 (by decide) wX9_takeOut_0 rfl rfl (Nat.le_of_ble_eq_true rfl) rfl dX9_takeOut_7 ?_
  obtain ⟨σ1, e2, hf⟩ := fq_n hf
  refine g_sg e2 ?_
  refine g_iload_n (pc := 10) E dX9_takeOut_10 1 rfl rfl ?_
  refine g_istore_n (pc := 11) E [(2, .int x1), (0, .ref (ad 0)), (1, .int x1)] dX9_takeOut_11 rfl (by decide) rfl ?_
  refine g_lv [1, 0] rfl ?_
  exact tX9_takeOut_L12 E hret _ hf

/-! X9_leave -/
theorem wX9_leave_0 : Cond.fieldLink RX9 159 "FairQueueModel" "parties" "I" ∈ wsX9_leave := by decide +kernel
theorem uX9_leave_X9 : ∀ w ∈ u_ws RX9 TX9 33, w ∈ wsX9_leave := (fun _ h => List.mem_cons_of_mem _ (List.mem_append_right _ h))
theorem wX9_leave_2 : Cond.constantLong RX9 173 (-1000000002) ∈ wsX9_leave := by decide +kernel
theorem wX9_leave_3 : Cond.constantLong RX9 109 (-1000000001) ∈ wsX9_leave := by decide +kernel
theorem kcX9_leave : yX9_leave.cls = RX9 ∧ yX9_leave.cls ≠ "java/lang/invoke/MethodHandle" ∧ yX9_leave.cls ≠ "java/lang/invoke/VarHandle" ∧ (parseMethodDescriptor yX9_leave.desc).map (fun d => d.parameters.length) = some 1 := by decide +kernel
def pX9_leave (k n : Nat) (σ : fqS) (x1 : Int32) : Option (Int64 × fqS) :=
  ((pX9_isPlayer k n σ x1).bind (fun r2 => (if r2 = 0 then (fqB2 (pX9_finding k n σ (-1000000001 : Int64)) (fun r13 σ14 => some (r13, σ14))) else ((pX9_partyOf k n σ x1).bind (fun r5 => (if 0 ≤ r5 then ((pX9_takeOut k n σ r5).bind (fun σ8 => some ((Int32.toInt64 (fqI σ8 0 11)), σ8))) else (fqB2 (pX9_finding k n σ (-1000000002 : Int64)) (fun r10 σ11 => some (r10, σ11)))))))))
set_option maxRecDepth 100000 in
set_option maxHeartbeats 4000000 in
theorem qX9_leave (l : Launch) (D : va_G) (cy : Nat → ClassId) (ad : Nat → Nat) (sz n : Nat) (σ : fqS) (k : Nat) (x1 : Int32) {r : Int64} {σ' : fqS} (hf : pX9_leave k n σ x1 = some (r, σ')) : Met l yX9_leave wsX9_leave ({ frames := 2, cells := 0, slots := 0, locals := 46 } : Room) (fqPc (TM cy) ZM D cy ad sz n σ [.ref (ad 0), .int x1]) (fqQl (TM cy) ZM D ad sz n σ r σ') 0 0 (fqA (TM cy) ZM ad sz n σ) := by
  refine fq_enter_l (cc := cX9_leave) (maxL := 3) (own := RX9) _ (by decide) rfl (Nat.le_of_ble_eq_true rfl) rfl (fun X E hret => ?_)
  unfold pX9_leave at hf
  show fqG X (TM cy) ZM ad n 3 0 0 σ 0 [(0, .ref (ad 0)), (1, .int x1)] []
  refine g_aload_n (pc := 0) E dX9_leave_0 0 rfl rfl ?_
  refine g_iload_n (pc := 1) E dX9_leave_1 1 rfl rfl ?_
  obtain ⟨r2, e1, hf⟩ := fq_b hf
  refine g_callVi (pc := 2) E 0 (zm_l (by decide)) (fun _ _ => rfl) rfl [.int x1] (fun l D sz => qX9_isPlayer l D cy ad sz n σ k x1 e1) gX9_leave_X9_isPlayer rfl rfl rfl kcX9_isPlayer ⟨by decide, by decide⟩ rfl rfl (Nat.le_of_ble_eq_true rfl) dX9_leave_2 ⟨by decide, by decide⟩ ?_
  refine g_if_ne (pc := 5) E 16 dX9_leave_5 (by decide) (fun c3 => ?_) (fun c3 => ?_)
  · replace hf := fq_f c3 hf
    refine g_aload_n (pc := 16) E dX9_leave_16 0 rfl rfl ?_
    refine g_iload_n (pc := 17) E dX9_leave_17 1 rfl rfl ?_
    obtain ⟨r5, e4, hf⟩ := fq_b hf
    refine g_callVi (pc := 18) E 0 (zm_l (by decide)) (fun _ _ => rfl) rfl [.int x1] (fun l D sz => qX9_partyOf l D cy ad sz n σ k x1 e4) gX9_leave_X9_partyOf rfl rfl rfl kcX9_partyOf ⟨by decide, by decide⟩ rfl rfl (Nat.le_of_ble_eq_true rfl) dX9_leave_18 ⟨by decide, by decide⟩ ?_
    refine g_istore_n (pc := 21) E [(2, .int r5), (0, .ref (ad 0)), (1, .int x1)] dX9_leave_21 rfl (by decide) rfl ?_
    refine g_iload_n (pc := 22) E dX9_leave_22 0 rfl rfl ?_
    refine g_if_ge (pc := 23) E 34 dX9_leave_23 (by decide) (fun c6 => ?_) (fun c6 => ?_)
    · replace hf := fq_t c6 hf
      refine g_aload_n (pc := 34) E dX9_leave_34 1 rfl rfl ?_
      refine g_iload_n (pc := 35) E dX9_leave_35 0 rfl rfl ?_
      obtain ⟨σ8, e7, hf⟩ := fq_b hf
      refine g_callVv (pc := 36) E 0 (zm_l (by decide)) (fun _ _ => rfl) rfl [.int r5] (fun l D sz => qX9_takeOut l D cy ad sz n σ k r5 e7) gX9_leave_X9_takeOut rfl rfl rfl kcX9_takeOut ⟨by decide, by decide⟩ rfl rfl (Nat.le_of_ble_eq_true rfl) dX9_leave_36 ⟨by decide, by decide⟩ ?_
      refine g_aload_n (pc := 39) E dX9_leave_39 1 rfl rfl ?_
      refine g_getfield (pc := 40) E uX9_leave_X9 0 (zm_l (by decide)) (fun _ _ => rfl) rfl 11 (by decide) wX9_leave_0 (.int (fqI σ8 0 11)) rfl dX9_leave_40 ?_
      refine g_i2l (pc := 43) E dX9_leave_43 ?_
      exact hret _ _ _ _ dX9_leave_44 (Option.some.inj hf)
    · replace hf := fq_f c6 hf
      refine g_aload_n (pc := 26) E dX9_leave_26 1 rfl rfl ?_
      refine g_ldc2_w (pc := 27) E dX9_leave_27 wX9_leave_2 ?_
      obtain ⟨r10, σ11, e9, hf⟩ := fq_b2 hf
      refine g_callVl (pc := 30) E 0 (zm_l (by decide)) (fun _ _ => rfl) rfl [.long (-1000000002 : Int64)] (fun l D sz => qX9_finding l D cy ad sz n σ k (-1000000002 : Int64) e9) gX9_leave_X9_finding rfl rfl rfl kcX9_finding ⟨by decide, by decide⟩ rfl rfl (Nat.le_of_ble_eq_true rfl) dX9_leave_30 ⟨by decide, by decide⟩ ?_
      exact hret _ _ _ _ dX9_leave_33 (Option.some.inj hf)
  · replace hf := fq_t c3 hf
    refine g_aload_n (pc := 8) E dX9_leave_8 0 rfl rfl ?_
    refine g_ldc2_w (pc := 9) E dX9_leave_9 wX9_leave_3 ?_
    obtain ⟨r13, σ14, e12, hf⟩ := fq_b2 hf
    refine g_callVl (pc := 12) E 0 (zm_l (by decide)) (fun _ _ => rfl) rfl [.long (-1000000001 : Int64)] (fun l D sz => qX9_finding l D cy ad sz n σ k (-1000000001 : Int64) e12) gX9_leave_X9_finding rfl rfl rfl kcX9_finding ⟨by decide, by decide⟩ rfl rfl (Nat.le_of_ble_eq_true rfl) dX9_leave_12 ⟨by decide, by decide⟩ ?_
    exact hret _ _ _ _ dX9_leave_15 (Option.some.inj hf)

/-! X9_limit -/
theorem wX9_limit_0 : Cond.constantLong RX9 249 (8000000) ∈ wsX9_limit := by decide +kernel
theorem wX9_limit_1 : Cond.fieldLink RX9 65 "FairQueueModel" "limit" "I" ∈ wsX9_limit := by decide +kernel
theorem uX9_limit_X9 : ∀ w ∈ u_ws RX9 TX9 33, w ∈ wsX9_limit := (fun _ h => List.mem_cons_of_mem _ (List.mem_append_right _ h))
theorem wX9_limit_3 : Cond.constantLong RX9 109 (-1000000001) ∈ wsX9_limit := by decide +kernel
theorem kcX9_limit : yX9_limit.cls = RX9 ∧ yX9_limit.cls ≠ "java/lang/invoke/MethodHandle" ∧ yX9_limit.cls ≠ "java/lang/invoke/VarHandle" ∧ (parseMethodDescriptor yX9_limit.desc).map (fun d => d.parameters.length) = some 1 := by decide +kernel
def pX9_limit (k n : Nat) (σ : fqS) (x1 : Int32) : Option (Int64 × fqS) :=
  ((pX9_in k n σ (Int32.toInt64 x1) (0 : Int64) (8000000 : Int64)).bind (fun r2 => (if r2 = 0 then (fqB2 (pX9_finding k n σ (-1000000001 : Int64)) (fun r7 σ8 => some (r7, σ8))) else (fqN (fqPI σ 0 20 x1) (fun σ4 => some ((Int32.toInt64 (fqI σ 0 20)), σ4))))))
set_option maxRecDepth 100000 in
set_option maxHeartbeats 4000000 in
theorem qX9_limit (l : Launch) (D : va_G) (cy : Nat → ClassId) (ad : Nat → Nat) (sz n : Nat) (σ : fqS) (k : Nat) (x1 : Int32) {r : Int64} {σ' : fqS} (hf : pX9_limit k n σ x1 = some (r, σ')) : Met l yX9_limit wsX9_limit ({ frames := 1, cells := 0, slots := 0, locals := 25 } : Room) (fqPc (TM cy) ZM D cy ad sz n σ [.ref (ad 0), .int x1]) (fqQl (TM cy) ZM D ad sz n σ r σ') 0 0 (fqA (TM cy) ZM ad sz n σ) := by
  refine fq_enter_l (cc := cX9_limit) (maxL := 3) (own := RX9) _ (by decide) rfl (Nat.le_of_ble_eq_true rfl) rfl (fun X E hret => ?_)
  unfold pX9_limit at hf
  show fqG X (TM cy) ZM ad n 3 0 0 σ 0 [(0, .ref (ad 0)), (1, .int x1)] []
  refine g_iload_n (pc := 0) E dX9_limit_0 1 rfl rfl ?_
  refine g_i2l (pc := 1) E dX9_limit_1 ?_
  refine g_lconst (pc := 2) E (0 : Int64) dX9_limit_2 (by decide) ?_
  refine g_ldc2_w (pc := 3) E dX9_limit_3 wX9_limit_0 ?_
  obtain ⟨r2, e1, hf⟩ := fq_b hf
  refine g_callSi (pc := 6) E [.long (Int32.toInt64 x1), .long (0 : Int64), .long (8000000 : Int64)] (fun l D sz => qX9_in l D cy ad sz n σ k (Int32.toInt64 x1) (0 : Int64) (8000000 : Int64) e1) gX9_limit_X9_in rfl rfl rfl kcX9_in ⟨by decide, by decide⟩ rfl rfl (Nat.le_of_ble_eq_true rfl) dX9_limit_6 ⟨by decide, by decide⟩ ?_
  refine g_if_ne (pc := 9) E 20 dX9_limit_9 (by decide) (fun c3 => ?_) (fun c3 => ?_)
  · replace hf := fq_f c3 hf
    refine g_aload_n (pc := 20) E dX9_limit_20 0 rfl rfl ?_
    refine g_getfield (pc := 21) E uX9_limit_X9 0 (zm_l (by decide)) (fun _ _ => rfl) rfl 20 (by decide) wX9_limit_1 (.int (fqI σ 0 20)) rfl dX9_limit_21 ?_
    refine g_istore_n (pc := 24) E [(2, .int (fqI σ 0 20)), (0, .ref (ad 0)), (1, .int x1)] dX9_limit_24 rfl (by decide) rfl ?_
    refine g_aload_n (pc := 25) E dX9_limit_25 1 rfl rfl ?_
    refine g_iload_n (pc := 26) E dX9_limit_26 2 rfl rfl ?_
    refine g_putI (pc := 27) E uX9_limit_X9 tyX9 tyX9_ok nmX9 0 (zm_l (by decide)) (fun _ _ => rfl) rfl 20 (by decide) wX9_limit_1 rfl rfl (Nat.le_of_ble_eq_true rfl) rfl dX9_limit_27 ?_
    obtain ⟨σ4, e5, hf⟩ := fq_n hf
    refine g_sg e5 ?_
    refine g_iload_n (pc := 30) E dX9_limit_30 0 rfl rfl ?_
    refine g_i2l (pc := 31) E dX9_limit_31 ?_
    exact hret _ _ _ _ dX9_limit_32 (Option.some.inj hf)
  · replace hf := fq_t c3 hf
    refine g_aload_n (pc := 12) E dX9_limit_12 0 rfl rfl ?_
    refine g_ldc2_w (pc := 13) E dX9_limit_13 wX9_limit_3 ?_
    obtain ⟨r7, σ8, e6, hf⟩ := fq_b2 hf
    refine g_callVl (pc := 16) E 0 (zm_l (by decide)) (fun _ _ => rfl) rfl [.long (-1000000001 : Int64)] (fun l D sz => qX9_finding l D cy ad sz n σ k (-1000000001 : Int64) e6) gX9_limit_X9_finding rfl rfl rfl kcX9_finding ⟨by decide, by decide⟩ rfl rfl (Nat.le_of_ble_eq_true rfl) dX9_limit_16 ⟨by decide, by decide⟩ ?_
    exact hret _ _ _ _ dX9_limit_19 (Option.some.inj hf)

/-! X9_teamChance -/
theorem wX9_teamChance_0 : Cond.fieldLink RX9 94 "FairQueueModel" "players" "I" ∈ wsX9_teamChance := by decide +kernel
theorem uX9_teamChance_X9 : ∀ w ∈ u_ws RX9 TX9 33, w ∈ wsX9_teamChance := (fun _ h => List.mem_cons_of_mem _ (List.mem_append_right _ h))
theorem kcX9_teamChance : yX9_teamChance.cls = RX9 ∧ yX9_teamChance.cls ≠ "java/lang/invoke/MethodHandle" ∧ yX9_teamChance.cls ≠ "java/lang/invoke/VarHandle" ∧ (parseMethodDescriptor yX9_teamChance.desc).map (fun d => d.parameters.length) = some 2 := by decide +kernel
def pX9_teamChance_L5b (k n : Nat) (σ : fqS) (x1 : Int32) (x2 : Int32) (rec : (Int64 × Int32) → Option Int64) (x3 : Int64) (x5 : Int32) : Option Int64 :=
  (if (fqI σ 0 1) ≤ x5 then ((pX9_ones k n σ x1).bind (fun r3 => (if (Int32.toInt64 r3) = 0 then none else some (x3 / (Int32.toInt64 r3))))) else (if ((x1 >>> (x5 &&& 31)) &&& (1 : Int32)) = (1 : Int32) then ((pX9_chanceOf k n σ x5 x2).bind (fun r7 => (rec ((x3 + r7), (x5 + (1 : Int32)))))) else (rec ((x3 + (0 : Int64)), (x5 + (1 : Int32))))))
def pX9_teamChance_L5 (k n : Nat) (σ : fqS) (x1 : Int32) (x2 : Int32) : (Int64 × Int32) → Option Int64 := fqL (fun rec (s : (Int64 × Int32)) => pX9_teamChance_L5b k n σ x1 x2 rec s.1 s.2) k
def pX9_teamChance (k n : Nat) (σ : fqS) (x1 : Int32) (x2 : Int32) : Option Int64 :=
  (pX9_teamChance_L5 k n σ x1 x2 ((0 : Int64), (0 : Int32)))
set_option maxRecDepth 100000 in
set_option maxHeartbeats 4000000 in
theorem tX9_teamChance_L5 {k : Nat} {X : fqX} {cy : Nat → ClassId} {ad : Nat → Nat} {n : Nat} {σ : fqS} {r : Int64} {x1 : Int32} {x2 : Int32} (E : fqE X ({ frames := 3, cells := 0, slots := 0, locals := 73 } : Room) cy cX9_teamChance 6 wsX9_teamChance RX9) (hret : fqR_l X (TM cy) ZM ad n 6 cX9_teamChance r σ) : ∀ (s : (Int64 × Int32)), pX9_teamChance_L5 k n σ x1 x2 s = some r → fqG X (TM cy) ZM ad n 6 0 0 σ 5 [(0, .ref (ad 0)), (1, .int x1), (2, .int x2), (3, .long (s.1)), (5, .int (s.2))] [] := by
  unfold pX9_teamChance_L5
  refine fqL_run (P := fun (s : (Int64 × Int32)) => fqG X (TM cy) ZM ad n 6 0 0 σ 5 [(0, .ref (ad 0)), (1, .int x1), (2, .int x2), (3, .long (s.1)), (5, .int (s.2))] []) (fun rec s hrec hf => ?_) k
  obtain ⟨x3, x5⟩ := s
  have hf : pX9_teamChance_L5b k n σ x1 x2 rec x3 x5 = some r := hf
  unfold pX9_teamChance_L5b at hf
  show fqG X (TM cy) ZM ad n 6 0 0 σ 5 [(0, .ref (ad 0)), (1, .int x1), (2, .int x2), (3, .long x3), (5, .int x5)] []
  refine g_iload (pc := 5) E dX9_teamChance_5 4 rfl ?_
  refine g_aload_n (pc := 7) E dX9_teamChance_7 0 rfl rfl ?_
  refine g_getfield (pc := 8) E uX9_teamChance_X9 0 (zm_l (by decide)) (fun _ _ => rfl) rfl 1 (by decide) wX9_teamChance_0 (.int (fqI σ 0 1)) rfl dX9_teamChance_8 ?_
  refine g_icmp_ge (pc := 11) E 44 dX9_teamChance_11 (by decide) (fun c1 => ?_) (fun c1 => ?_)
  · replace hf := fq_t c1 hf
    refine g_lload_n (pc := 44) E dX9_teamChance_44 3 rfl rfl ?_
    refine g_iload_n (pc := 45) E dX9_teamChance_45 1 rfl rfl ?_
    obtain ⟨r3, e2, hf⟩ := fq_b hf
    refine g_callSi (pc := 46) E [.int x1] (fun l D sz => qX9_ones l D cy ad sz n σ k x1 e2) gX9_teamChance_X9_ones rfl rfl rfl kcX9_ones ⟨by decide, by decide⟩ rfl rfl (Nat.le_of_ble_eq_true rfl) dX9_teamChance_46 ⟨by decide, by decide⟩ ?_
    refine g_i2l (pc := 49) E dX9_teamChance_49 ?_
    obtain ⟨h4, hf⟩ := fq_z hf
    refine g_ldiv (pc := 50) E dX9_teamChance_50 h4 ?_
    exact hret _ _ _ _ dX9_teamChance_51 (congrArg (fun z => (z, σ)) (Option.some.inj hf))
  · replace hf := fq_f c1 hf
    refine g_lload_n (pc := 14) E dX9_teamChance_14 3 rfl rfl ?_
    refine g_iload_n (pc := 15) E dX9_teamChance_15 1 rfl rfl ?_
    refine g_iload (pc := 16) E dX9_teamChance_16 4 rfl ?_
    refine g_ishr (pc := 18) E dX9_teamChance_18 ?_
    refine g_iconst (pc := 19) E (1 : Int32) dX9_teamChance_19 (by decide) ?_
    refine g_iand (pc := 20) E dX9_teamChance_20 ?_
    refine g_iconst (pc := 21) E (1 : Int32) dX9_teamChance_21 (by decide) ?_
    refine g_icmp_ne (pc := 22) E 35 dX9_teamChance_22 (by decide) (fun c5 => ?_) (fun c5 => ?_)
    · replace hf := fq_f c5 hf
      refine g_lconst (pc := 35) E (0 : Int64) dX9_teamChance_35 (by decide) ?_
      refine g_ladd (pc := 36) E dX9_teamChance_36 ?_
      refine g_lstore_n (pc := 37) E [(3, .long (x3 + (0 : Int64))), (0, .ref (ad 0)), (1, .int x1), (2, .int x2), (5, .int x5)] dX9_teamChance_37 rfl (by decide) rfl ?_
      refine g_iinc (pc := 38) E (x5 + (1 : Int32)) [(5, .int (x5 + (1 : Int32))), (3, .long (x3 + (0 : Int64))), (0, .ref (ad 0)), (1, .int x1), (2, .int x2)] dX9_teamChance_38 4 rfl rfl (by decide) rfl ?_
      refine g_goto (pc := 41) E 5 dX9_teamChance_41 (by decide) ?_
      refine g_lv [2, 3, 4, 1, 0] rfl ?_
      exact hrec _ hf
    · replace hf := fq_t c5 hf
      refine g_aload_n (pc := 25) E dX9_teamChance_25 0 rfl rfl ?_
      refine g_iload (pc := 26) E dX9_teamChance_26 4 rfl ?_
      refine g_iload_n (pc := 28) E dX9_teamChance_28 2 rfl rfl ?_
      obtain ⟨r7, e6, hf⟩ := fq_b hf
      refine g_callVl (pc := 29) E 0 (zm_l (by decide)) (fun _ _ => rfl) rfl [.int x5, .int x2] (fun l D sz => qX9_chanceOf l D cy ad sz n σ k x5 x2 e6) gX9_teamChance_X9_chanceOf rfl rfl rfl kcX9_chanceOf ⟨by decide, by decide⟩ rfl rfl (Nat.le_of_ble_eq_true rfl) dX9_teamChance_29 ⟨by decide, by decide⟩ ?_
      refine g_goto (pc := 32) E 36 dX9_teamChance_32 (by decide) ?_
      refine g_ladd (pc := 36) E dX9_teamChance_36 ?_
      refine g_lstore_n (pc := 37) E [(3, .long (x3 + r7)), (0, .ref (ad 0)), (1, .int x1), (2, .int x2), (5, .int x5)] dX9_teamChance_37 rfl (by decide) rfl ?_
      refine g_iinc (pc := 38) E (x5 + (1 : Int32)) [(5, .int (x5 + (1 : Int32))), (3, .long (x3 + r7)), (0, .ref (ad 0)), (1, .int x1), (2, .int x2)] dX9_teamChance_38 4 rfl rfl (by decide) rfl ?_
      refine g_goto (pc := 41) E 5 dX9_teamChance_41 (by decide) ?_
      refine g_lv [2, 3, 4, 1, 0] rfl ?_
      exact hrec _ hf
set_option maxRecDepth 100000 in
set_option maxHeartbeats 4000000 in
theorem qX9_teamChance (l : Launch) (D : va_G) (cy : Nat → ClassId) (ad : Nat → Nat) (sz n : Nat) (σ : fqS) (k : Nat) (x1 : Int32) (x2 : Int32) {r : Int64} (hf : pX9_teamChance k n σ x1 x2 = some r) : Met l yX9_teamChance wsX9_teamChance ({ frames := 3, cells := 0, slots := 0, locals := 73 } : Room) (fqPc (TM cy) ZM D cy ad sz n σ [.ref (ad 0), .int x1, .int x2]) (fqQl (TM cy) ZM D ad sz n σ r σ) 0 0 (fqA (TM cy) ZM ad sz n σ) := by
  refine fq_enter_l (cc := cX9_teamChance) (maxL := 6) (own := RX9) _ (by decide) rfl (Nat.le_of_ble_eq_true rfl) rfl (fun X E hret => ?_)
  unfold pX9_teamChance at hf
  show fqG X (TM cy) ZM ad n 6 0 0 σ 0 [(0, .ref (ad 0)), (1, .int x1), (2, .int x2)] []
  refine g_lconst (pc := 0) E (0 : Int64) dX9_teamChance_0 (by decide) ?_
  refine g_lstore_n (pc := 1) E [(3, .long (0 : Int64)), (0, .ref (ad 0)), (1, .int x1), (2, .int x2)] dX9_teamChance_1 rfl (by decide) rfl ?_
  refine g_iconst (pc := 2) E (0 : Int32) dX9_teamChance_2 (by decide) ?_
  refine g_istore (pc := 3) E [(5, .int (0 : Int32)), (3, .long (0 : Int64)), (0, .ref (ad 0)), (1, .int x1), (2, .int x2)] dX9_teamChance_3 (by decide) rfl ?_
  refine g_lv [2, 3, 4, 1, 0] rfl ?_
  exact tX9_teamChance_L5 E hret _ hf

/-! X9_match -/
theorem wX9_match_0 : Cond.constantLong RX9 109 (-1000000001) ∈ wsX9_match := by decide +kernel
theorem wX9_match_1 : Cond.constantLong RX9 212 (4) ∈ wsX9_match := by decide +kernel
theorem wX9_match_2 : Cond.fieldLink RX9 48 "FairQueueModel" "goesOn" "[Z" ∈ wsX9_match := by decide +kernel
theorem uX9_match_X9 : ∀ w ∈ u_ws RX9 TX9 33, w ∈ wsX9_match := (fun _ h => List.mem_cons_of_mem _ (List.mem_append_right _ h))
theorem wX9_match_4 : Cond.fieldLink RX9 61 "FairQueueModel" "madeAt" "[I" ∈ wsX9_match := by decide +kernel
theorem wX9_match_5 : Cond.fieldLink RX9 58 "FairQueueModel" "dropped" "[I" ∈ wsX9_match := by decide +kernel
theorem wX9_match_6 : Cond.fieldLink RX9 55 "FairQueueModel" "secondOf" "[I" ∈ wsX9_match := by decide +kernel
theorem wX9_match_7 : Cond.fieldLink RX9 52 "FairQueueModel" "firstOf" "[I" ∈ wsX9_match := by decide +kernel
theorem wX9_match_8 : Cond.constantLong RX9 173 (-1000000002) ∈ wsX9_match := by decide +kernel
theorem kcX9_match : yX9_match.cls = RX9 ∧ yX9_match.cls ≠ "java/lang/invoke/MethodHandle" ∧ yX9_match.cls ≠ "java/lang/invoke/VarHandle" ∧ (parseMethodDescriptor yX9_match.desc).map (fun d => d.parameters.length) = some 2 := by decide +kernel
def pX9_match (k n : Nat) (σ : fqS) (x1 : Int32) (x2 : Int32) : Option (Int64 × fqS) :=
  ((pX9_isPlaceOfMatch k n σ x1).bind (fun r2 => (if r2 = 0 then (fqB2 (pX9_finding k n σ (-1000000001 : Int64)) (fun r5 σ6 => some (r5, σ6))) else ((pX9_in k n σ (Int32.toInt64 x2) (0 : Int64) (4 : Int64)).bind (fun r8 => (if r8 = 0 then (fqB2 (pX9_finding k n σ (-1000000001 : Int64)) (fun r24 σ25 => some (r24, σ25))) else (if x1 < 0 ∨ 5 ≤ Int32.toNatClampNeg x1 then none else (if (fqI σ 8 (Int32.toNatClampNeg x1)) = 0 then (fqB2 (pX9_finding k n σ (-1000000002 : Int64)) (fun r21 σ22 => some (r21, σ22))) else (if x2 = (4 : Int32) then ((pX9_layAside k n σ).bind (fun σ17 => ((pX9_teamChance k n σ17 (fqI σ17 9 (Int32.toNatClampNeg x1)) (fqI σ17 10 (Int32.toNatClampNeg x1))).bind (fun r19 => some (r19, σ17))))) else (if x2 = 0 then some ((Int32.toInt64 (fqI σ 9 (Int32.toNatClampNeg x1))), σ) else (if x2 = (1 : Int32) then some ((Int32.toInt64 (fqI σ 10 (Int32.toNatClampNeg x1))), σ) else (if x2 = (2 : Int32) then some ((Int32.toInt64 (fqI σ 11 (Int32.toNatClampNeg x1))), σ) else some ((Int32.toInt64 (fqI σ 12 (Int32.toNatClampNeg x1))), σ)))))))))))))
set_option maxRecDepth 100000 in
set_option maxHeartbeats 4000000 in
theorem qX9_match (l : Launch) (D : va_G) (cy : Nat → ClassId) (ad : Nat → Nat) (sz n : Nat) (σ : fqS) (k : Nat) (x1 : Int32) (x2 : Int32) {r : Int64} {σ' : fqS} (hf : pX9_match k n σ x1 x2 = some (r, σ')) : Met l yX9_match wsX9_match ({ frames := 4, cells := 0, slots := 0, locals := 98 } : Room) (fqPc (TM cy) ZM D cy ad sz n σ [.ref (ad 0), .int x1, .int x2]) (fqQl (TM cy) ZM D ad sz n σ r σ') 0 0 (fqA (TM cy) ZM ad sz n σ) := by
  refine fq_enter_l (cc := cX9_match) (maxL := 3) (own := RX9) _ (by decide) rfl (Nat.le_of_ble_eq_true rfl) rfl (fun X E hret => ?_)
  unfold pX9_match at hf
  show fqG X (TM cy) ZM ad n 3 0 0 σ 0 [(0, .ref (ad 0)), (1, .int x1), (2, .int x2)] []
  refine g_iload_n (pc := 0) E dX9_match_0 1 rfl rfl ?_
  obtain ⟨r2, e1, hf⟩ := fq_b hf
  refine g_callSi (pc := 1) E [.int x1] (fun l D sz => qX9_isPlaceOfMatch l D cy ad sz n σ k x1 e1) gX9_match_X9_isPlaceOfMatch rfl rfl rfl kcX9_isPlaceOfMatch ⟨by decide, by decide⟩ rfl rfl (Nat.le_of_ble_eq_true rfl) dX9_match_1 ⟨by decide, by decide⟩ ?_
  refine g_if_eq (pc := 4) E 19 dX9_match_4 (by decide) (fun c3 => ?_) (fun c3 => ?_)
  · replace hf := fq_t c3 hf
    refine g_aload_n (pc := 19) E dX9_match_19 0 rfl rfl ?_
    refine g_ldc2_w (pc := 20) E dX9_match_20 wX9_match_0 ?_
    obtain ⟨r5, σ6, e4, hf⟩ := fq_b2 hf
    refine g_callVl (pc := 23) E 0 (zm_l (by decide)) (fun _ _ => rfl) rfl [.long (-1000000001 : Int64)] (fun l D sz => qX9_finding l D cy ad sz n σ k (-1000000001 : Int64) e4) gX9_match_X9_finding rfl rfl rfl kcX9_finding ⟨by decide, by decide⟩ rfl rfl (Nat.le_of_ble_eq_true rfl) dX9_match_23 ⟨by decide, by decide⟩ ?_
    exact hret _ _ _ _ dX9_match_26 (Option.some.inj hf)
  · replace hf := fq_f c3 hf
    refine g_iload_n (pc := 7) E dX9_match_7 2 rfl rfl ?_
    refine g_i2l (pc := 8) E dX9_match_8 ?_
    refine g_lconst (pc := 9) E (0 : Int64) dX9_match_9 (by decide) ?_
    refine g_ldc2_w (pc := 10) E dX9_match_10 wX9_match_1 ?_
    obtain ⟨r8, e7, hf⟩ := fq_b hf
    refine g_callSi (pc := 13) E [.long (Int32.toInt64 x2), .long (0 : Int64), .long (4 : Int64)] (fun l D sz => qX9_in l D cy ad sz n σ k (Int32.toInt64 x2) (0 : Int64) (4 : Int64) e7) gX9_match_X9_in rfl rfl rfl kcX9_in ⟨by decide, by decide⟩ rfl rfl (Nat.le_of_ble_eq_true rfl) dX9_match_13 ⟨by decide, by decide⟩ ?_
    refine g_if_ne (pc := 16) E 27 dX9_match_16 (by decide) (fun c9 => ?_) (fun c9 => ?_)
    · replace hf := fq_f c9 hf
      refine g_aload_n (pc := 27) E dX9_match_27 0 rfl rfl ?_
      refine g_getfield (pc := 28) E uX9_match_X9 0 (zm_l (by decide)) (fun _ _ => rfl) rfl 14 (by decide) wX9_match_2 (.ref (ad 8)) rfl dX9_match_28 ?_
      refine g_iload_n (pc := 31) E dX9_match_31 1 rfl rfl ?_
      obtain ⟨h10, hf⟩ := fq_in hf
      refine g_baload (pc := 32) E 8 (zm_l (by decide)) (fun _ _ => rfl) h10 dX9_match_32 ?_
      refine g_if_ne (pc := 33) E 44 dX9_match_33 (by decide) (fun c11 => ?_) (fun c11 => ?_)
      · replace hf := fq_f c11 hf
        refine g_iload_n (pc := 44) E dX9_match_44 2 rfl rfl ?_
        refine g_iconst (pc := 45) E (4 : Int32) dX9_match_45 (by decide) ?_
        refine g_icmp_ne (pc := 46) E 70 dX9_match_46 (by decide) (fun c12 => ?_) (fun c12 => ?_)
        · replace hf := fq_f c12 hf
          refine g_iload_n (pc := 70) E dX9_match_70 2 rfl rfl ?_
          refine g_if_ne (pc := 71) E 84 dX9_match_71 (by decide) (fun c13 => ?_) (fun c13 => ?_)
          · replace hf := fq_f c13 hf
            refine g_iload_n (pc := 84) E dX9_match_84 2 rfl rfl ?_
            refine g_iconst (pc := 85) E (1 : Int32) dX9_match_85 (by decide) ?_
            refine g_icmp_ne (pc := 86) E 99 dX9_match_86 (by decide) (fun c14 => ?_) (fun c14 => ?_)
            · replace hf := fq_f c14 hf
              refine g_iload_n (pc := 99) E dX9_match_99 2 rfl rfl ?_
              refine g_iconst (pc := 100) E (2 : Int32) dX9_match_100 (by decide) ?_
              refine g_icmp_ne (pc := 101) E 114 dX9_match_101 (by decide) (fun c15 => ?_) (fun c15 => ?_)
              · replace hf := fq_f c15 hf
                refine g_aload_n (pc := 114) E dX9_match_114 0 rfl rfl ?_
                refine g_getfield (pc := 115) E uX9_match_X9 0 (zm_l (by decide)) (fun _ _ => rfl) rfl 18 (by decide) wX9_match_4 (.ref (ad 12)) rfl dX9_match_115 ?_
                refine g_iload_n (pc := 118) E dX9_match_118 1 rfl rfl ?_
                refine g_iaload (pc := 119) E 12 (zm_l (by decide)) (fun _ _ => rfl) h10 dX9_match_119 ?_
                refine g_i2l (pc := 120) E dX9_match_120 ?_
                exact hret _ _ _ _ dX9_match_121 (Option.some.inj hf)
              · replace hf := fq_t c15 hf
                refine g_aload_n (pc := 104) E dX9_match_104 0 rfl rfl ?_
                refine g_getfield (pc := 105) E uX9_match_X9 0 (zm_l (by decide)) (fun _ _ => rfl) rfl 17 (by decide) wX9_match_5 (.ref (ad 11)) rfl dX9_match_105 ?_
                refine g_iload_n (pc := 108) E dX9_match_108 1 rfl rfl ?_
                refine g_iaload (pc := 109) E 11 (zm_l (by decide)) (fun _ _ => rfl) h10 dX9_match_109 ?_
                refine g_i2l (pc := 110) E dX9_match_110 ?_
                refine g_goto (pc := 111) E 121 dX9_match_111 (by decide) ?_
                exact hret _ _ _ _ dX9_match_121 (Option.some.inj hf)
            · replace hf := fq_t c14 hf
              refine g_aload_n (pc := 89) E dX9_match_89 0 rfl rfl ?_
              refine g_getfield (pc := 90) E uX9_match_X9 0 (zm_l (by decide)) (fun _ _ => rfl) rfl 16 (by decide) wX9_match_6 (.ref (ad 10)) rfl dX9_match_90 ?_
              refine g_iload_n (pc := 93) E dX9_match_93 1 rfl rfl ?_
              refine g_iaload (pc := 94) E 10 (zm_l (by decide)) (fun _ _ => rfl) h10 dX9_match_94 ?_
              refine g_i2l (pc := 95) E dX9_match_95 ?_
              refine g_goto (pc := 96) E 121 dX9_match_96 (by decide) ?_
              exact hret _ _ _ _ dX9_match_121 (Option.some.inj hf)
          · replace hf := fq_t c13 hf
            refine g_aload_n (pc := 74) E dX9_match_74 0 rfl rfl ?_
            refine g_getfield (pc := 75) E uX9_match_X9 0 (zm_l (by decide)) (fun _ _ => rfl) rfl 15 (by decide) wX9_match_7 (.ref (ad 9)) rfl dX9_match_75 ?_
            refine g_iload_n (pc := 78) E dX9_match_78 1 rfl rfl ?_
            refine g_iaload (pc := 79) E 9 (zm_l (by decide)) (fun _ _ => rfl) h10 dX9_match_79 ?_
            refine g_i2l (pc := 80) E dX9_match_80 ?_
            refine g_goto (pc := 81) E 121 dX9_match_81 (by decide) ?_
            exact hret _ _ _ _ dX9_match_121 (Option.some.inj hf)
        · replace hf := fq_t c12 hf
          refine g_aload_n (pc := 49) E dX9_match_49 0 rfl rfl ?_
          obtain ⟨σ17, e16, hf⟩ := fq_b hf
          refine g_callVv (pc := 50) E 0 (zm_l (by decide)) (fun _ _ => rfl) rfl [] (fun l D sz => qX9_layAside l D cy ad sz n σ k e16) gX9_match_X9_layAside rfl rfl rfl kcX9_layAside ⟨by decide, by decide⟩ rfl rfl (Nat.le_of_ble_eq_true rfl) dX9_match_50 ⟨by decide, by decide⟩ ?_
          refine g_aload_n (pc := 53) E dX9_match_53 0 rfl rfl ?_
          refine g_aload_n (pc := 54) E dX9_match_54 0 rfl rfl ?_
          refine g_getfield (pc := 55) E uX9_match_X9 0 (zm_l (by decide)) (fun _ _ => rfl) rfl 15 (by decide) wX9_match_7 (.ref (ad 9)) rfl dX9_match_55 ?_
          refine g_iload_n (pc := 58) E dX9_match_58 1 rfl rfl ?_
          refine g_iaload (pc := 59) E 9 (zm_l (by decide)) (fun _ _ => rfl) h10 dX9_match_59 ?_
          refine g_aload_n (pc := 60) E dX9_match_60 0 rfl rfl ?_
          refine g_getfield (pc := 61) E uX9_match_X9 0 (zm_l (by decide)) (fun _ _ => rfl) rfl 16 (by decide) wX9_match_6 (.ref (ad 10)) rfl dX9_match_61 ?_
          refine g_iload_n (pc := 64) E dX9_match_64 1 rfl rfl ?_
          refine g_iaload (pc := 65) E 10 (zm_l (by decide)) (fun _ _ => rfl) h10 dX9_match_65 ?_
          obtain ⟨r19, e18, hf⟩ := fq_b hf
          refine g_callVl (pc := 66) E 0 (zm_l (by decide)) (fun _ _ => rfl) rfl [.int (fqI σ17 9 (Int32.toNatClampNeg x1)), .int (fqI σ17 10 (Int32.toNatClampNeg x1))] (fun l D sz => qX9_teamChance l D cy ad sz n σ17 k (fqI σ17 9 (Int32.toNatClampNeg x1)) (fqI σ17 10 (Int32.toNatClampNeg x1)) e18) gX9_match_X9_teamChance rfl rfl rfl kcX9_teamChance ⟨by decide, by decide⟩ rfl rfl (Nat.le_of_ble_eq_true rfl) dX9_match_66 ⟨by decide, by decide⟩ ?_
          exact hret _ _ _ _ dX9_match_69 (Option.some.inj hf)
      · replace hf := fq_t c11 hf
        refine g_aload_n (pc := 36) E dX9_match_36 0 rfl rfl ?_
        refine g_ldc2_w (pc := 37) E dX9_match_37 wX9_match_8 ?_
        obtain ⟨r21, σ22, e20, hf⟩ := fq_b2 hf
        refine g_callVl (pc := 40) E 0 (zm_l (by decide)) (fun _ _ => rfl) rfl [.long (-1000000002 : Int64)] (fun l D sz => qX9_finding l D cy ad sz n σ k (-1000000002 : Int64) e20) gX9_match_X9_finding rfl rfl rfl kcX9_finding ⟨by decide, by decide⟩ rfl rfl (Nat.le_of_ble_eq_true rfl) dX9_match_40 ⟨by decide, by decide⟩ ?_
        exact hret _ _ _ _ dX9_match_43 (Option.some.inj hf)
    · replace hf := fq_t c9 hf
      refine g_aload_n (pc := 19) E dX9_match_19 0 rfl rfl ?_
      refine g_ldc2_w (pc := 20) E dX9_match_20 wX9_match_0 ?_
      obtain ⟨r24, σ25, e23, hf⟩ := fq_b2 hf
      refine g_callVl (pc := 23) E 0 (zm_l (by decide)) (fun _ _ => rfl) rfl [.long (-1000000001 : Int64)] (fun l D sz => qX9_finding l D cy ad sz n σ k (-1000000001 : Int64) e23) gX9_match_X9_finding rfl rfl rfl kcX9_finding ⟨by decide, by decide⟩ rfl rfl (Nat.le_of_ble_eq_true rfl) dX9_match_23 ⟨by decide, by decide⟩ ?_
      exact hret _ _ _ _ dX9_match_26 (Option.some.inj hf)
