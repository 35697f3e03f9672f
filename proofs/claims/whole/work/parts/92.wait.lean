/-! wait -/
theorem allB : ∀ j, j < 10 → (((-1 : Int32) >>> (nI j &&& 31)) &&& 1) = 1 := by decide
theorem fullB : ∀ k, k < 10 → (1023 : Nat).testBit k = true := by decide
theorem everyX {K n w : Nat} {qb qs : Nat → Nat} {σ : fqS} (hK : 16 < K) (hw : w ≤ 10) (hx : Qx 4 w qb qs σ) : pX7_everybody K n σ 4 = some (nI (plB qb 1023 w)) := by
  have h : pX7_playersAt K n σ 4 (-1) = some (nI (plB qb 1023 w)) := by
    unfold pX7_playersAt pX7_playersAt_L4
    refine fqL_go (fun j => (nI (plB qb 1023 (min j w)), nI j)) 10 ?_ (by omega) ?_ ?_
    · show ((0 : Int32), (0 : Int32)) = (nI (plB qb 1023 (min 0 w)), nI 0)
      rw [Nat.zero_min]; rfl
    · intro rec
      show pX7_playersAt_L4b K n σ 4 (-1) rec (nI (plB qb 1023 (min 10 w))) (nI 10) = _
      rw [show min 10 w = w by omega]
      simp (disch := omega) only [pX7_playersAt_L4b, z10, nI_leI, ite_t]
    · intro j hj rec
      show pX7_playersAt_L4b K n σ 4 (-1) rec (nI (plB qb 1023 (min j w))) (nI j) = rec (nI (plB qb 1023 (min (j + 1) w)), nI (j + 1))
      have hb : pX8_hasBit K n σ (-1) (nI j) = some 1 := by unfold pX8_hasBit; rw [if_pos (allB j hj)]
      rcases Nat.lt_or_ge j w with h | h
      · rw [show min (j + 1) w = j + 1 by omega, show min j w = j by omega, plB, fullB j hj, if_pos rfl]
        simp (disch := omega) only [pX7_playersAt_L4b, z10, nI_leI, ite_f, hb, Option.bind_some, c10, if_false, partyAt_in hx hw h, nI_or, nI_1]
      · rw [show min (j + 1) w = w by omega, show min j w = w by omega]
        simp (disch := omega) only [pX7_playersAt_L4b, z10, nI_leI, ite_f, hb, Option.bind_some, c10, if_false, partyAt_out hx hw h hj, or_z, nI_1]
  unfold pX7_everybody
  rw [h, Option.bind_some]
def orN (v : Nat → Nat) : Nat → Nat
  | 0 => 0
  | j + 1 => orN v j ||| v j
theorem orN_lt {v : Nat → Nat} {n : Nat} : ∀ {j : Nat}, (∀ i, i < j → v i < 2 ^ n) → orN v j < 2 ^ n
  | 0, _ => Nat.two_pow_pos n
  | j + 1, h => by rw [orN]; exact or_lt (orN_lt (fun i hi => h i (by omega))) (h j (by omega))
theorem orN_bit {v : Nat → Nat} {p : Nat} : ∀ {j : Nat}, (orN v j).testBit p = true ↔ ∃ i, i < j ∧ (v i).testBit p = true
  | 0 => by
    rw [orN, Nat.zero_testBit]
    exact ⟨fun h => by (cases h), fun ⟨i, hi, _⟩ => absurd hi (by omega)⟩
  | j + 1 => by
    rw [orN, Nat.testBit_or, Bool.or_eq_true, orN_bit (j := j)]
    constructor
    · rintro (⟨i, h1, h2⟩ | h)
      · exact ⟨i, by omega, h2⟩
      · exact ⟨j, by omega, h⟩
    · rintro ⟨i, h1, h2⟩
      rcases Nat.lt_or_ge i j with q | q
      · exact Or.inl ⟨i, q, h2⟩
      · rw [show i = j by omega] at h2; exact Or.inr h2
theorem playing_v {t n : Nat} {sx sm : fqS} (K : Nat) (hR : Rel t n sx sm) {m : Nat} (h5 : m < 5) : ∃ v, pX1_playing K n sx m = some (nI v) ∧ v < 2 ^ n ∧ ∀ p, p < n → (v.testBit p = true ↔ onM n t sx sm p m) := by
  obtain ⟨hn, hNx, hNm⟩ := hR.1
  have h16 := p2n hn
  rcases hR.2.2.2.2.2.2.2.1 m h5 with ⟨g1, g2, g3, g4⟩ | ⟨f, s, d, k, hmi⟩
  · refine ⟨0, ?_, Nat.two_pow_pos n, fun p hp => ⟨fun h => by (rw [Nat.zero_testBit] at h; cases h), ?_⟩⟩
    · unfold pX1_playing
      rw [g2, g3, g4, nI_or, nI_adn]
      rfl
    · rintro ⟨_, f, s, d, k, hmi, _⟩
      have := hmi.1
      rw [g1, nI_eq (by omega) (by omega)] at this
      exact absurd this (by decide)
  · obtain ⟨g1, g2, g3, g4, g5, g6, g7, g8, g9, g10, g11, g12, g13, g14, g15, g16⟩ := id hmi
    refine ⟨adn (f ||| s) d, ?_, adn_lt (or_lt g2 g3), fun p hp => ⟨fun h => ?_, ?_⟩⟩
    · unfold pX1_playing
      rw [g9, g11, g13, nI_or, nI_adn]
    · rw [adn_bit (by omega)] at h
      simp only [Bool.and_eq_true, Bool.not_eq_true'] at h
      exact ⟨h5, f, s, d, k, hmi, h.1, h.2⟩
    · rintro ⟨_, f', s', d', k', ⟨_, q2, q3, q4, _, _, _, _, q9, _, q11, _, q13, _⟩, a, b⟩
      have e1 : f = f' := (nI_eq (by omega) (by omega)).mp (g9.symm.trans q9)
      have e2 : s = s' := (nI_eq (by omega) (by omega)).mp (g11.symm.trans q11)
      have e3 : d = d' := (nI_eq (by omega) (by omega)).mp (g13.symm.trans q13)
      rw [adn_bit (by omega), e1, e2, e3, a, b]
      rfl
theorem everyM {t n K : Nat} {sx sm : fqS} (hK : 16 < K) (hR : Rel t n sx sm) : ∃ E, pX2_everybody K n sx = some (nI E) ∧ E < 2 ^ n ∧ ∀ p, p < n → (E.testBit p = true ↔ ∃ m, onM n t sx sm p m) := by
  have hv : ∀ m, ∃ v, m < 5 → pX1_playing K n sx m = some (nI v) ∧ v < 2 ^ n ∧ ∀ p, p < n → (v.testBit p = true ↔ onM n t sx sm p m) := fun m => by
    by_cases h : m < 5
    · obtain ⟨v, hv⟩ := playing_v K hR h
      exact ⟨v, fun _ => hv⟩
    · exact ⟨0, fun q => absurd q h⟩
  obtain ⟨v, hv⟩ : ∃ v : Nat → Nat, ∀ m, m < 5 → pX1_playing K n sx m = some (nI (v m)) ∧ v m < 2 ^ n ∧ ∀ p, p < n → ((v m).testBit p = true ↔ onM n t sx sm p m) := ⟨fun m => Classical.choose (hv m), fun m hm => Classical.choose_spec (hv m) hm⟩
  refine ⟨orN v 5, ?_, orN_lt (fun i hi => (hv i hi).2.1), fun p hp => ?_⟩
  · unfold pX2_everybody pX2_everybody_L4
    refine fqL_go (fun j => (nI (orN v j), nI j)) 5 rfl (by omega) ?_ ?_
    · intro rec
      show pX2_everybody_L4b K n sx rec (nI (orN v 5)) (nI 5) = _
      simp (disch := omega) only [pX2_everybody_L4b, z5, nI_leI, ite_t]
    · intro j hj rec
      show pX2_everybody_L4b K n sx rec (nI (orN v j)) (nI j) = rec (nI (orN v (j + 1)), nI (j + 1))
      simp (disch := omega) only [pX2_everybody_L4b, z5, nI_leI, ite_f, nI_n0, false_or, nI_clamp, (hv j hj).1, Option.bind_some, nI_or, nI_1, orN]
  · rw [orN_bit]
    constructor
    · rintro ⟨i, h1, h2⟩
      exact ⟨i, ((hv i h1).2.2 p hp).mp h2⟩
    · rintro ⟨m, hm⟩
      exact ⟨m, hm.1, ((hv m hm.1).2.2 p hp).mpr hm⟩
theorem busy_both {t n K w : Nat} {qb qs : Nat → Nat} {sx sm : fqS} (hK : 16 < K) (hR : Rel t n sx sm) (hf : Qf n t w qb qs) (hx : Qx 4 w qb qs sx) (hm : Qm w qb qs sm) : ∃ E1 E2, pX7_everybody K n sx 4 = some (nI E1) ∧ pX2_everybody K n sx = some (nI E2) ∧ E1 ||| E2 < 2 ^ n ∧ (∀ k p, k < w → (qb k).testBit p = true → (E1 ||| E2).testBit p = true) ∧ ∀ p, p < n → pX9_isBusy K 0 sm (nI p) = some (if (E1 ||| E2).testBit p then 1 else 0) := by
  obtain ⟨hn, hNx, hNm⟩ := hR.1
  obtain ⟨E2, e1, e2, e3⟩ := everyM hK hR
  have hE1 : plB qb 1023 w < 2 ^ n := plB_lt (fun k hk => (hf.2.1 k hk).2.1)
  have hw := hf.1
  refine ⟨plB qb 1023 w, E2, everyX hK hf.1 hx, e1, or_lt hE1 e2, fun k p hk hb => ?_, fun p hp => ?_⟩
  · rw [Nat.testBit_or, Bool.or_eq_true]
    exact Or.inl (plB_bit.mpr ⟨k, hk, fullB k (by omega), hb⟩)
  · rw [Nat.testBit_or]
    unfold pX9_isBusy
    rcases place_both (n := n) (N := 0) hK hf.1 hx hm (fun k hk => Qf_lt hn hf hk) (show p < 16 by omega) with ⟨_, a2, a3⟩ | ⟨k, hk, hbt, _, a2⟩
    · have hE : (plB qb 1023 w).testBit p = false := by
        cases h : (plB qb 1023 w).testBit p with
        | false => rfl
        | true =>
          obtain ⟨k, k1, k2, k3⟩ := plB_bit.mp h
          rw [a3 k k1] at k3; cases k3
      rw [a2, Option.bind_some, if_neg (by decide), hE, Bool.false_or]
      rcases with_both hK hR hp with ⟨_, b2, b3⟩ | ⟨m, b1, _, b2⟩
      · have hE2 : E2.testBit p = false := by
          cases h : E2.testBit p with
          | false => rfl
          | true =>
            obtain ⟨m, hm⟩ := (e3 p hp).mp h
            exact absurd hm (b3 m)
        rw [b2, Option.bind_some, if_pos (by decide), hE2]
        rfl
      · have hm5 := b1.1
        rw [b2, Option.bind_some, if_neg (nI_pos (by omega)), (e3 p hp).mpr ⟨m, b1⟩]
        rfl
    · have hE : (plB qb 1023 w).testBit p = true := plB_bit.mpr ⟨k, hk, fullB k (by omega), hbt⟩
      rw [a2, Option.bind_some, if_pos (nI_pos' (by omega)), hE]
      rfl
theorem join_eq {K n w B tk : Nat} {σ : fqS} (h : fqI σ 4 2 = nI w) (hw : w < 10) : pX7_join K n σ 4 (nI B) (lN tk) = some (1, fqPI (fqPJ (fqPI σ 5 w (nI B)) 6 w (lN tk)) 4 2 (nI (w + 1))) := by
  have h1 : fqI (fqPI σ 5 w (nI B)) 4 2 = nI w := by rw [fqI_n _ _ _ _ _ _ (by omega)]; exact h
  unfold pX7_join
  rw [h, ite_f (nI_pos (by omega)), z10, ite_f (by rw [nI_leI (by omega) (by omega)]; omega), ite_t (by rw [nI_ltI (by omega) (by omega)]; omega), ite_f (nI_in hw (by omega)), fqN_eq, nI_clamp (by omega)]
  show (if fqI (fqPI σ 5 w (nI B)) 4 2 < 0 ∨ 10 ≤ Int32.toNatClampNeg (fqI (fqPI σ 5 w (nI B)) 4 2) then none else fqN (fqPJ (fqPI σ 5 w (nI B)) 6 (Int32.toNatClampNeg (fqI (fqPI σ 5 w (nI B)) 4 2)) (lN tk)) (fun σ8 => fqN (fqPI σ8 4 2 (fqI σ8 4 2 + 1)) (fun σ10 => some (1, σ10)))) = _
  rw [h1, ite_f (nI_in hw (by omega)), fqN_eq, nI_clamp (by omega), fqN_eq, fqI_PJ, h1, nI_1]
abbrev stW (sm : fqS) (w B tk : Nat) : fqS := fqPI (fqPI (fqPI sm 6 w (nI B)) 7 w (nI tk)) 0 11 (nI (w + 1))
theorem J208_eq {K w B tk : Nat} {x1 x2 x3 s2 s3 : Int32} {sm : fqS} (h : fqI sm 0 11 = nI w) (hw : w < 10) (ht : fqI sm 0 10 = nI tk) (hv : (if x3 = -1 then (s2 ||| s3) ||| 0 else (s2 ||| s3) ||| ((1 : Int32) <<< (x3 &&& 31))) = nI B) : pX9_wait_J208 K 0 x1 x2 x3 (nI w) s2 s3 sm = some (lN (w + 1), stW sm w B tk) := by
  have a1 : fqI (fqPI sm 6 w (nI B)) 0 11 = nI w := by rw [fqI_n _ _ _ _ _ _ (by omega)]; exact h
  have a2 : fqI (fqPI sm 6 w (nI B)) 0 10 = nI tk := by rw [fqI_n _ _ _ _ _ _ (by omega)]; exact ht
  have a3 : fqI (fqPI (fqPI sm 6 w (nI B)) 7 w (nI tk)) 0 11 = nI w := by rw [fqI_n _ _ _ _ _ _ (by omega)]; exact a1
  unfold pX9_wait_J208
  by_cases q : x3 = -1
  · rw [if_pos q] at hv
    rw [if_pos q, ite_f (nI_in hw (by omega)), fqN_eq, nI_clamp (by omega), hv, a1, ite_f (nI_in hw (by omega)), fqN_eq, nI_clamp (by omega), a2, fqN_eq, a3, nI_1, fqI_s, nI_l (by omega)]
  · rw [if_neg q] at hv
    rw [if_neg q, ite_f (nI_in hw (by omega)), fqN_eq, nI_clamp (by omega), hv, a1, ite_f (nI_in hw (by omega)), fqN_eq, nI_clamp (by omega), a2, fqN_eq, a3, nI_1, fqI_s, nI_l (by omega)]
theorem wait_good {t n K w T tk B c E1 E2 : Nat} {qb qs : Nat → Nat} {x1 x2 x3 : Int32} {sx sm : fqS} (hR : Rel t n sx sm) (hT1 : fqI sx 0 10 = nI T) (hT2 : T ≤ 3) (hf : Qf n t w qb qs) (hx : Qx 4 w qb qs sx) (hm : Qm w qb qs sm) (htk : tk ≤ t) (k1 : fqJ sx 0 12 = lN tk) (he1 : pX7_everybody K n sx 4 = some (nI E1)) (he2 : pX2_everybody K n sx = some (nI E2)) (hE : E1 ||| E2 < 2 ^ n) (hE3 : ∀ k p, k < w → (qb k).testBit p = true → (E1 ||| E2).testBit p = true) (hB : B < 2 ^ n) (hB0 : B ≠ 0) (hc : pop B = c) (hc3 : c ≤ 3) (hX : pX8_partyOf K n sx x1 x2 x3 = some (nI B))
    (hM : pX9_wait K 0 sm x1 x2 x3 = if c ≤ T then (if B &&& (E1 ||| E2) = 0 then (if w = 10 then fqB2 (pX9_finding K 0 sm (-1000000004)) (fun r s => some (r, s)) else some (lN (w + 1), stW sm w B tk)) else fqB2 (pX9_finding K 0 sm (-1000000003)) (fun r s => some (r, s))) else fqB2 (pX9_finding K 0 sm (-1000000005)) (fun r s => some (r, s))) :
    ∃ (r : Int64) (sx' sm' : fqS), pX8_wait K n sx x1 x2 x3 = some (r, sx') ∧ pX9_wait K 0 sm x1 x2 x3 = some (r, sm') ∧ Rel (t + 1) n sx' sm' := by
  obtain ⟨hn, hNx, hNm⟩ := hR.1
  have h16 := p2n hn
  have hw := hf.1
  have hand : B &&& (E1 ||| E2) < 2 ^ n := and_lt hB
  have hbc := bitCount_eq K n sx B (by omega)
  rw [hc] at hbc
  have hXw : pX8_wait K n sx x1 x2 x3 = if c ≤ T then (if B &&& (E1 ||| E2) = 0 then (fqB2 (pX7_join K n sx 4 (nI B) (lN tk)) (fun r13 σ14 => (if r13 = 0 then (fqB2 (pX8_finding K n σ14 (4 : Int32)) (fun r17 σ18 => some (r17, σ18))) else some ((Int32.toInt64 (fqI σ14 4 2)), σ14)))) else (fqB2 (pX8_finding K n sx (3 : Int32)) (fun r20 σ21 => some (r20, σ21)))) else (fqB2 (pX8_finding K n sx (5 : Int32)) (fun r23 σ24 => some (r23, σ24))) := by
    unfold pX8_wait
    rw [hX, Option.bind_some, if_neg (nI_ne0 (Nat.pos_of_ne_zero hB0) (by omega)), hbc, Option.bind_some, hT1, k1, he1, Option.bind_some, he2, Option.bind_some, nI_or, nI_and]
    by_cases q : c ≤ T
    · rw [if_pos q, ite_t (by rw [nI_leI (by omega) (by omega)]; exact q)]
      by_cases q2 : B &&& (E1 ||| E2) = 0
      · rw [if_pos q2, ite_t (by rw [q2]; rfl)]
      · rw [if_neg q2, ite_f (by rw [nI_e0 (by omega)]; exact q2)]
    · rw [if_neg q, ite_f (by rw [nI_leI (by omega) (by omega)]; exact q)]
  by_cases q : c ≤ T
  · rw [if_pos q] at hM hXw
    by_cases q2 : B &&& (E1 ||| E2) = 0
    · rw [if_pos q2] at hM hXw
      by_cases q3 : w = 10
      · rw [if_pos q3] at hM
        have hj : pX7_join K n sx 4 (nI B) (lN tk) = some (0, sx) := by
          unfold pX7_join
          rw [hx.1, ite_f (nI_pos (by omega)), z10, ite_t (by rw [nI_leI (by omega) (by omega)]; omega)]
        rw [hj, fqB2_some, if_pos rfl] at hXw
        exact both_bad (bnd_4 (K := K) hR) hXw hM
      · rw [if_neg q3] at hM
        rw [join_eq (K := K) (n := n) (B := B) (tk := tk) hx.1 (by omega), fqB2_some, if_neg (by decide), fqI_s, nI_l (by omega)] at hXw
        refine ⟨lN (w + 1), _, _, hXw, hM, ?_⟩
        have fx : eqW qXS sx (fqPI (fqPJ (fqPI sx 5 w (nI B)) 6 w (lN tk)) 4 2 (nI (w + 1))) := ((eqW_PI (by unfold qXS; omega)).tr (eqW_PJ (by unfold qXS; omega))).tr (eqW_PI (by unfold qXS; omega))
        have fm : eqW qMS sm (stW sm w B tk) := ((eqW_PI (by unfold qMS; omega)).tr (eqW_PI (by unfold qMS; omega))).tr (eqW_PI (by unfold qMS; omega))
        have hdis : ∀ k, k < w → B &&& qb k = 0 := by
          intro k hk
          apply Nat.eq_of_testBit_eq
          intro p
          rw [Nat.zero_testBit, Nat.testBit_and]
          cases a : B.testBit p with
          | false => rfl
          | true =>
            cases b : (qb k).testBit p with
            | false => rfl
            | true =>
              have z : (B &&& (E1 ||| E2)).testBit p = true := by rw [Nat.testBit_and, a, hE3 k p hk b]; rfl
              rw [q2, Nat.zero_testBit] at z
              cases z
        refine Rel_q (Rel_up hR) fx fm (Rq_of (w := w + 1) (qb := va_up qb w B) (qs := va_up qs w tk) ⟨by omega, fun k hk => ?_, fun i j hi hj hij => ?_⟩ ⟨fqI_s _ _ _ _, fun k hk => ?_⟩ ⟨fqI_s _ _ _ _, fun k hk => ?_⟩)
        · by_cases e : k = w
          · subst e
            rw [va_up_self, va_up_self]
            exact ⟨Nat.pos_of_ne_zero hB0, hB, by omega⟩
          · rw [va_up_ne _ _ e, va_up_ne _ _ e]
            obtain ⟨b1, b2, b3⟩ := hf.2.1 k (by omega)
            exact ⟨b1, b2, by omega⟩
        · by_cases e1 : i = w
          · subst e1
            rw [va_up_self, va_up_ne _ _ (Ne.symm hij)]
            exact hdis j (by omega)
          · rw [va_up_ne _ _ e1]
            by_cases e2 : j = w
            · subst e2
              rw [va_up_self, Nat.and_comm]
              exact hdis i (by omega)
            · rw [va_up_ne _ _ e2]
              exact hf.2.2 i j (by omega) (by omega) hij
        · show fqI (fqPI (fqPJ (fqPI sx 5 w (nI B)) 6 w (lN tk)) 4 2 (nI (w + 1))) 5 k = _ ∧ fqJ (fqPI (fqPJ (fqPI sx 5 w (nI B)) 6 w (lN tk)) 4 2 (nI (w + 1))) 6 k = _
          by_cases e : k = w
          · subst e
            rw [va_up_self, va_up_self, fqI_n _ _ _ _ _ _ (by omega), fqI_PJ, fqI_s, fqJ_PI, fqJ_s]
            exact ⟨rfl, rfl⟩
          · rw [va_up_ne _ _ e, va_up_ne _ _ e, fqI_n _ _ _ _ _ _ (by omega), fqI_PJ, fqI_n _ _ _ _ _ _ (by omega), fqJ_PI, fqJ_n _ _ _ _ _ _ (by omega), fqJ_PI]
            exact hx.2 k (by omega)
        · show fqI (stW sm w B tk) 6 k = _ ∧ fqI (stW sm w B tk) 7 k = _
          unfold stW
          by_cases e : k = w
          · subst e
            rw [va_up_self, va_up_self, fqI_n _ _ _ _ _ _ (by omega), fqI_n _ _ _ _ _ _ (by omega), fqI_s, fqI_n _ _ _ _ _ _ (by omega), fqI_s]
            exact ⟨rfl, rfl⟩
          · rw [va_up_ne _ _ e, va_up_ne _ _ e, fqI_n _ _ _ _ _ _ (by omega), fqI_n _ _ _ _ _ _ (by omega), fqI_n _ _ _ _ _ _ (by omega), fqI_n _ _ _ _ _ _ (by omega), fqI_n _ _ _ _ _ _ (by omega), fqI_n _ _ _ _ _ _ (by omega)]
            exact hm.2 k (by omega)
    · rw [if_neg q2] at hM hXw
      exact both_bad (bnd_3 (K := K) hR) hXw hM
  · rw [if_neg q] at hM hXw
    exact both_bad (bnd_5 (K := K) hR) hXw hM
theorem nI_m1 {p : Nat} (h : p < 2 ^ 31) : (nI p = -1) ↔ False := ⟨fun q => by
  have h1 := nI_pos' h
  rw [q] at h1
  exact absurd h1 (by decide), False.elim⟩
theorem m1_nI {p : Nat} (h : p < 2 ^ 31) : ((-1 : Int32) = nI p) ↔ False := ⟨fun q => (nI_m1 h).mp q.symm, False.elim⟩
theorem pop_1 : ∀ a, a < 16 → pop (2 ^ a) = 1 := by decide +kernel
theorem pop_2 : ∀ a, a < 16 → ∀ b, b < 16 → a ≠ b → pop (2 ^ a ||| 2 ^ b) = 2 := by decide +kernel
theorem pop_3 : ∀ a, a < 16 → ∀ b, b < 16 → ∀ c, c < 16 → a ≠ b → a ≠ c → b ≠ c → pop (2 ^ a ||| 2 ^ b ||| 2 ^ c) = 3 := by
  intro a ha b hb c hc hab hac hbc
  rw [pop_or (and2p.mpr (by rw [Nat.testBit_or, bit_2p, bit_2p]; simp [hac, hbc])), pop_2 a ha b hb hab, pop_1 c hc]
theorem and_mem {B E : Nat} {P : Nat → Prop} (h : ∀ p, B.testBit p = true ↔ P p) : (B &&& E = 0) ↔ ∀ p, P p → E.testBit p = false := by
  constructor
  · intro e p hp
    have z : (B &&& E).testBit p = false := by rw [e, Nat.zero_testBit]
    rw [Nat.testBit_and, (h p).mpr hp, Bool.true_and] at z
    exact z
  · intro e
    apply Nat.eq_of_testBit_eq
    intro p
    rw [Nat.zero_testBit, Nat.testBit_and]
    cases a : B.testBit p with
    | false => rfl
    | true => rw [e p ((h p).mp a)]; rfl
