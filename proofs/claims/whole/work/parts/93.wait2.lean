theorem st_wait (K : Nat) (hK : 16 < K) : lwS_wait Rel K := by
  intro t n sx sm x1 x2 x3 ht hR
  obtain ⟨hn, hNx, hNm⟩ := hR.1
  have h16 := p2n hn
  obtain ⟨w, qb, qs, hf, hx, hm⟩ := Rq_to hR.2.2.2.2.2.2.1
  obtain ⟨T, T1, T2, T3, T4⟩ := hR.2.2.2.1
  obtain ⟨tk, tk1, tk2, tk3⟩ := hR.2.2.2.2.2.1
  obtain ⟨E1, E2, b1, b2, b3, b4, b5⟩ := busy_both hK hR hf hx hm
  have hw := hf.1
  have bt : ∀ p, p < n → (E1 ||| E2).testBit p = true → pX9_isBusy K 0 sm (nI p) = some 1 := fun p hp h => by rw [b5 p hp, h]; rfl
  have bf : ∀ p, p < n → (E1 ||| E2).testBit p = false → pX9_isBusy K 0 sm (nI p) = some 0 := fun p hp h => by rw [b5 p hp, h]; rfl
  have m1 : (-1 : Int32) = -1 := rfl
  have z00 : (0 : Int32) = 0 := rfl
  have n10 : ¬ (1 : Int32) = 0 := by decide
  have bad : pX8_partyOf K n sx x1 x2 x3 = some 0 → pX9_wait K 0 sm x1 x2 x3 = fqB2 (pX9_finding K 0 sm (-1000000001)) (fun r s => some (r, s)) → ∃ (r : Int64) (sx' sm' : fqS), pX8_wait K n sx x1 x2 x3 = some (r, sx') ∧ pX9_wait K 0 sm x1 x2 x3 = some (r, sm') ∧ Rel (t + 1) n sx' sm' := by
    intro h1 h2
    refine both_bad (bnd_1 (K := K) hR) ?_ h2
    unfold pX8_wait
    rw [h1, Option.bind_some, if_pos z00]
  by_cases hin : x1 < 0 ∨ nI n ≤ x1
  · refine bad ?_ ?_
    · simp only [pX8_partyOf, atX_out hNx hin, Option.bind_some, fqM_none]
    · simp only [pX9_wait, isPl_out hNm hn hin, Option.bind_some, if_true, pX9_wait_J38]
  rcases pk_ix x1 (n := n) (by omega) with h | h | ⟨a, ha, rfl⟩
  · exact absurd (Or.inl h) hin
  · exact absurd (Or.inr h) hin
  have pa : 2 ^ a < 2 ^ n := Nat.pow_lt_pow_right (by omega) ha
  have pa0 : 2 ^ a ≠ 0 := Nat.ne_of_gt (Nat.two_pow_pos a)
  by_cases h2 : x2 = -1
  · subst h2
    by_cases h3 : x3 = -1
    · subst h3
      have hmem := and_mem (B := 2 ^ a) (E := E1 ||| E2) (P := fun p => a = p) (fun p => by show _ ↔ a = p; rw [bit_2p, decide_eq_true_eq])
      refine wait_good (B := 2 ^ a) (c := 1) hR T3 T2 hf hx hm tk1 tk2 b1 b2 b3 b4 pa pa0 (pop_1 a (by omega)) (by omega) ?_ ?_
      · simp (disch := omega) only [pX8_partyOf, if_true, atX_in hNx hn ha, Option.bind_some, fqM_some, ite_t, if_pos m1, bitOf_eq]
      · have e : pX9_wait K 0 sm (nI a) (-1) (-1) = pX9_wait_J106 K 0 (nI a) (-1) (-1) ((1 : Int32) + (0 : Int32)) (0 : Int32) sm := by
          unfold pX9_wait
          rw [isPl_in hNm hn ha, Option.bind_some, if_neg n10, if_pos m1]
          unfold pX9_wait_J21
          rw [if_pos m1, if_pos m1, if_pos m1]
          unfold pX9_wait_J56
          rw [if_neg (fun q => (nI_m1 (by omega)).mp q), if_neg (fun q => (nI_m1 (by omega)).mp q), if_pos m1, if_pos m1, if_pos m1, if_pos m1]
        rw [e]
        unfold pX9_wait_J106
        rw [T4, show ((1 : Int32) + (0 : Int32)) + (0 : Int32) = nI 1 from rfl]
        by_cases q : 1 ≤ T
        · rw [if_pos q, ite_t (by rw [nI_leI (by omega) (by omega)]; exact q)]
          cases ea : (E1 ||| E2).testBit a with
          | true => rw [bt a ha ea, Option.bind_some, if_neg n10, if_neg (fun z => by have y := hmem.mp z a rfl; rw [ea] at y; cases y)]
          | false =>
            rw [bf a ha ea, Option.bind_some, if_pos z00, if_pos m1, if_pos (hmem.mpr (fun p hp => by rw [← hp]; exact ea))]
            unfold pX9_wait_J147
            rw [if_pos m1, hm.1]
            by_cases q3 : w = 10
            · rw [if_pos q3, ite_t (by rw [q3]; rfl)]
            · rw [if_neg q3, ite_f (by rw [z10, nI_eq (by omega) (by omega)]; exact q3), if_pos m1, nI_one (by omega), J208_eq (B := 2 ^ a) hm.1 (by omega) tk3 (by rw [if_pos m1, or_z, or_z])]
        · rw [if_neg q, ite_f (by rw [nI_leI (by omega) (by omega)]; exact q)]
    · refine bad ?_ ?_
      · simp (disch := omega) only [pX8_partyOf, if_true, atX_in hNx hn ha, Option.bind_some, fqM_some, ite_t, if_pos m1, if_neg h3]
      · unfold pX9_wait
        rw [isPl_in hNm hn ha, Option.bind_some, if_neg n10, if_pos m1]
        unfold pX9_wait_J21
        rw [if_neg h3, if_pos m1]
        by_cases hin3 : x3 < 0 ∨ nI n ≤ x3
        · rw [isPl_out hNm hn hin3, Option.bind_some, if_pos z00]
          rfl
        · rcases pk_ix x3 (n := n) (by omega) with h | h | ⟨c, hc, rfl⟩
          · exact absurd (Or.inl h) hin3
          · exact absurd (Or.inr h) hin3
          rw [isPl_in hNm hn hc, Option.bind_some, if_neg n10]
          rw [if_neg h3]
  by_cases hin2 : x2 < 0 ∨ nI n ≤ x2
  · refine bad ?_ ?_
    · simp (disch := omega) only [pX8_partyOf, if_true, atX_in hNx hn ha, atX_out hNx hin2, Option.bind_some, fqM_some, fqM_none, ite_t, if_neg h2]
    · unfold pX9_wait
      rw [isPl_in hNm hn ha, Option.bind_some, if_neg n10, if_neg h2, isPl_out hNm hn hin2, Option.bind_some, if_pos z00]
      rfl
  rcases pk_ix x2 (n := n) (by omega) with h | h | ⟨b, hb, rfl⟩
  · exact absurd (Or.inl h) hin2
  · exact absurd (Or.inr h) hin2
  have pb : 2 ^ b < 2 ^ n := Nat.pow_lt_pow_right (by omega) hb
  have eW : pX9_wait K 0 sm (nI a) (nI b) x3 = pX9_wait_J21 K 0 (nI a) (nI b) x3 sm := by
    unfold pX9_wait
    rw [isPl_in hNm hn ha, Option.bind_some, if_neg n10, if_neg h2, isPl_in hNm hn hb, Option.bind_some, if_neg n10]
  by_cases h3 : x3 = -1
  · subst h3
    have eJ : pX9_wait_J21 K 0 (nI a) (nI b) (-1) sm = pX9_wait_J56 K 0 (nI a) (nI b) (-1) sm := by
      unfold pX9_wait_J21
      rw [if_pos m1, if_neg h2]
    by_cases hab : a = b
    · subst hab
      refine bad ?_ ?_
      · simp (disch := omega) only [pX8_partyOf, if_true, atX_in hNx hn ha, Option.bind_some, fqM_some, ite_t, if_neg h2]
      · rw [eW, eJ]
        unfold pX9_wait_J56
        rw [if_pos (rfl : nI a = nI a)]
    · have hne : ¬ nI b = nI a := fun q => hab ((nI_eq (by omega) (by omega)).mp q).symm
      have hne' : ¬ nI a = nI b := fun q => hne q.symm
      have hmem := and_mem (B := 2 ^ a ||| 2 ^ b) (E := E1 ||| E2) (P := fun p => a = p ∨ b = p) (fun p => by show _ ↔ (a = p ∨ b = p); rw [Nat.testBit_or, bit_2p, bit_2p, Bool.or_eq_true, decide_eq_true_eq, decide_eq_true_eq])
      refine wait_good (B := 2 ^ a ||| 2 ^ b) (c := 2) hR T3 T2 hf hx hm tk1 tk2 b1 b2 b3 b4 (or_lt pa pb) (fun q => by
        have z : (2 ^ a ||| 2 ^ b).testBit a = false := by rw [q, Nat.zero_testBit]
        rw [Nat.testBit_or, bit_2p] at z
        simp at z) (pop_2 a (by omega) b (by omega) hab) (by omega) ?_ ?_
      · simp (disch := omega) only [pX8_partyOf, if_true, atX_in hNx hn ha, atX_in hNx hn hb, Option.bind_some, fqM_some, ite_t, if_neg h2, if_neg hne, if_pos m1, bitOf_eq, nI_or]
      · have e : pX9_wait K 0 sm (nI a) (nI b) (-1) = pX9_wait_J106 K 0 (nI a) (nI b) (-1) ((1 : Int32) + (1 : Int32)) (0 : Int32) sm := by
          rw [eW, eJ]
          unfold pX9_wait_J56
          rw [if_neg hne', if_neg (fun q => (nI_m1 (by omega)).mp q), if_neg h2, if_neg h2, if_pos m1]
        rw [e]
        unfold pX9_wait_J106
        rw [T4, show ((1 : Int32) + (1 : Int32)) + (0 : Int32) = nI 2 from rfl]
        by_cases q : 2 ≤ T
        · rw [if_pos q, ite_t (by rw [nI_leI (by omega) (by omega)]; exact q)]
          cases ea : (E1 ||| E2).testBit a with
          | true => rw [bt a ha ea, Option.bind_some, if_neg n10, if_neg (fun z => by have y := hmem.mp z a (Or.inl rfl); rw [ea] at y; cases y)]
          | false =>
            rw [bf a ha ea, Option.bind_some, if_pos z00, if_neg h2]
            cases eb : (E1 ||| E2).testBit b with
            | true => rw [bt b hb eb, Option.bind_some, if_neg n10, if_neg (fun z => by have y := hmem.mp z b (Or.inr rfl); rw [eb] at y; cases y)]
            | false =>
              rw [bf b hb eb, Option.bind_some, if_pos z00, if_pos (hmem.mpr (fun p hp => by rcases hp with rfl | rfl <;> assumption))]
              unfold pX9_wait_J147
              rw [if_pos m1, hm.1]
              by_cases q3 : w = 10
              · rw [if_pos q3, ite_t (by rw [q3]; rfl)]
              · rw [if_neg q3, ite_f (by rw [z10, nI_eq (by omega) (by omega)]; exact q3), if_neg h2, nI_one (by omega), nI_one (by omega), J208_eq (B := 2 ^ a ||| 2 ^ b) hm.1 (by omega) tk3 (by rw [if_pos m1, or_z, nI_or])]
        · rw [if_neg q, ite_f (by rw [nI_leI (by omega) (by omega)]; exact q)]
  by_cases hin3 : x3 < 0 ∨ nI n ≤ x3
  · refine bad ?_ ?_
    · by_cases hab : nI b = nI a
      · simp (disch := omega) only [pX8_partyOf, if_true, atX_in hNx hn ha, atX_in hNx hn hb, Option.bind_some, fqM_some, ite_t, if_neg h2, if_pos hab]
      · simp (disch := omega) only [pX8_partyOf, if_true, atX_in hNx hn ha, atX_in hNx hn hb, atX_out hNx hin3, Option.bind_some, fqM_some, fqM_none, ite_t, if_neg h2, if_neg hab, if_neg h3]
    · rw [eW]
      unfold pX9_wait_J21
      rw [if_neg h3, isPl_out hNm hn hin3, Option.bind_some, if_pos z00]
      rfl
  rcases pk_ix x3 (n := n) (by omega) with h | h | ⟨c, hc, rfl⟩
  · exact absurd (Or.inl h) hin3
  · exact absurd (Or.inr h) hin3
  have pc : 2 ^ c < 2 ^ n := Nat.pow_lt_pow_right (by omega) hc
  have eJ : pX9_wait_J21 K 0 (nI a) (nI b) (nI c) sm = pX9_wait_J56 K 0 (nI a) (nI b) (nI c) sm := by
    unfold pX9_wait_J21
    rw [if_neg h3, isPl_in hNm hn hc, Option.bind_some, if_neg n10, if_neg h2]
  by_cases hab : a = b
  · subst hab
    refine bad ?_ ?_
    · simp (disch := omega) only [pX8_partyOf, if_true, atX_in hNx hn ha, Option.bind_some, fqM_some, ite_t, if_neg h2]
    · rw [eW, eJ]
      unfold pX9_wait_J56
      rw [if_pos (rfl : nI a = nI a)]
  have hne : ¬ nI b = nI a := fun q => hab ((nI_eq (by omega) (by omega)).mp q).symm
  have hne' : ¬ nI a = nI b := fun q => hne q.symm
  by_cases hac : a = c
  · subst hac
    refine bad ?_ ?_
    · simp (disch := omega) only [pX8_partyOf, if_true, atX_in hNx hn ha, atX_in hNx hn hb, Option.bind_some, fqM_some, ite_t, if_neg h2, if_neg hne, if_neg h3]
    · rw [eW, eJ]
      unfold pX9_wait_J56
      rw [if_neg hne', if_pos (rfl : nI a = nI a)]
  have hnc : ¬ nI c = nI a := fun q => hac ((nI_eq (by omega) (by omega)).mp q).symm
  have hnc' : ¬ nI a = nI c := fun q => hnc q.symm
  by_cases hbc : b = c
  · subst hbc
    refine bad ?_ ?_
    · simp (disch := omega) only [pX8_partyOf, if_true, atX_in hNx hn ha, atX_in hNx hn hb, Option.bind_some, fqM_some, ite_t, if_neg h2, if_neg hne]
    · rw [eW, eJ]
      unfold pX9_wait_J56
      rw [if_neg hne', if_neg hnc', if_pos (rfl : nI b = nI b), if_neg h2]
  have hnb : ¬ nI c = nI b := fun q => hbc ((nI_eq (by omega) (by omega)).mp q).symm
  have hnb' : ¬ nI b = nI c := fun q => hnb q.symm
  have hmem := and_mem (B := 2 ^ a ||| 2 ^ b ||| 2 ^ c) (E := E1 ||| E2) (P := fun p => a = p ∨ b = p ∨ c = p) (fun p => by show _ ↔ (a = p ∨ b = p ∨ c = p); rw [Nat.testBit_or, Nat.testBit_or, bit_2p, bit_2p, bit_2p, Bool.or_eq_true, Bool.or_eq_true, decide_eq_true_eq, decide_eq_true_eq, decide_eq_true_eq, or_assoc])
  refine wait_good (B := 2 ^ a ||| 2 ^ b ||| 2 ^ c) (c := 3) hR T3 T2 hf hx hm tk1 tk2 b1 b2 b3 b4 (or_lt (or_lt pa pb) pc) (fun q => by
    have z : (2 ^ a ||| 2 ^ b ||| 2 ^ c).testBit a = false := by rw [q, Nat.zero_testBit]
    rw [Nat.testBit_or, Nat.testBit_or, bit_2p] at z
    simp at z) (pop_3 a (by omega) b (by omega) c (by omega) hab hac hbc) (by omega) ?_ ?_
  · simp (disch := omega) only [pX8_partyOf, if_true, atX_in hNx hn ha, atX_in hNx hn hb, atX_in hNx hn hc, Option.bind_some, fqM_some, ite_t, if_neg h2, if_neg hne, if_neg h3, if_neg hnc, if_neg hnb, bitOf_eq, nI_or]
  · have e : pX9_wait K 0 sm (nI a) (nI b) (nI c) = pX9_wait_J106 K 0 (nI a) (nI b) (nI c) ((1 : Int32) + (1 : Int32)) (1 : Int32) sm := by
      rw [eW, eJ]
      unfold pX9_wait_J56
      rw [if_neg hne', if_neg hnc', if_neg hnb', if_neg h2, if_neg h3]
    rw [e]
    unfold pX9_wait_J106
    rw [T4, show ((1 : Int32) + (1 : Int32)) + (1 : Int32) = nI 3 from rfl]
    by_cases q : 3 ≤ T
    · rw [if_pos q, ite_t (by rw [nI_leI (by omega) (by omega)]; exact q)]
      cases ea : (E1 ||| E2).testBit a with
      | true => rw [bt a ha ea, Option.bind_some, if_neg n10, if_neg (fun z => by have y := hmem.mp z a (Or.inl rfl); rw [ea] at y; cases y)]
      | false =>
        rw [bf a ha ea, Option.bind_some, if_pos z00, if_neg h2]
        cases eb : (E1 ||| E2).testBit b with
        | true => rw [bt b hb eb, Option.bind_some, if_neg n10, if_neg (fun z => by have y := hmem.mp z b (Or.inr (Or.inl rfl)); rw [eb] at y; cases y)]
        | false =>
          rw [bf b hb eb, Option.bind_some, if_pos z00]
          unfold pX9_wait_J147
          rw [if_neg h3]
          cases ec : (E1 ||| E2).testBit c with
          | true => rw [bt c hc ec, Option.bind_some, if_neg n10, if_neg (fun z => by have y := hmem.mp z c (Or.inr (Or.inr rfl)); rw [ec] at y; cases y)]
          | false =>
            rw [bf c hc ec, Option.bind_some, if_pos z00, if_pos (hmem.mpr (fun p hp => by rcases hp with rfl | rfl | rfl <;> assumption)), hm.1]
            by_cases q3 : w = 10
            · rw [if_pos q3, ite_t (by rw [q3]; rfl)]
            · rw [if_neg q3, ite_f (by rw [z10, nI_eq (by omega) (by omega)]; exact q3), if_neg h2, nI_one (by omega), nI_one (by omega), J208_eq (B := 2 ^ a ||| 2 ^ b ||| 2 ^ c) hm.1 (by omega) tk3 (by rw [if_neg h3, nI_one (by omega), nI_or, nI_or])]
    · rw [if_neg q, ite_f (by rw [nI_leI (by omega) (by omega)]; exact q)]
