/-! the methods of one player, the numbers that wait, the counts -/
theorem rngX {x b : Int32} : (if x < 0 then some (0 : Int32) else (if b < x then some (0 : Int32) else some (1 : Int32))) = some (if 0 ≤ x ∧ x ≤ b then 1 else 0) := by
  by_cases h1 : x < 0
  · rw [if_pos h1, if_neg (fun q => absurd h1 (Int32.not_lt.mpr q.1))]
  · rw [if_neg h1]
    by_cases h2 : b < x
    · rw [if_pos h2, if_neg (fun q => absurd h2 (Int32.not_lt.mpr q.2))]
    · rw [if_neg h2, if_pos ⟨Int32.not_lt.mp h1, Int32.not_lt.mp h2⟩]
theorem isKind_eq (k n : Nat) (σ : fqS) (x : Int32) : pX8_isKind k n σ x = some (if 0 ≤ x ∧ x ≤ 2 then 1 else 0) := rngX
theorem isBound_eq (k n : Nat) (σ : fqS) (x : Int32) : pX8_isBound k n σ x = some (if 0 ≤ x ∧ x ≤ 10000000 then 1 else 0) := rngX
theorem le6 (x : Int32) : 7 ≤ x ↔ ¬ x ≤ 6 := by
  rw [Int32.le_iff_toInt_le, Int32.le_iff_toInt_le]
  show (7 : Int) ≤ x.toInt ↔ ¬ x.toInt ≤ 6
  omega
theorem isLevel_eq (k n : Nat) (σ : fqS) (x : Int32) : pX8_isLevel k n σ x = some (if 0 ≤ x ∧ x ≤ 6 then 1 else 0) := by
  unfold pX8_isLevel
  by_cases h1 : x < 0
  · rw [if_pos h1, if_neg (fun q => absurd h1 (Int32.not_lt.mpr q.1))]
  · rw [if_neg h1]
    by_cases h2 : 7 ≤ x
    · rw [if_pos h2, if_neg (fun q => (le6 x).mp h2 q.2)]
    · rw [if_neg h2, if_pos ⟨Int32.not_lt.mp h1, Decidable.not_not.mp (fun q => h2 ((le6 x).mpr q))⟩]
theorem isLevM_eq (k n : Nat) (σ : fqS) (x : Int32) : pX9_isLevel k n σ x = some (if 0 ≤ x ∧ x ≤ 6 then 1 else 0) := by
  unfold pX9_isLevel
  rw [inM32 k n σ x 0 6 (A := 0) (C := 6) rfl rfl]
  by_cases h : 0 ≤ x ∧ x ≤ 6
  · rw [if_pos h]; rfl
  · rw [if_neg h]; rfl
theorem isPlaceM_eq (k n : Nat) (σ : fqS) (x : Int32) : pX9_isPlaceOfMatch k n σ x = some (if 0 ≤ x ∧ x ≤ 4 then 1 else 0) := by
  unfold pX9_isPlaceOfMatch
  rw [inM32 k n σ x 0 4 (A := 0) (C := 4) rfl rfl]
  by_cases h : 0 ≤ x ∧ x ≤ 4
  · rw [if_pos h]; rfl
  · rw [if_neg h]; rfl
theorem rng_nI {x : Int32} {b : Nat} (hb : b < 2 ^ 31) (h : 0 ≤ x ∧ x ≤ nI b) : ∃ j, j ≤ b ∧ x = nI j := nI_of2 (nI_toInt hb) (Int32.not_lt.mpr h.1) h.2
theorem bnd_1 {t n K : Nat} {sx sm : fqS} (hR : Rel t n sx sm) : ∃ sx' sm', pX8_finding K n sx 1 = some (-1000000001, sx') ∧ pX9_finding K 0 sm (-1000000001) = some (-1000000001, sm') ∧ Rel (t + 1) n sx' sm' := fnd_both 1 (by omega) (by omega) hR rfl (by decide) (by decide)
theorem bnd_2 {t n K : Nat} {sx sm : fqS} (hR : Rel t n sx sm) : ∃ sx' sm', pX8_finding K n sx 2 = some (-1000000002, sx') ∧ pX9_finding K 0 sm (-1000000002) = some (-1000000002, sm') ∧ Rel (t + 1) n sx' sm' := fnd_both 2 (by omega) (by omega) hR rfl (by decide) (by decide)
theorem bnd_3 {t n K : Nat} {sx sm : fqS} (hR : Rel t n sx sm) : ∃ sx' sm', pX8_finding K n sx 3 = some (-1000000003, sx') ∧ pX9_finding K 0 sm (-1000000003) = some (-1000000003, sm') ∧ Rel (t + 1) n sx' sm' := fnd_both 3 (by omega) (by omega) hR rfl (by decide) (by decide)
theorem bnd_4 {t n K : Nat} {sx sm : fqS} (hR : Rel t n sx sm) : ∃ sx' sm', pX8_finding K n sx 4 = some (-1000000004, sx') ∧ pX9_finding K 0 sm (-1000000004) = some (-1000000004, sm') ∧ Rel (t + 1) n sx' sm' := fnd_both 4 (by omega) (by omega) hR rfl (by decide) (by decide)
theorem bnd_5 {t n K : Nat} {sx sm : fqS} (hR : Rel t n sx sm) : ∃ sx' sm', pX8_finding K n sx 5 = some (-1000000005, sx') ∧ pX9_finding K 0 sm (-1000000005) = some (-1000000005, sm') ∧ Rel (t + 1) n sx' sm' := fnd_both 5 (by omega) (by omega) hR rfl (by decide) (by decide)
/-- only players' cells change -/
def pXS (c k : Nat) : Prop := 26 ≤ c ∨ scX c k
def pMS (c k : Nat) : Prop := (2 ≤ c ∧ c ≤ 5) ∨ scM c k
theorem Rel_p {t n : Nat} {sx sm sx' sm' : fqS} (h : Rel t n sx sm) (hx : eqW pXS sx sx') (hm : eqW pMS sm sm') (hp : Rp n sx' sm') (hz : Rz n sm') : Rel t n sx' sm' := by
  obtain ⟨hn, _, _, hs, hb, ht, hq, hmm, he, hl, hc, hf⟩ := h
  exact ⟨Rn_fr hn hx hm (by unfold pXS scX; omega) (by unfold pMS scM; omega), hp, hz, Rs_fr hs hx hm (by unfold pXS scX; omega) (by unfold pMS scM; omega), Rb_fr hb hx hm (fun k => by unfold pXS scX; omega) (by unfold pMS scM; omega), Rt_fr ht hx hm (by unfold pXS scX; omega) (by unfold pMS scM; omega), Rq_fr hq hx hm ⟨by unfold pXS scX; omega, fun k => by unfold pXS scX; omega⟩ ⟨by unfold pMS scM; omega, fun k => by unfold pMS scM; omega⟩, Rm_fr hmm hx hm (fun m k _ => by unfold pXS scX; omega) (fun c k _ _ => by unfold pMS scM; omega), Re_fr he hx hm (by unfold pXS scX; omega) (by unfold pMS scM; omega), Rl_fr hl hx hm (by unfold pXS scX; omega) (by unfold pMS scM; omega), Rc_fr hc hx hm ⟨by unfold pXS scX; omega, fun k => by unfold pXS scX; omega⟩ ⟨by unfold pMS scM; omega, fun k => by unfold pMS scM; omega⟩, Rf_fr hf hx hm (fun k => by unfold pXS scX; omega) (fun k => by unfold pMS scM; omega)⟩
theorem st_become (K : Nat) : lwS_become Rel K := by
  intro t n sx sm x1 x2 ht hR
  obtain ⟨hn, hNx, hNm⟩ := hR.1
  by_cases hin : x1 < 0 ∨ nI n ≤ x1
  · obtain ⟨sx', sm', e1, e2, h⟩ := bnd_1 (K := K) hR
    refine ⟨-1000000001, sx', sm', ?_, ?_, h⟩
    · simp only [pX8_become, atX_out hNx hin, Option.bind_some, fqM_none, fqM_some, fqB2_some, fqN_eq, c10, c00, if_true, if_false, e1]
    · simp only [pX9_become, isPl_out hNm hn hin, Option.bind_some, fqM_none, fqM_some, fqB2_some, fqN_eq, c10, c00, if_true, if_false, e2]
  · rcases pk_ix x1 (n := n) (by omega) with h | h | ⟨p, hp, rfl⟩
    · exact absurd (Or.inl h) hin
    · exact absurd (Or.inr h) hin
    by_cases hk : 0 ≤ x2 ∧ x2 ≤ 2
    · have hi2 := inM32 K 0 sm x2 0 2 (A := 0) (C := 2) rfl rfl
      rw [if_pos hk] at hi2
      have hi1 := isKind_eq K n sx x2
      rw [if_pos hk] at hi1
      obtain ⟨j, hj, rfl⟩ := rng_nI (b := 2) (by omega) hk
      obtain ⟨⟨kd, k1, k2, k3⟩, hsh, hku⟩ := hR.2.1 p hp
      refine ⟨Int32.toInt64 (nI kd), fqPI sx (26 + 4 * p) 0 (nI j), fqPI sm 2 p (nI j), ?_, ?_, ?_⟩
      · simp (disch := omega) only [pX8_become, atX_in hNx hn hp, Option.bind_some, fqM_none, fqM_some, fqB2_some, fqN_eq, c10, c00, if_true, if_false, ite_t, hi1, k2]
      · simp (disch := omega) only [pX9_become, isPl_in hNm hn hp, Option.bind_some, fqM_none, fqM_some, fqB2_some, fqN_eq, c10, c00, if_true, if_false, hi2, nI_leI, nI_ltI, nI_eq, nI_clamp, nI_add, nI_n0, nI_e0, nI_p0, nI_l0, nI_g0, false_or, if_true, if_false, ite_t, ite_f, k3]
      · refine Rel_p (Rel_up hR) (eqW_PI (Or.inl (by omega))) (eqW_PI (Or.inl (by omega))) ?_ ?_
        · intro p2 hp2
          obtain ⟨g1, g2, g3⟩ := hR.2.1 p2 hp2
          by_cases e : p2 = p
          · subst e
            refine ⟨⟨j, by omega, ?_, ?_⟩, ?_, ?_⟩
            · simp (disch := omega) only [fqI_s, fqJ_s, fqI_n, fqJ_n, fqI_PJ, fqJ_PI]
            · simp (disch := omega) only [fqI_s, fqJ_s, fqI_n, fqJ_n, fqI_PJ, fqJ_PI]
            · simpa only [Rh, fqJ_PI] using g2
            · simpa (disch := omega) only [Ru, fqI_s, fqJ_s, fqI_n, fqJ_n, fqI_PJ, fqJ_PI] using g3
          · refine ⟨?_, ?_, ?_⟩
            · simpa (disch := omega) only [Rk, fqI_s, fqJ_s, fqI_n, fqJ_n, fqI_PJ, fqJ_PI] using g1
            · simpa only [Rh, fqJ_PI] using g2
            · simpa (disch := omega) only [Ru, fqI_s, fqJ_s, fqI_n, fqJ_n, fqI_PJ, fqJ_PI] using g3
        · intro p2 h1 h2
          rw [fqI_PI, if_neg (by omega)]
          exact hR.2.2.1 p2 h1 h2
    · have hi2 := inM32 K 0 sm x2 0 2 (A := 0) (C := 2) rfl rfl
      rw [if_neg hk] at hi2
      have hi1 := isKind_eq K n sx x2
      rw [if_neg hk] at hi1
      obtain ⟨sx', sm', e1, e2, h⟩ := bnd_1 (K := K) hR
      refine ⟨-1000000001, sx', sm', ?_, ?_, h⟩
      · simp (disch := omega) only [pX8_become, atX_in hNx hn hp, Option.bind_some, fqM_none, fqM_some, fqB2_some, fqN_eq, c10, c00, if_true, if_false, ite_t, hi1, e1]
      · simp (disch := omega) only [pX9_become, isPl_in hNm hn hp, Option.bind_some, fqM_none, fqM_some, fqB2_some, fqN_eq, c10, c00, if_true, if_false, hi2, e2]
