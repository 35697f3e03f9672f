theorem mean_both {t n K : Nat} {sx sm : fqS} (hK : 7 < K) (hR : Rel t n sx sm) {p : Nat} (hp : p < n) : ∃ r, pX5_ownMean K n sx p = some r ∧ pX9_meanOf K 0 sm (nI p) = some r := by
  obtain ⟨hn, _, _⟩ := hR.1
  obtain ⟨_, ⟨sh, _, s2⟩, _⟩ := hR.2.1 p hp
  refine ⟨_, ownMean_eq K n sx p hK, ?_⟩
  rw [meanOf_eq K sm p (by omega) hK]
  congr 1
  exact sumJ_congr (fun l hl => by rw [(s2 l hl).1, (s2 l hl).2])
theorem st_mean (K : Nat) (hK : 7 < K) : lwS_mean Rel K := by
  intro t n sx sm x1 ht hR
  obtain ⟨hn, hNx, hNm⟩ := hR.1
  by_cases hin : x1 < 0 ∨ nI n ≤ x1
  · obtain ⟨sx', sm', e1, e2, h⟩ := bnd_1 (K := K) hR
    refine ⟨-1000000001, sx', sm', ?_, ?_, h⟩
    · simp only [pX8_mean, atX_out hNx hin, Option.bind_some, fqM_none, fqM_some, fqB2_some, fqN_eq, c10, c00, if_true, if_false, e1]
    · simp only [pX9_mean, isPl_out hNm hn hin, Option.bind_some, fqM_none, fqM_some, fqB2_some, fqN_eq, c10, c00, if_true, if_false, e2]
  · rcases pk_ix x1 (n := n) (by omega) with h | h | ⟨p, hp, rfl⟩
    · exact absurd (Or.inl h) hin
    · exact absurd (Or.inr h) hin
    obtain ⟨r, m1, m2⟩ := mean_both hK hR hp
    refine ⟨r, sx, sm, ?_, ?_, Rel_up hR⟩
    · simp (disch := omega) only [pX8_mean, atX_in hNx hn hp, Option.bind_some, fqM_none, fqM_some, fqB2_some, fqN_eq, c10, c00, if_true, if_false, ite_t, m1]
    · simp (disch := omega) only [pX9_mean, isPl_in hNm hn hp, Option.bind_some, fqM_none, fqM_some, fqB2_some, fqN_eq, c10, c00, if_true, if_false, m2]
theorem st_as (K : Nat) (hK : 7 < K) : lwS_as Rel K := by
  intro t n sx sm x1 x2 ht hR
  obtain ⟨hn, hNx, hNm⟩ := hR.1
  by_cases hin : x1 < 0 ∨ nI n ≤ x1
  · obtain ⟨sx', sm', e1, e2, h⟩ := bnd_1 (K := K) hR
    refine ⟨-1000000001, sx', sm', ?_, ?_, h⟩
    · simp only [pX8_as, atX_out hNx hin, Option.bind_some, fqM_none, fqM_some, fqB2_some, fqN_eq, c10, c00, if_true, if_false, e1]
    · simp only [pX9_as, isPl_out hNm hn hin, Option.bind_some, fqM_none, fqM_some, fqB2_some, fqN_eq, c10, c00, if_true, if_false, e2]
  · rcases pk_ix x1 (n := n) (by omega) with h | h | ⟨p, hp, rfl⟩
    · exact absurd (Or.inl h) hin
    · exact absurd (Or.inr h) hin
    by_cases hk : 0 ≤ x2 ∧ x2 ≤ 2
    · have hi2 := inM32 K 0 sm x2 0 2 (A := 0) (C := 2) rfl rfl
      rw [if_pos hk] at hi2
      have hi1 := isKind_eq K n sx x2
      rw [if_pos hk] at hi1
      obtain ⟨j, hj, rfl⟩ := rng_nI (b := 2) (by omega) hk
      obtain ⟨⟨kd, k1, k2, k3⟩, hsh, hku⟩ := hR.2.1 p hp
      obtain ⟨r, m1, m2⟩ := mean_both hK hR hp
      by_cases hc : j = 0 ∨ j = kd
      · refine ⟨r, sx, sm, ?_, ?_, Rel_up hR⟩
        · by_cases h0 : j = 0
          · simp (disch := omega) only [pX8_as, atX_in hNx hn hp, Option.bind_some, fqM_none, fqM_some, fqB2_some, fqN_eq, c10, c00, if_true, if_false, nI_leI, nI_ltI, nI_eq, nI_clamp, nI_add, nI_n0, nI_e0, nI_p0, nI_l0, nI_g0, false_or, if_true, if_false, ite_t, ite_f, hi1, k2, m1]
          · simp (disch := omega) only [pX8_as, atX_in hNx hn hp, Option.bind_some, fqM_none, fqM_some, fqB2_some, fqN_eq, c10, c00, if_true, if_false, nI_leI, nI_ltI, nI_eq, nI_clamp, nI_add, nI_n0, nI_e0, nI_p0, nI_l0, nI_g0, false_or, if_true, if_false, ite_t, ite_f, hi1, k2, m1]
        · by_cases h0 : j = 0
          · simp (disch := omega) only [pX9_as, isPl_in hNm hn hp, Option.bind_some, fqM_none, fqM_some, fqB2_some, fqN_eq, c10, c00, if_true, if_false, nI_leI, nI_ltI, nI_eq, nI_clamp, nI_add, nI_n0, nI_e0, nI_p0, nI_l0, nI_g0, false_or, if_true, if_false, ite_t, ite_f, hi2, k3, m2]
          · simp (disch := omega) only [pX9_as, isPl_in hNm hn hp, Option.bind_some, fqM_none, fqM_some, fqB2_some, fqN_eq, c10, c00, if_true, if_false, nI_leI, nI_ltI, nI_eq, nI_clamp, nI_add, nI_n0, nI_e0, nI_p0, nI_l0, nI_g0, false_or, if_true, if_false, ite_t, ite_f, hi2, k3, m2]
      · obtain ⟨sx', sm', e1, e2, h⟩ := bnd_5 (K := K) hR
        refine ⟨-1000000005, sx', sm', ?_, ?_, h⟩
        · simp (disch := omega) only [pX8_as, atX_in hNx hn hp, Option.bind_some, fqM_none, fqM_some, fqB2_some, fqN_eq, c10, c00, if_true, if_false, nI_leI, nI_ltI, nI_eq, nI_clamp, nI_add, nI_n0, nI_e0, nI_p0, nI_l0, nI_g0, false_or, if_true, if_false, ite_t, ite_f, hi1, k2, e1]
        · simp (disch := omega) only [pX9_as, isPl_in hNm hn hp, Option.bind_some, fqM_none, fqM_some, fqB2_some, fqN_eq, c10, c00, if_true, if_false, nI_leI, nI_ltI, nI_eq, nI_clamp, nI_add, nI_n0, nI_e0, nI_p0, nI_l0, nI_g0, false_or, if_true, if_false, ite_t, ite_f, hi2, k3, e2]
    · have hi2 := inM32 K 0 sm x2 0 2 (A := 0) (C := 2) rfl rfl
      rw [if_neg hk] at hi2
      have hi1 := isKind_eq K n sx x2
      rw [if_neg hk] at hi1
      obtain ⟨sx', sm', e1, e2, h⟩ := bnd_1 (K := K) hR
      refine ⟨-1000000001, sx', sm', ?_, ?_, h⟩
      · simp (disch := omega) only [pX8_as, atX_in hNx hn hp, Option.bind_some, fqM_none, fqM_some, fqB2_some, fqN_eq, c10, c00, if_true, if_false, ite_t, hi1, e1]
      · simp (disch := omega) only [pX9_as, isPl_in hNm hn hp, Option.bind_some, fqM_none, fqM_some, fqB2_some, fqN_eq, c10, c00, if_true, if_false, hi2, e2]
theorem st_share (K : Nat) : lwS_share Rel K := by
  intro t n sx sm x1 x2 ht hR
  obtain ⟨hn, hNx, hNm⟩ := hR.1
  by_cases hin : x1 < 0 ∨ nI n ≤ x1
  · obtain ⟨sx', sm', e1, e2, h⟩ := bnd_1 (K := K) hR
    refine ⟨-1000000001, sx', sm', ?_, ?_, h⟩
    · simp only [pX8_share, atX_out hNx hin, Option.bind_some, fqM_none, fqM_some, fqB2_some, fqN_eq, c10, c00, if_true, if_false, e1]
    · simp only [pX9_share, isPl_out hNm hn hin, Option.bind_some, fqM_none, fqM_some, fqB2_some, fqN_eq, c10, c00, if_true, if_false, e2]
  · rcases pk_ix x1 (n := n) (by omega) with h | h | ⟨p, hp, rfl⟩
    · exact absurd (Or.inl h) hin
    · exact absurd (Or.inr h) hin
    have hi2 := isLevM_eq K 0 sm x2
    have hi1 := isLevel_eq K n sx x2
    by_cases hk : 0 ≤ x2 ∧ x2 ≤ 6
    · rw [if_pos hk] at hi1 hi2
      obtain ⟨l, hl, rfl⟩ := rng_nI (b := 6) (by omega) hk
      obtain ⟨_, ⟨sh, s1, s2⟩, _⟩ := hR.2.1 p hp
      refine ⟨lN (sh l), sx, sm, ?_, ?_, Rel_up hR⟩
      · simp (disch := omega) only [pX8_share, atX_in hNx hn hp, Option.bind_some, fqM_none, fqM_some, fqB2_some, fqN_eq, c10, c00, if_true, if_false, nI_leI, nI_ltI, nI_eq, nI_clamp, nI_add, nI_n0, nI_e0, nI_p0, nI_l0, nI_g0, false_or, if_true, if_false, ite_t, ite_f, hi1, (s2 l (by omega)).1]
      · simp (disch := omega) only [pX9_share, isPl_in hNm hn hp, Option.bind_some, fqM_none, fqM_some, fqB2_some, fqN_eq, c10, c00, if_true, if_false, z1, z2, z3, z4, z5, z6, z7, z8, z10, z16, z20, z112, z175, z1023, nI_leI, nI_ltI, nI_eq, nI_clamp, nI_add, nI_n0, nI_e0, nI_p0, nI_l0, nI_g0, false_or, if_true, if_false, ite_t, ite_f, pk_mul, hi2, (s2 l (by omega)).2]
    · rw [if_neg hk] at hi1 hi2
      obtain ⟨sx', sm', e1, e2, h⟩ := bnd_1 (K := K) hR
      refine ⟨-1000000001, sx', sm', ?_, ?_, h⟩
      · simp (disch := omega) only [pX8_share, atX_in hNx hn hp, Option.bind_some, fqM_none, fqM_some, fqB2_some, fqN_eq, c10, c00, if_true, if_false, ite_t, hi1, e1]
      · simp (disch := omega) only [pX9_share, isPl_in hNm hn hp, Option.bind_some, fqM_none, fqM_some, fqB2_some, fqN_eq, c10, c00, if_true, if_false, hi2, e2]
theorem totN_up (f : Nat → Nat) (x i : Nat) : ∀ {n : Nat}, i < n → totN (va_up f i x) n + f i = totN f n + x
  | 0, h => absurd h (by omega)
  | n + 1, h => by
    rw [totN, totN]
    rcases Nat.lt_or_ge i n with q | q
    · have ih := totN_up f x i q
      have e : va_up f i x n = f n := va_up_ne _ _ (by omega)
      rw [e]; omega
    · have e : i = n := by omega
      subst e
      have e2 : totN (va_up f i x) i = totN f i := totN_congr (fun j hj => va_up_ne _ _ (by omega))
      rw [e2, va_up_self]; omega
theorem Rh_one {sx sm sx' sm' : fqS} {p : Nat} {sh : Nat → Nat} {l : Nat} {v : Nat} (hl : l < 7) (h : ∀ l, l < 7 → fqJ sx (26 + 4 * p + 1) l = lN (sh l) ∧ fqJ sm 3 (7 * p + l) = lN (sh l)) (hx : sx' = fqPJ sx (26 + 4 * p + 1) l (lN v)) (hm : sm' = fqPJ sm 3 (7 * p + l) (lN v)) : ∀ l2, l2 < 7 → fqJ sx' (26 + 4 * p + 1) l2 = lN (va_up sh l v l2) ∧ fqJ sm' 3 (7 * p + l2) = lN (va_up sh l v l2) := by
  intro l2 h2
  subst hx hm
  by_cases e : l2 = l
  · subst e
    rw [va_up_self]
    exact ⟨fqJ_s _ _ _ _, fqJ_s _ _ _ _⟩
  · rw [va_up_ne _ _ e, fqJ_n _ _ _ _ _ _ (by omega), fqJ_n _ _ _ _ _ _ (by omega)]
    exact h l2 h2
theorem st_shift (K : Nat) : lwS_shift Rel K := by
  intro t n sx sm x1 x2 x3 x4 ht hR
  obtain ⟨hn, hNx, hNm⟩ := hR.1
  have bad : ∀ (P1 : pX8_shift K n sx x1 x2 x3 x4 = fqB2 (pX8_finding K n sx 1) (fun r s => some (r, s))) (P2 : pX9_shift K 0 sm x1 x2 x3 x4 = fqB2 (pX9_finding K 0 sm (-1000000001)) (fun r s => some (r, s))), ∃ (r : Int64) (sx' sm' : fqS), pX8_shift K n sx x1 x2 x3 x4 = some (r, sx') ∧ pX9_shift K 0 sm x1 x2 x3 x4 = some (r, sm') ∧ Rel (t + 1) n sx' sm' := by
    intro P1 P2
    obtain ⟨sx', sm', e1, e2, h⟩ := bnd_1 (K := K) hR
    exact ⟨-1000000001, sx', sm', by rw [P1, e1, fqB2_some], by rw [P2, e2, fqB2_some], h⟩
  by_cases hin : x1 < 0 ∨ nI n ≤ x1
  · refine bad ?_ ?_
    · simp only [pX8_shift, atX_out hNx hin, Option.bind_some, fqM_none, fqM_some, fqB2_some, fqN_eq, c10, c00, if_true, if_false]
    · simp only [pX9_shift, isPl_out hNm hn hin, Option.bind_some, fqM_none, fqM_some, fqB2_some, fqN_eq, c10, c00, if_true, if_false]
  rcases pk_ix x1 (n := n) (by omega) with h | h | ⟨p, hp, rfl⟩
  · exact absurd (Or.inl h) hin
  · exact absurd (Or.inr h) hin
  have ha := atX_in (k := K) hNx hn hp
  have hb := isPl_in (k := K) hNm hn hp
  have hi2 := isLevM_eq K 0 sm x2
  have hi1 := isLevel_eq K n sx x2
  have hj2 := isLevM_eq K 0 sm x3
  have hj1 := isLevel_eq K n sx x3
  by_cases hk : ¬ (0 ≤ x2 ∧ x2 ≤ 6)
  · rw [if_neg hk] at hi1 hi2
    refine bad ?_ ?_
    · simp (disch := omega) only [pX8_shift, ha, Option.bind_some, fqM_none, fqM_some, fqB2_some, fqN_eq, c10, c00, if_true, if_false, ite_t, hi1]
    · simp (disch := omega) only [pX9_shift, hb, Option.bind_some, fqM_none, fqM_some, fqB2_some, fqN_eq, c10, c00, if_true, if_false, hi2]
  replace hk := Classical.not_not.mp hk
  rw [if_pos hk] at hi1 hi2
  by_cases hk3 : ¬ (0 ≤ x3 ∧ x3 ≤ 6)
  · rw [if_neg hk3] at hj1 hj2
    refine bad ?_ ?_
    · simp (disch := omega) only [pX8_shift, ha, Option.bind_some, fqM_none, fqM_some, fqB2_some, fqN_eq, c10, c00, if_true, if_false, ite_t, hi1, hj1]
    · simp (disch := omega) only [pX9_shift, hb, Option.bind_some, fqM_none, fqM_some, fqB2_some, fqN_eq, c10, c00, if_true, if_false, hi2, hj2]
  replace hk3 := Classical.not_not.mp hk3
  rw [if_pos hk3] at hj1 hj2
  obtain ⟨a, hla, rfl⟩ := rng_nI (b := 6) (by omega) hk
  obtain ⟨b, hlb, rfl⟩ := rng_nI (b := 6) (by omega) hk3
  obtain ⟨g1, ⟨sh, s1, s2⟩, g3⟩ := hR.2.1 p hp
  have hsa : sh a ≤ 1000000 := by have := totN_le_part sh (n := 7) (i := a) (by omega); omega
  have hin4 : pX9_in K 0 sm (Int32.toInt64 x4) 0 (lN (sh a)) = some (if 0 ≤ x4 ∧ x4 ≤ nI (sh a) then 1 else 0) := inM32 K 0 sm x4 0 (nI (sh a)) (A := 0) rfl (nI_l (by omega)).symm
  by_cases hv : ¬ (0 ≤ x4 ∧ x4 ≤ nI (sh a))
  · rw [if_neg hv] at hin4
    refine bad ?_ ?_
    · by_cases h4 : x4 < 0
      · simp (disch := omega) only [pX8_shift, ha, Option.bind_some, fqM_none, fqM_some, fqB2_some, fqN_eq, c10, c00, if_true, if_false, ite_t, hi1, hj1, if_pos h4]
      · have h5 : ¬ Int32.toInt64 x4 ≤ lN (sh a) := fun q => hv ⟨Int32.not_lt.mp h4, by rw [← nI_l (by omega), wid_le] at q; exact q⟩
        simp (disch := omega) only [pX8_shift, ha, Option.bind_some, fqM_none, fqM_some, fqB2_some, fqN_eq, c10, c00, if_true, if_false, nI_leI, nI_ltI, nI_eq, nI_clamp, nI_add, nI_n0, nI_e0, nI_p0, nI_l0, nI_g0, false_or, if_true, if_false, ite_t, ite_f, hi1, hj1, if_neg h4, (s2 a (by omega)).1, if_neg h5]
    · simp (disch := omega) only [pX9_shift, hb, Option.bind_some, fqM_none, fqM_some, fqB2_some, fqN_eq, c10, c00, if_true, if_false, z1, z2, z3, z4, z5, z6, z7, z8, z10, z16, z20, z112, z175, z1023, nI_leI, nI_ltI, nI_eq, nI_clamp, nI_add, nI_n0, nI_e0, nI_p0, nI_l0, nI_g0, false_or, if_true, if_false, ite_t, ite_f, pk_mul, hi2, hj2, (s2 a (by omega)).2, hin4]
  replace hv := Classical.not_not.mp hv
  rw [if_pos hv] at hin4
  obtain ⟨v, hv2, rfl⟩ := rng_nI (b := sh a) (by omega) hv
  have e4 : Int32.toInt64 (nI v) = lN v := nI_l (by omega)
  rw [e4] at hin4
  have q1 := Rh_one (sx' := _) (sm' := _) (v := sh a - v) (show a < 7 by omega) s2 rfl rfl
  have q2 := Rh_one (sx' := _) (sm' := _) (v := va_up sh a (sh a - v) b + v) (show b < 7 by omega) q1 rfl rfl
  refine ⟨lN (va_up sh a (sh a - v) b + v), fqPJ (fqPJ sx (26 + 4 * p + 1) a (lN (sh a - v))) (26 + 4 * p + 1) b (lN (va_up sh a (sh a - v) b + v)), fqPJ (fqPJ sm 3 (7 * p + a) (lN (sh a - v))) 3 (7 * p + b) (lN (va_up sh a (sh a - v) b + v)), ?_, ?_, ?_⟩
  · have hle : lN v ≤ lN (sh a) := (lN_le (by omega) (by omega)).mpr hv2
    simp (disch := omega) only [pX8_shift, ha, Option.bind_some, fqM_none, fqM_some, fqB2_some, fqN_eq, c10, c00, if_true, if_false, nI_leI, nI_ltI, nI_eq, nI_clamp, nI_add, nI_n0, nI_e0, nI_p0, nI_l0, nI_g0, false_or, if_true, if_false, ite_t, ite_f, hi1, hj1, (s2 a (by omega)).1, e4, if_pos hle, lN_sub hv2, (q1 b (by omega)).1, lN_add, fqJ_s]
  · simp (disch := omega) only [pX9_shift, hb, Option.bind_some, fqM_none, fqM_some, fqB2_some, fqN_eq, c10, c00, if_true, if_false, z1, z2, z3, z4, z5, z6, z7, z8, z10, z16, z20, z112, z175, z1023, nI_leI, nI_ltI, nI_eq, nI_clamp, nI_add, nI_n0, nI_e0, nI_p0, nI_l0, nI_g0, false_or, if_true, if_false, ite_t, ite_f, pk_mul, hi2, hj2, (s2 a (by omega)).2, e4, hin4, lN_sub hv2, (q1 b (by omega)).2, lN_add, fqJ_s]
  · refine Rel_p (Rel_up hR) ((eqW_PJ (Or.inl (by omega))).tr (eqW_PJ (Or.inl (by omega)))) ((eqW_PJ (Or.inl (by omega))).tr (eqW_PJ (Or.inl (by omega)))) ?_ (fun p2 h1 h2 => hR.2.2.1 p2 h1 h2)
    intro p2 hp2
    obtain ⟨f1, ⟨sh2, t1, t2⟩, f3⟩ := hR.2.1 p2 hp2
    by_cases e : p2 = p
    · subst e
      refine ⟨?_, ⟨_, ?_, q2⟩, ?_⟩
      · simpa (disch := omega) only [Rk, fqI_s, fqJ_s, fqI_n, fqJ_n, fqI_PJ, fqJ_PI] using f1
      · have u1 := totN_up sh (sh a - v) a (n := 7) (by omega)
        have u2 := totN_up (va_up sh a (sh a - v)) (va_up sh a (sh a - v) b + v) b (n := 7) (by omega)
        omega
      · simpa (disch := omega) only [Ru, fqI_s, fqJ_s, fqI_n, fqJ_n, fqI_PJ, fqJ_PI] using f3
    · refine ⟨?_, ⟨sh2, t1, fun l hl => ?_⟩, ?_⟩
      · simpa (disch := omega) only [Rk, fqI_s, fqJ_s, fqI_n, fqJ_n, fqI_PJ, fqJ_PI] using f1
      · simp (disch := omega) only [fqI_s, fqJ_s, fqI_n, fqJ_n, fqI_PJ, fqJ_PI]
        exact t2 l hl
      · simpa (disch := omega) only [Ru, fqI_s, fqJ_s, fqI_n, fqJ_n, fqI_PJ, fqJ_PI] using f3
