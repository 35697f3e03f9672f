/-! bounds, limit, tell, found, surprise -/
theorem Rel_b {t n : Nat} {sx sm sx' sm' : fqS} (h : Rel t n sx sm) (hx : eqW (fun c _ => c = 23) sx sx') (hm : eqW (fun c k => c = 0 ∧ (k = 7 ∨ k = 8 ∨ k = 9)) sm sm') (hb : Rb sx' sm') : Rel t n sx' sm' := by
  obtain ⟨hn, hp, hz, hs, _, ht, hq, hmm, he, hl, hc, hf⟩ := h
  exact ⟨Rn_fr hn hx hm (by omega) (by omega), Rp_fr hp hx hm (fun p k _ => by omega) (fun k => by omega), Rz_fr hz hm (fun k => by omega), Rs_fr hs hx hm (by omega) (by omega), hb, Rt_fr ht hx hm (by omega) (by omega), Rq_fr hq hx hm ⟨by omega, fun k => by omega⟩ ⟨by omega, fun k => by omega⟩, Rm_fr hmm hx hm (fun m k _ => by omega) (fun c k _ _ => by omega), Re_fr he hx hm (by omega) (by omega), Rl_fr hl hx hm (by omega) (by omega), Rc_fr hc hx hm ⟨by omega, fun k => by omega⟩ ⟨by omega, fun k => by omega⟩, Rf_fr hf hx hm (fun k => by omega) (fun k => by omega)⟩
theorem Rel_l {t n : Nat} {sx sm sx' sm' : fqS} (h : Rel t n sx sm) (hx : eqW (fun c k => c = 0 ∧ k = 11) sx sx') (hm : eqW (fun c k => c = 0 ∧ k = 20) sm sm') (hl : Rl sx' sm') : Rel t n sx' sm' := by
  obtain ⟨hn, hp, hz, hs, hb, ht, hq, hmm, he, _, hc, hf⟩ := h
  exact ⟨Rn_fr hn hx hm (by omega) (by omega), Rp_fr hp hx hm (fun p k _ => by omega) (fun k => by omega), Rz_fr hz hm (fun k => by omega), Rs_fr hs hx hm (by omega) (by omega), Rb_fr hb hx hm (fun k => by omega) (by omega), Rt_fr ht hx hm (by omega) (by omega), Rq_fr hq hx hm ⟨by omega, fun k => by omega⟩ ⟨by omega, fun k => by omega⟩, Rm_fr hmm hx hm (fun m k _ => by omega) (fun c k _ _ => by omega), Re_fr he hx hm (by omega) (by omega), hl, Rc_fr hc hx hm ⟨by omega, fun k => by omega⟩ ⟨by omega, fun k => by omega⟩, Rf_fr hf hx hm (fun k => by omega) (fun k => by omega)⟩
theorem Rel_s {t n : Nat} {sx sm sx' sm' : fqS} (h : Rel t n sx sm) (hx : eqW (fun c k => c = 0 ∧ k = 10) sx sx') (hm : eqW (fun c k => c = 0 ∧ k = 6) sm sm') (hs : Rs sx' sm') : Rel t n sx' sm' := by
  obtain ⟨hn, hp, hz, _, hb, ht, hq, hmm, he, hl, hc, hf⟩ := h
  exact ⟨Rn_fr hn hx hm (by omega) (by omega), Rp_fr hp hx hm (fun p k _ => by omega) (fun k => by omega), Rz_fr hz hm (fun k => by omega), hs, Rb_fr hb hx hm (fun k => by omega) (by omega), Rt_fr ht hx hm (by omega) (by omega), Rq_fr hq hx hm ⟨by omega, fun k => by omega⟩ ⟨by omega, fun k => by omega⟩, Rm_fr hmm hx hm (fun m k _ => by omega) (fun c k _ _ => by omega), Re_fr he hx hm (by omega) (by omega), Rl_fr hl hx hm (by omega) (by omega), Rc_fr hc hx hm ⟨by omega, fun k => by omega⟩ ⟨by omega, fun k => by omega⟩, Rf_fr hf hx hm (fun k => by omega) (fun k => by omega)⟩
theorem Rel_c {t n : Nat} {sx sm sx' sm' : fqS} (h : Rel t n sx sm) (hx : eqW (fun c k => (c = 0 ∧ k = 9) ∨ c = 24) sx sx') (hm : eqW (fun c k => (c = 0 ∧ k = 21) ∨ c = 13) sm sm') (hc : Rc sx' sm') : Rel t n sx' sm' := by
  obtain ⟨hn, hp, hz, hs, hb, ht, hq, hmm, he, hl, _, hf⟩ := h
  exact ⟨Rn_fr hn hx hm (by omega) (by omega), Rp_fr hp hx hm (fun p k _ => by omega) (fun k => by omega), Rz_fr hz hm (fun k => by omega), Rs_fr hs hx hm (by omega) (by omega), Rb_fr hb hx hm (fun k => by omega) (by omega), Rt_fr ht hx hm (by omega) (by omega), Rq_fr hq hx hm ⟨by omega, fun k => by omega⟩ ⟨by omega, fun k => by omega⟩, Rm_fr hmm hx hm (fun m k _ => by omega) (fun c k _ _ => by omega), Re_fr he hx hm (by omega) (by omega), Rl_fr hl hx hm (by omega) (by omega), hc, Rf_fr hf hx hm (fun k => by omega) (fun k => by omega)⟩
/-- both answer BEYOND, NONE .. -/
theorem both_bad {t n K : Nat} {sx sm : fqS} {A B : Option (Int64 × fqS)} {x : Int64} {y : Int32} (h : ∃ sx' sm', pX8_finding K n sx y = some (x, sx') ∧ pX9_finding K 0 sm x = some (x, sm') ∧ Rel (t + 1) n sx' sm') (P1 : A = fqB2 (pX8_finding K n sx y) (fun r s => some (r, s))) (P2 : B = fqB2 (pX9_finding K 0 sm x) (fun r s => some (r, s))) : ∃ (r : Int64) (sx' sm' : fqS), A = some (r, sx') ∧ B = some (r, sm') ∧ Rel (t + 1) n sx' sm' := by
  obtain ⟨sx', sm', e1, e2, h⟩ := h
  exact ⟨x, sx', sm', by rw [P1, e1, fqB2_some], by rw [P2, e2, fqB2_some], h⟩
theorem ten7 : (10000000 : Int32) = nI 10000000 := rfl
theorem st_bounds (K : Nat) : lwS_bounds Rel K := by
  intro t n sx sm x1 x2 x3 ht hR
  have a1 := isBound_eq K n sx x1
  have a2 := isBound_eq K n sx x2
  have a3 := isBound_eq K n sx x3
  have b1 := inM32 K 0 sm x1 0 10000000 (A := 0) (C := 10000000) rfl rfl
  have b2 := inM32 K 0 sm x2 0 10000000 (A := 0) (C := 10000000) rfl rfl
  have b3 := inM32 K 0 sm x3 0 10000000 (A := 0) (C := 10000000) rfl rfl
  by_cases h1 : ¬ (0 ≤ x1 ∧ x1 ≤ 10000000)
  · rw [if_neg h1] at a1 b1
    refine both_bad (bnd_1 (K := K) hR) ?_ ?_
    · simp only [pX8_bounds, a1, Option.bind_some, fqM_none, fqM_some, fqB2_some, fqN_eq, c10, c00, if_true, if_false]
    · simp only [pX9_bounds, b1, Option.bind_some, fqM_none, fqM_some, fqB2_some, fqN_eq, c10, c00, if_true, if_false]
  replace h1 := Classical.not_not.mp h1
  rw [if_pos h1] at a1 b1
  by_cases h2 : ¬ (0 ≤ x2 ∧ x2 ≤ 10000000)
  · rw [if_neg h2] at a2 b2
    refine both_bad (bnd_1 (K := K) hR) ?_ ?_
    · simp only [pX8_bounds, a1, a2, Option.bind_some, fqM_none, fqM_some, fqB2_some, fqN_eq, c10, c00, if_true, if_false]
    · simp only [pX9_bounds, b1, b2, Option.bind_some, fqM_none, fqM_some, fqB2_some, fqN_eq, c10, c00, if_true, if_false]
  replace h2 := Classical.not_not.mp h2
  rw [if_pos h2] at a2 b2
  by_cases h3 : ¬ (0 ≤ x3 ∧ x3 ≤ 10000000)
  · rw [if_neg h3] at a3 b3
    refine both_bad (bnd_1 (K := K) hR) ?_ ?_
    · simp only [pX8_bounds, a1, a2, a3, Option.bind_some, fqM_none, fqM_some, fqB2_some, fqN_eq, c10, c00, if_true, if_false]
    · simp only [pX9_bounds, b1, b2, b3, Option.bind_some, fqM_none, fqM_some, fqB2_some, fqN_eq, c10, c00, if_true, if_false]
  replace h3 := Classical.not_not.mp h3
  rw [if_pos h3] at a3 b3
  refine ⟨1, fqPJ (fqPJ (fqPJ sx 23 0 (Int32.toInt64 x1)) 23 1 (Int32.toInt64 x2)) 23 2 (Int32.toInt64 x3), fqPI (fqPI (fqPI sm 0 7 x1) 0 8 x2) 0 9 x3, ?_, ?_, ?_⟩
  · simp only [pX8_bounds, a1, a2, a3, Option.bind_some, fqM_none, fqM_some, fqB2_some, fqN_eq, c10, c00, if_true, if_false]
  · simp only [pX9_bounds, b1, b2, b3, Option.bind_some, fqM_none, fqM_some, fqB2_some, fqN_eq, c10, c00, if_true, if_false]
  · obtain ⟨a, ha, rfl⟩ := rng_nI (b := 10000000) (by omega) h1
    obtain ⟨b, hb, rfl⟩ := rng_nI (b := 10000000) (by omega) h2
    obtain ⟨c, hc, rfl⟩ := rng_nI (b := 10000000) (by omega) h3
    refine Rel_b (Rel_up hR) (((eqW_PJ (S := fun c _ => c = 23) rfl).tr (eqW_PJ rfl)).tr (eqW_PJ rfl)) (((eqW_PI (by omega)).tr (eqW_PI (by omega))).tr (eqW_PI (by omega))) ⟨a, b, c, ha, hb, hc, ?_⟩
    simp (disch := omega) only [fqI_s, fqJ_s, fqI_n, fqJ_n, fqI_PJ, fqJ_PI, nI_l, and_self]
theorem eight6 : (8000000 : Int32) = nI 8000000 := rfl
theorem st_limit (K : Nat) : lwS_limit Rel K := by
  intro t n sx sm x1 ht hR
  have b1 := inM32 K 0 sm x1 0 8000000 (A := 0) (C := 8000000) rfl rfl
  by_cases h1 : ¬ (0 ≤ x1 ∧ x1 ≤ 8000000)
  · rw [if_neg h1] at b1
    refine both_bad (bnd_1 (K := K) hR) ?_ ?_
    · by_cases h : x1 < 0
      · simp only [pX8_limit, if_pos h]
      · simp only [pX8_limit, if_neg h, if_neg (fun q => h1 ⟨Int32.not_lt.mp h, q⟩)]
    · simp only [pX9_limit, b1, Option.bind_some, fqM_none, fqM_some, fqB2_some, fqN_eq, c10, c00, if_true, if_false]
  replace h1 := Classical.not_not.mp h1
  rw [if_pos h1] at b1
  obtain ⟨l, l1, l2, l3⟩ := hR.2.2.2.2.2.2.2.2.2.1
  refine ⟨lN l, fqPJ sx 0 11 (Int32.toInt64 x1), fqPI sm 0 20 x1, ?_, ?_, ?_⟩
  · simp only [pX8_limit, if_neg (Int32.not_lt.mpr h1.1), if_pos h1.2, fqN_eq, l2]
  · simp (disch := omega) only [pX9_limit, b1, Option.bind_some, fqM_none, fqM_some, fqB2_some, fqN_eq, c10, c00, if_true, if_false, l3, nI_l]
  · obtain ⟨a, ha, rfl⟩ := rng_nI (b := 8000000) (by omega) h1
    refine Rel_l (Rel_up hR) (eqW_PJ ⟨rfl, rfl⟩) (eqW_PI ⟨rfl, rfl⟩) ⟨a, ha, ?_⟩
    simp (disch := omega) only [fqI_s, fqJ_s, fqI_n, fqJ_n, fqI_PJ, fqJ_PI, nI_l, and_self]
theorem st_tell (K : Nat) : lwS_tell Rel K := by
  intro t n sx sm x1 ht hR
  obtain ⟨c, c1, c2, c3, c4⟩ := hR.2.2.2.2.2.2.2.2.2.2.1
  by_cases h : c = 20
  · subst h
    refine both_bad (bnd_4 (K := K) hR) ?_ ?_
    · simp (disch := omega) only [pX8_tell, c2, z1, z2, z3, z4, z5, z6, z7, z8, z10, z16, z20, z112, z175, z1023, nI_leI, nI_ltI, nI_eq, nI_clamp, nI_add, nI_n0, nI_e0, nI_p0, nI_l0, nI_g0, false_or, if_true, if_false, ite_t, ite_f]
    · simp (disch := omega) only [pX9_tell, c3, z1, z2, z3, z4, z5, z6, z7, z8, z10, z16, z20, z112, z175, z1023, nI_leI, nI_ltI, nI_eq, nI_clamp, nI_add, nI_n0, nI_e0, nI_p0, nI_l0, nI_g0, false_or, if_true, if_false, ite_t, ite_f]
  · refine ⟨lN (c + 1), fqPI (fqPJ sx 24 c (Int32.toInt64 x1)) 0 9 (nI (c + 1)), fqPI (fqPI sm 13 c x1) 0 21 (nI (c + 1)), ?_, ?_, ?_⟩
    · simp (disch := omega) only [pX8_tell, c2, z1, z2, z3, z4, z5, z6, z7, z8, z10, z16, z20, z112, z175, z1023, nI_leI, nI_ltI, nI_eq, nI_clamp, nI_add, nI_n0, nI_e0, nI_p0, nI_l0, nI_g0, false_or, if_true, if_false, ite_t, ite_f, Option.bind_some, fqM_none, fqM_some, fqB2_some, fqN_eq, c10, c00, if_true, if_false, fqI_s, fqJ_s, fqI_n, fqJ_n, fqI_PJ, fqJ_PI, nI_l]
    · simp (disch := omega) only [pX9_tell, c3, z1, z2, z3, z4, z5, z6, z7, z8, z10, z16, z20, z112, z175, z1023, nI_leI, nI_ltI, nI_eq, nI_clamp, nI_add, nI_n0, nI_e0, nI_p0, nI_l0, nI_g0, false_or, if_true, if_false, ite_t, ite_f, Option.bind_some, fqM_none, fqM_some, fqB2_some, fqN_eq, c10, c00, if_true, if_false, fqI_s, fqJ_s, fqI_n, fqJ_n, fqI_PJ, fqJ_PI, nI_l]
    · refine Rel_c (Rel_up hR) ((eqW_PJ (Or.inr rfl)).tr (eqW_PI (Or.inl ⟨rfl, rfl⟩))) ((eqW_PI (Or.inr rfl)).tr (eqW_PI (Or.inl ⟨rfl, rfl⟩))) ⟨c + 1, by omega, ?_, ?_, fun i hi => ?_⟩
      · simp (disch := omega) only [fqI_s, fqJ_s, fqI_n, fqJ_n, fqI_PJ, fqJ_PI]
      · simp (disch := omega) only [fqI_s, fqJ_s, fqI_n, fqJ_n, fqI_PJ, fqJ_PI]
      · by_cases e : i = c
        · subst e
          simp (disch := omega) only [fqI_s, fqJ_s, fqI_n, fqJ_n, fqI_PJ, fqJ_PI]
        · simp (disch := omega) only [fqI_s, fqJ_s, fqI_n, fqJ_n, fqI_PJ, fqJ_PI]
          exact c4 i (by omega)
theorem st_found (K : Nat) : lwS_found Rel K := by
  intro t n sx sm x1 ht hR
  have b1 := inM32 K 0 sm x1 1 5 (A := 1) (C := 5) rfl rfl
  by_cases h1 : ¬ (1 ≤ x1 ∧ x1 ≤ 5)
  · rw [if_neg h1] at b1
    refine both_bad (bnd_1 (K := K) hR) ?_ ?_
    · by_cases h : x1 < 1
      · simp only [pX8_found, if_pos h]
      · have h5 : (5 : Int32) < x1 := Int32.not_le.mp (fun q => h1 ⟨Int32.not_lt.mp h, q⟩)
        simp only [pX8_found, if_neg h, if_pos h5]
    · simp only [pX9_found, b1, Option.bind_some, fqM_none, fqM_some, fqB2_some, fqN_eq, c10, c00, if_true, if_false]
  replace h1 := Classical.not_not.mp h1
  rw [if_pos h1] at b1
  obtain ⟨j, hj, rfl⟩ := rng_nI (b := 5) (x := x1) (by omega) ⟨Int32.le_trans (by decide) h1.1, h1.2⟩
  have hj1 : 1 ≤ j := (nI_leI (a := 1) (by omega) (by omega)).mp h1.1
  obtain ⟨f, f1, f2, f3⟩ := hR.2.2.2.2.2.2.2.2.2.2.2 j hj1 hj
  refine ⟨lN f, sx, sm, ?_, ?_, Rel_up hR⟩
  · simp (disch := omega) only [pX8_found, z1, z2, z3, z4, z5, z6, z7, z8, z10, z16, z20, z112, z175, z1023, nI_leI, nI_ltI, nI_eq, nI_clamp, nI_add, nI_n0, nI_e0, nI_p0, nI_l0, nI_g0, false_or, if_true, if_false, ite_t, ite_f, f2]
  · simp (disch := omega) only [pX9_found, b1, Option.bind_some, fqM_none, fqM_some, fqB2_some, fqN_eq, c10, c00, if_true, if_false, nI_leI, nI_ltI, nI_eq, nI_clamp, nI_add, nI_n0, nI_e0, nI_p0, nI_l0, nI_g0, false_or, if_true, if_false, ite_t, ite_f, f3]
    rw [nI_l (by omega)]
theorem sumSur_X (k n : Nat) (σ : fqS) (p kp : Nat) (hk : 8 < k) (hkp : kp ≤ 8) (h : fqI σ (26 + 4 * p) 4 = nI kp) : pX5_sumOfSurprises k n σ p = some (sumJ (fun i => fqJ σ (26 + 4 * p + 3) i) kp) := by
  unfold pX5_sumOfSurprises pX5_sumOfSurprises_L4
  refine fqL_go (fun j => (sumJ (fun i => fqJ σ (26 + 4 * p + 3) i) j, nI j)) kp rfl (by omega) ?_ ?_
  · intro rec
    simp (disch := omega) only [pX5_sumOfSurprises_L4b, h, z1, z2, z3, z4, z5, z6, z7, z8, z10, z16, z20, z112, z175, z1023, nI_leI, nI_ltI, nI_eq, nI_clamp, nI_add, nI_n0, nI_e0, nI_p0, nI_l0, nI_g0, false_or, if_true, if_false, ite_t, ite_f]
  · intro j hj rec
    simp (disch := omega) only [pX5_sumOfSurprises_L4b, h, z1, z2, z3, z4, z5, z6, z7, z8, z10, z16, z20, z112, z175, z1023, nI_leI, nI_ltI, nI_eq, nI_clamp, nI_add, nI_n0, nI_e0, nI_p0, nI_l0, nI_g0, false_or, if_true, if_false, ite_t, ite_f, sumJ]
theorem sumSur_M (k : Nat) (σ : fqS) (p kp : Nat) (hk : 8 < k) (hkp : kp ≤ 8) (hp : p < 16) (h : fqI σ 5 p = nI kp) : pX9_surpriseSum k 0 σ (nI p) = some (sumJ (fun i => fqJ σ 4 (8 * p + i)) kp) := by
  unfold pX9_surpriseSum pX9_surpriseSum_L5
  refine fqL_go (fun j => (sumJ (fun i => fqJ σ 4 (8 * p + i)) j, nI j)) kp rfl (by omega) ?_ ?_
  · intro rec
    simp (disch := omega) only [pX9_surpriseSum_L5b, nI_leI, nI_ltI, nI_eq, nI_clamp, nI_add, nI_n0, nI_e0, nI_p0, nI_l0, nI_g0, false_or, if_true, if_false, ite_t, ite_f, h]
  · intro j hj rec
    simp (disch := omega) only [pX9_surpriseSum_L5b, z1, z2, z3, z4, z5, z6, z7, z8, z10, z16, z20, z112, z175, z1023, nI_leI, nI_ltI, nI_eq, nI_clamp, nI_add, nI_n0, nI_e0, nI_p0, nI_l0, nI_g0, false_or, if_true, if_false, ite_t, ite_f, pk_mul, h, sumJ]
theorem st_surprise (K : Nat) (hK : 8 < K) : lwS_surprise Rel K := by
  intro t n sx sm x1 x2 ht hR
  obtain ⟨hn, hNx, hNm⟩ := hR.1
  by_cases hin : x1 < 0 ∨ nI n ≤ x1
  · refine both_bad (bnd_1 (K := K) hR) ?_ ?_
    · simp only [pX8_surprise, atX_out hNx hin, Option.bind_some, fqM_none, fqM_some, fqB2_some, fqN_eq, c10, c00, if_true, if_false]
    · simp only [pX9_surprise, isPl_out hNm hn hin, Option.bind_some, fqM_none, fqM_some, fqB2_some, fqN_eq, c10, c00, if_true, if_false]
  rcases pk_ix x1 (n := n) (by omega) with h | h | ⟨p, hp, rfl⟩
  · exact absurd (Or.inl h) hin
  · exact absurd (Or.inr h) hin
  obtain ⟨_, _, ⟨kp, u1, u2, u3, u4⟩⟩ := hR.2.1 p hp
  have ha := atX_in (k := K) hNx hn hp
  have hb := isPl_in (k := K) hNm hn hp
  have b1 := inM32 K 0 sm x2 (-1) (nI kp - 1) (A := -1) (C := Int32.toInt64 (nI kp - 1)) rfl rfl
  have hcmp : x2 ≤ nI kp - 1 ↔ ¬ nI kp ≤ x2 := by
    rw [Int32.le_iff_toInt_le, Int32.le_iff_toInt_le, nI_toInt (by omega)]
    have e : (nI kp - nI 1).toInt = (kp : Int) - 1 := pk_sub_toInt (by omega) (by omega)
    rw [z1, e]
    omega
  by_cases h1 : ¬ (-1 ≤ x2 ∧ x2 ≤ nI kp - 1)
  · rw [if_neg h1] at b1
    refine both_bad (bnd_2 (K := K) hR) ?_ ?_
    · by_cases h : x2 < -1
      · simp (disch := omega) only [pX8_surprise, ha, Option.bind_some, fqM_none, fqM_some, fqB2_some, fqN_eq, c10, c00, if_true, if_false, ite_t, if_pos h]
      · have h5 : nI kp ≤ x2 := Classical.byContradiction (fun q => h1 ⟨Int32.not_lt.mp h, hcmp.mpr q⟩)
        simp (disch := omega) only [pX8_surprise, ha, Option.bind_some, fqM_none, fqM_some, fqB2_some, fqN_eq, c10, c00, if_true, if_false, ite_t, if_neg h, u2, if_pos h5]
    · simp (disch := omega) only [pX9_surprise, hb, Option.bind_some, fqM_none, fqM_some, fqB2_some, fqN_eq, c10, c00, if_true, if_false, nI_leI, nI_ltI, nI_eq, nI_clamp, nI_add, nI_n0, nI_e0, nI_p0, nI_l0, nI_g0, false_or, if_true, if_false, ite_t, ite_f, u3, b1]
  replace h1 := Classical.not_not.mp h1
  rw [if_pos h1] at b1
  have g1 : ¬ x2 < -1 := Int32.not_lt.mpr h1.1
  have g2 : ¬ nI kp ≤ x2 := hcmp.mp h1.2
  by_cases hk0 : kp = 0
  · subst hk0
    refine both_bad (bnd_2 (K := K) hR) ?_ ?_
    · simp (disch := omega) only [pX8_surprise, ha, Option.bind_some, fqM_none, fqM_some, fqB2_some, fqN_eq, c10, c00, if_true, if_false, ite_t, if_neg g1, u2, if_neg g2, nI_e0]
    · simp (disch := omega) only [pX9_surprise, hb, Option.bind_some, fqM_none, fqM_some, fqB2_some, fqN_eq, c10, c00, if_true, if_false, nI_leI, nI_ltI, nI_eq, nI_clamp, nI_add, nI_n0, nI_e0, nI_p0, nI_l0, nI_g0, false_or, if_true, if_false, ite_t, ite_f, u3, b1]
  by_cases hm1 : x2 = -1
  · subst hm1
    refine ⟨sumJ (fun i => fqJ sx (26 + 4 * p + 3) i) kp, sx, sm, ?_, ?_, Rel_up hR⟩
    · simp (disch := omega) only [pX8_surprise, ha, Option.bind_some, fqM_none, fqM_some, fqB2_some, fqN_eq, c10, c00, if_true, if_false, nI_leI, nI_ltI, nI_eq, nI_clamp, nI_add, nI_n0, nI_e0, nI_p0, nI_l0, nI_g0, false_or, if_true, if_false, ite_t, ite_f, if_neg g1, u2, if_neg g2, sumSur_X K n sx p kp hK u1 u2]
    · simp (disch := omega) only [pX9_surprise, hb, Option.bind_some, fqM_none, fqM_some, fqB2_some, fqN_eq, c10, c00, if_true, if_false, nI_leI, nI_ltI, nI_eq, nI_clamp, nI_add, nI_n0, nI_e0, nI_p0, nI_l0, nI_g0, false_or, if_true, if_false, ite_t, ite_f, u3, b1, sumSur_M K sm p kp hK u1 (by omega) u3]
      rw [sumJ_congr (fun i hi => u4 i hi)]
  · have hx0 : 0 ≤ x2 := by
      have q := h1.1
      rw [Int32.le_iff_toInt_le] at q ⊢
      have ne : x2.toInt ≠ -1 := fun e => hm1 (Int32.toInt_inj.mp e)
      have e1 : (-1 : Int32).toInt = -1 := rfl
      have e2 : (0 : Int32).toInt = 0 := rfl
      omega
    rcases pk_ix x2 (n := kp) (by omega) with h | h | ⟨i, hi, rfl⟩
    · exact absurd h (Int32.not_lt.mpr hx0)
    · exact absurd h g2
    · refine ⟨fqJ sx (26 + 4 * p + 3) i, sx, sm, ?_, ?_, Rel_up hR⟩
      · simp (disch := omega) only [pX8_surprise, ha, Option.bind_some, fqM_none, fqM_some, fqB2_some, fqN_eq, c10, c00, if_true, if_false, nI_leI, nI_ltI, nI_eq, nI_clamp, nI_add, nI_n0, nI_e0, nI_p0, nI_l0, nI_g0, false_or, if_true, if_false, ite_t, ite_f, if_neg g1, u2, if_neg hm1]
      · simp (disch := omega) only [pX9_surprise, hb, Option.bind_some, fqM_none, fqM_some, fqB2_some, fqN_eq, c10, c00, if_true, if_false, z8, nI_leI, nI_ltI, nI_eq, nI_clamp, nI_add, nI_n0, nI_e0, nI_p0, nI_l0, nI_g0, false_or, if_true, if_false, ite_t, ite_f, pk_mul, u3, b1, if_neg hm1, u4 i hi]
