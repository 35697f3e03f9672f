/-! season: the reference's side, and the two -/
theorem l_div2 {a : Nat} (h : a < 2 ^ 62) : lN a / 2 = lN (a / 2) := pk_lDiv (b := 2) (by omega) (by omega) (by omega)
theorem drF_N {sh : Nat → Nat} (h : totN sh 7 = 1000000) : ∃ sh', totN sh' 7 = 1000000 ∧ ∀ l, l < 7 → drF (fun l => lN (sh l)) l = lN (sh' l) := by
  obtain ⟨d, hd⟩ : ∃ d : Nat → Nat, ∀ l, d l = (sh l + midN l) / 2 := ⟨_, fun _ => rfl⟩
  have hs : ∀ l, l < 7 → sh l ≤ 1000000 := fun l hl => by rw [← h]; exact totN_le_part sh hl
  have hmid : ∀ l, midN l ≤ 142858 := fun l => by unfold midN; split <;> omega
  have e : ∀ l, l < 7 → drD (fun l => lN (sh l)) l = lN (d l) := by
    intro l hl
    have h1 := hs l hl
    have h2 := hmid l
    unfold drD
    rw [lN_add, l_div2 (by omega), hd]
  have m0 : midN 0 = 142857 := rfl
  have m1 : midN 1 = 142857 := rfl
  have m2 : midN 2 = 142857 := rfl
  have m3 : midN 3 = 142858 := rfl
  have m4 : midN 4 = 142857 := rfl
  have m5 : midN 5 = 142857 := rfl
  have m6 : midN 6 = 142857 := rfl
  have ht : totN d 7 ≤ 1000000 := by
    have h0 := hd 0
    have h1 := hd 1
    have h2 := hd 2
    have h3 := hd 3
    have h4 := hd 4
    have h5 := hd 5
    have h6 := hd 6
    rw [m0] at h0
    rw [m1] at h1
    rw [m2] at h2
    rw [m3] at h3
    rw [m4] at h4
    rw [m5] at h5
    rw [m6] at h6
    simp only [totN] at h ⊢
    omega
  have hl : ∀ j, j ≤ 7 → lft (drD (fun l => lN (sh l))) j = lN (1000000 - totN d j) ∧ totN d j ≤ 1000000 := by
    intro j
    induction j with
    | zero => intro _; exact ⟨rfl, by simp [totN]⟩
    | succ j ih =>
      intro hj
      obtain ⟨i1, i2⟩ := ih (by omega)
      have mono : totN d (j + 1) ≤ totN d 7 := by
        have : ∀ m, totN d (j + 1) ≤ totN d (j + 1 + m) := by
          intro m
          induction m with
          | zero => exact Nat.le_refl _
          | succ m ihm =>
            have e3 : totN d (j + 1 + (m + 1)) = totN d (j + 1 + m) + d (j + 1 + m) := rfl
            omega
        have q := this (7 - (j + 1))
        rwa [show j + 1 + (7 - (j + 1)) = 7 by omega] at q
      have e2 : totN d (j + 1) = totN d j + d j := rfl
      refine ⟨?_, by omega⟩
      rw [lft, i1, e j (by omega), lN_sub (by omega)]
      congr 1
      omega
  refine ⟨fun l => if l = 3 then d 3 + (1000000 - totN d 7) else d l, ?_, fun l hl7 => ?_⟩
  · simp only [totN] at ht ⊢
    simp
    omega
  · unfold drF
    by_cases e3 : l = 3
    · subst e3
      rw [if_pos rfl, e 3 (by omega), (hl 7 (by omega)).1, lN_add]
      rfl
    · rw [if_neg e3, e l hl7]
      simp [e3]
theorem drawM_in (k : Nat) (σ : fqS) (p : Nat) (hp : p < 16) (hk : 7 < k) : ∃ t : Int32 × fqS, (t.1 = nI (p + 1) ∧ eqW (fun c j => c = 3 ∧ 7 * p ≤ j ∧ j < 7 * p + 7) σ t.2 ∧ ∀ l, l < 7 → fqJ t.2 3 (7 * p + l) = drF (fun l => fqJ σ 3 (7 * p + l)) l) ∧ ∀ r, pX9_season_L32 k 0 (nI p) r (1000000, 0, σ) = r t := by
  unfold pX9_season_L32
  refine fqL_nest _ (fun j s => s.1 = lft (drD (fun l => fqJ σ 3 (7 * p + l))) j ∧ s.2.1 = nI j ∧ eqW (fun c j => c = 3 ∧ 7 * p ≤ j ∧ j < 7 * p + 7) σ s.2.2 ∧ ∀ l, l < 7 → fqJ s.2.2 3 (7 * p + l) = if l < j then drD (fun l => fqJ σ 3 (7 * p + l)) l else fqJ σ 3 (7 * p + l)) 7 hk ⟨rfl, rfl, eqW.rf _, fun l hl => by rw [if_neg (by omega)]⟩ ?_ ?_
  · rintro j ⟨x1, x3, τ⟩ hj ⟨rfl, rfl, hw, hv⟩
    have hvj : fqJ τ 3 (7 * p + j) = fqJ σ 3 (7 * p + j) := by rw [hv j hj, if_neg (by omega)]
    refine ⟨(lft (drD (fun l => fqJ σ 3 (7 * p + l))) (j + 1), nI (j + 1), fqPJ τ 3 (7 * p + j) (drD (fun l => fqJ σ 3 (7 * p + l)) j)), ⟨rfl, rfl, hw.tr (eqW_PJ (S := fun c j => c = 3 ∧ 7 * p ≤ j ∧ j < 7 * p + 7) ⟨rfl, by omega, by omega⟩), fun l hl => ?_⟩, fun r rec => ?_⟩
    · by_cases e : l = j
      · subst e; rw [fqJ_s, if_pos (by omega)]
      · rw [fqJ_n _ _ _ _ _ _ (by omega), hv l hl]
        by_cases q : l < j
        · rw [if_pos q, if_pos (by omega)]
        · rw [if_neg q, if_neg (by omega)]
    · simp (disch := omega) only [pX9_season_L32b, midM_eq k τ j hj, Option.bind_some, fqM_none, fqM_some, fqB2_some, fqN_eq, c10, c00, if_true, if_false, z1, z2, z3, z4, z5, z6, z7, z8, z10, z16, z20, z112, z175, z1023, nI_leI, nI_ltI, nI_eq, nI_clamp, nI_add, nI_n0, nI_e0, nI_p0, nI_l0, nI_g0, false_or, if_true, if_false, ite_t, ite_f, pk_mul, hvj]
      rfl
  · rintro ⟨x1, x3, τ⟩ ⟨rfl, rfl, hw, hv⟩
    refine ⟨(nI (p + 1), fqPJ τ 3 (7 * p + 3) (drF (fun l => fqJ σ 3 (7 * p + l)) 3)), ⟨rfl, hw.tr (eqW_PJ (S := fun c j => c = 3 ∧ 7 * p ≤ j ∧ j < 7 * p + 7) ⟨rfl, by omega, by omega⟩), fun l hl => ?_⟩, fun r rec => ?_⟩
    · by_cases e : l = 3
      · subst e; exact fqJ_s _ _ _ _
      · rw [fqJ_n _ _ _ _ _ _ (by omega), hv l hl, if_pos hl]
        unfold drF
        rw [if_neg e]
    · simp (disch := omega) only [pX9_season_L32b, z1, z2, z3, z4, z5, z6, z7, z8, z10, z16, z20, z112, z175, z1023, nI_leI, nI_ltI, nI_eq, nI_clamp, nI_add, nI_n0, nI_e0, nI_p0, nI_l0, nI_g0, false_or, if_true, if_false, ite_t, ite_f, Option.bind_some, fqM_none, fqM_some, fqB2_some, fqN_eq, c10, c00, if_true, if_false, pk_mul, hv 3 (by omega)]
      rfl
theorem drawM_eq (k n : Nat) (σ : fqS) (hn : n ≤ 16) (hN : fqI σ 0 1 = nI n) (hk : 16 < k) : ∃ τ, pX9_season_L17 k 0 (0, σ) = some (Int32.toInt64 (nI n), τ) ∧ eqW (fun c _ => c = 3) σ τ ∧ ∀ p, p < n → ∀ l, l < 7 → fqJ τ 3 (7 * p + l) = drF (fun l => fqJ σ 3 (7 * p + l)) l := by
  unfold pX9_season_L17
  refine fqL_ex (fun τ => (Int32.toInt64 (nI n), τ)) _ (fun j s => s.1 = nI j ∧ eqW (fun c _ => c = 3) σ s.2 ∧ ∀ p, p < n → ∀ l, l < 7 → fqJ s.2 3 (7 * p + l) = if p < j then drF (fun l => fqJ σ 3 (7 * p + l)) l else fqJ σ 3 (7 * p + l)) n (by omega) ⟨rfl, eqW.rf _, fun p _ l hl => by rw [if_neg (by omega)]⟩ ?_ ?_
  · rintro j ⟨x1, τ⟩ hj ⟨rfl, hw, hv⟩
    have hN2 : fqI τ 0 1 = nI n := by rw [hw.I (by omega)]; exact hN
    obtain ⟨⟨y, τ'⟩, ⟨d1, d2, d3⟩, d4⟩ := drawM_in k τ j (by omega) (by omega)
    have d1' : y = nI (j + 1) := d1
    subst d1'
    refine ⟨(nI (j + 1), τ'), ⟨rfl, hw.tr (d2.mono (fun c k h => h.1)), fun p hp l hl => ?_⟩, fun rec => ?_⟩
    · by_cases e : p = j
      · subst e
        rw [d3 l hl, if_pos (by omega)]
        exact drF_congr (fun i hi => by rw [hv p hp i hi, if_neg (by omega)]) hl
      · rw [d2.J (by omega), hv p hp l hl]
        by_cases q : p < j
        · rw [if_pos q, if_pos (by omega)]
        · rw [if_neg q, if_neg (by omega)]
    · have q := d4 rec
      simp (disch := omega) only [pX9_season_L17b, hN2, nI_leI, ite_f]
      exact q
  · rintro ⟨x1, τ⟩ ⟨rfl, hw, hv⟩
    have hN2 : fqI τ 0 1 = nI n := by rw [hw.I (by omega)]; exact hN
    refine ⟨τ, ⟨hw, fun p hp l hl => ?_⟩, fun rec => ?_⟩
    · rw [hv p hp l hl, if_pos (by omega)]
    · simp (disch := omega) only [pX9_season_L17b, hN2, nI_leI, ite_t]
theorem st_season (K : Nat) (hK : 16 < K) : lwS_season Rel K := by
  intro t n sx sm ht hR
  obtain ⟨hn, hNx, hNm⟩ := hR.1
  obtain ⟨g, g1, g2, _, g4⟩ := going_both (K := K) (by omega) hR
  by_cases hg : g = 0
  · subst hg
    rw [if_pos rfl] at g4
    obtain ⟨sx', a1, a2, a3⟩ := drawAllX_eq K n sx hn hNx hK
    obtain ⟨sm', b1, b2, b3⟩ := drawM_eq K n sm hn hNm hK
    have hNx' : fqI sx' 1 2 = nI n := by rw [a2.I (by omega)]; exact hNx
    refine ⟨Int32.toInt64 (nI n), sx', sm', ?_, ?_, ?_⟩
    · simp (disch := omega) only [pX8_season, g2, Option.bind_some, fqM_none, fqM_some, fqB2_some, fqN_eq, c10, c00, if_true, if_false, nI_leI, nI_ltI, nI_eq, nI_clamp, nI_add, nI_n0, nI_e0, nI_p0, nI_l0, nI_g0, false_or, if_true, if_false, ite_t, ite_f, a1, hNx']
    · simp (disch := omega) only [pX9_season, g4, Option.bind_some, fqM_none, fqM_some, fqB2_some, fqN_eq, c10, c00, if_true, if_false]
      exact b1
    · refine Rel_p (Rel_up hR) (a2.mono (fun c k h => by unfold pXS; omega)) (b2.mono (fun c k h => by unfold pMS; omega)) ?_ ?_
      · intro p hp
        obtain ⟨⟨kd, k1, k2, k3⟩, ⟨sh, s1, s2⟩, ⟨kp, u1, u2, u3, u4⟩⟩ := hR.2.1 p hp
        obtain ⟨sh', t1, t2⟩ := drF_N s1
        refine ⟨⟨kd, k1, ?_, ?_⟩, ⟨sh', t1, fun l hl => ⟨?_, ?_⟩⟩, ⟨kp, u1, ?_, ?_, fun i hi => ?_⟩⟩
        · rw [a2.I (by omega)]; exact k2
        · rw [b2.I (by omega)]; exact k3
        · rw [a3 p hp l hl, ← t2 l hl]; exact drF_congr (fun i hi => (s2 i hi).1) hl
        · rw [b3 p hp l hl, ← t2 l hl]; exact drF_congr (fun i hi => (s2 i hi).2) hl
        · rw [a2.I (by omega)]; exact u2
        · rw [b2.I (by omega)]; exact u3
        · rw [a2.J (by omega), b2.J (by omega)]; exact u4 i hi
      · exact Rz_fr hR.2.2.1 b2 (fun k => by omega)
  · rw [if_neg hg] at g4
    refine both_bad (bnd_3 (K := K) hR) ?_ ?_
    · simp (disch := omega) only [pX8_season, g2, Option.bind_some, fqM_none, fqM_some, fqB2_some, fqN_eq, c10, c00, if_true, if_false, nI_leI, nI_ltI, nI_eq, nI_clamp, nI_add, nI_n0, nI_e0, nI_p0, nI_l0, nI_g0, false_or, if_true, if_false, ite_t, ite_f]
    · simp (disch := omega) only [pX9_season, g4, Option.bind_some, fqM_none, fqM_some, fqB2_some, fqN_eq, c10, c00, if_true, if_false]
