/-! pairing -/
theorem st_pairing (K : Nat) (hK : 1024 < K) : lwS_pairing Rel K := by
  intro t n sx sm x1 x2 ht hR
  obtain ⟨hn, hNx, hNm⟩ := hR.1
  have hi2 := inM32 K 0 sm x2 0 2 (A := 0) (C := 2) rfl rfl
  by_cases hin : x1 < 0 ∨ nI n ≤ x1
  · refine both_bad (bnd_1 (K := K) hR) ?_ ?_
    · simp only [pX8_pairing, atX_out hNx hin, Option.bind_some, fqM_none]
    · simp only [pX9_pairing, isPl_out hNm hn hin, Option.bind_some, if_true]
  rcases pk_ix x1 (n := n) (by omega) with h | h | ⟨p, hp, rfl⟩
  · exact absurd (Or.inl h) hin
  · exact absurd (Or.inr h) hin
  by_cases hk2 : ¬ (0 ≤ x2 ∧ x2 ≤ 2)
  · rw [if_neg hk2] at hi2
    refine both_bad (bnd_1 (K := K) hR) ?_ ?_
    · by_cases h : x2 < 0
      · simp (disch := omega) only [pX8_pairing, atX_in hNx hn hp, Option.bind_some, fqM_some, ite_t, if_pos h]
      · simp (disch := omega) only [pX8_pairing, atX_in hNx hn hp, Option.bind_some, fqM_some, ite_t, if_neg h, if_neg (fun q => hk2 ⟨Int32.not_lt.mp h, q⟩)]
    · simp (disch := omega) only [pX9_pairing, isPl_in hNm hn hp, Option.bind_some, c10, if_false, hi2, if_true]
  replace hk2 := Classical.not_not.mp hk2
  rw [if_pos hk2] at hi2
  have hx0 : ¬ x2 < 0 := Int32.not_lt.mpr hk2.1
  obtain ⟨w, T, qb, qs, sh, hf, hS, hx, hX, hM⟩ := plan_pre (show t ≤ 512 by omega) hR
  have hm := hM.2.2.1
  have hw := hf.1
  have hb9 : ∀ k, k < w → qb k < 65536 := fun k hk => Qf_lt hn hf hk
  rcases place_both (K := K) (n := n) (N := 0) (by omega) hf.1 hx hm hb9 (show p < 16 by omega) with ⟨e1, e2, _⟩ | ⟨k, hk, hbt, e1, e2⟩
  · refine both_bad (bnd_2 (K := K) hR) ?_ ?_
    · simp (disch := omega) only [pX8_pairing, atX_in hNx hn hp, Option.bind_some, fqM_some, ite_t, if_neg hx0, if_pos hk2.2, bitOf_eq, e1, if_neg (show ¬ (0 : Int32) ≤ -1 by decide)]
    · simp (disch := omega) only [pX9_pairing, isPl_in hNm hn hp, Option.bind_some, c10, if_false, hi2, e2, if_neg (show ¬ (0 : Int32) ≤ -1 by decide)]
  have hfull : ∀ k, k < 10 → (1023 : Nat).testBit k = true := by decide
  have hrk : ∀ j, j ≤ w → rk 1023 j = j := fun j hj => rk_full (fun k hk => hfull k (by omega))
  obtain ⟨υx, g1, g2, g3⟩ := gather_eq hK (Or.inl rfl) hS.1 hX
  obtain ⟨υm, l1, l2, l3⟩ := laySets_eq hK hS.1 hM
  have hrow : RowF w 1023 qb qs qb qs := fun j hj _ => by rw [hrk j (by omega)]; exact ⟨rfl, rfl⟩
  have hB : PB n t 4 w T 1023 qb qs qb qs sh υx υm := by
    refine ⟨?_, RowM_fr hM l3 (by unfold lMS; omega) (by unfold lMS; omega) ⟨by unfold lMS; omega, fun k => by unfold lMS; omega⟩ (fun l => by unfold lMS; omega), l2, Rb_fr hR.2.2.2.2.1 g3 l3 (fun k => by unfold gXS; omega) (by unfold lMS; omega), Rt_fr hR.2.2.2.2.2.1 g3 l3 (by unfold gXS; omega) (by unfold lMS; omega)⟩
    rw [hrk w (Nat.le_refl _)]
    exact RowX_fr hX g3 (by unfold gXS; omega) (by unfold gXS; omega) ⟨by unfold gXS; omega, fun k => by unfold gXS; omega⟩ (fun p l => by unfold gXS; omega)
  have hTm : tmC n t 4 w T 1023 qb sh υx := by
    unfold tmC
    rw [hrk w (Nat.le_refl _)]
    exact g2
  obtain ⟨τx, τm, f1, f2, f3⟩ := pair_both (K := K) hK (by omega) (Or.inl rfl) hS hrow hB hTm hk (hfull k (by omega))
  rw [hrk k (by omega)] at f3
  have fX : eqX sx τx := (g3.mono (fun c k h => by unfold gXS at h; unfold scX; omega)).tr (f1.mono (fun c k h => by unfold sXS at h; unfold scX; omega))
  have fM : eqM sm τm := (l3.mono (fun c k h => by unfold lMS at h; unfold scM; omega)).tr (f2.mono (fun c k h => by unfold mMS at h; unfold scM; omega))
  have hR' := Rel_eq fX fM hR
  have hT10 : fqI sx 0 10 = nI T := hX.2.1
  have z1023' : (1023 : Int32) = nI 1023 := rfl
  rcases f3 with ⟨f4, f5⟩ | ⟨f4, f5, y, z, hy, hz, a3, a4, b3, b4, ⟨d, d1, d2⟩, hyz, ty, tz⟩
  · refine both_bad (bnd_2 (K := K) hR') ?_ ?_
    · simp (disch := omega) only [pX8_pairing, atX_in hNx hn hp, Option.bind_some, fqM_some, ite_t, if_neg hx0, if_pos hk2.2, bitOf_eq, e1, nI_p0, if_true, hT10, g1, f4, fqB2_some]
    · simp (disch := omega) only [pX9_pairing, isPl_in hNm hn hp, Option.bind_some, c10, if_false, hi2, e2, nI_p0, if_true, l1, z1023', f5, fqB2_some]
  · have hB' := PB_fr hB f1 f2 (by unfold sXS; omega) ⟨by unfold sXS; omega, fun k => by unfold sXS; omega⟩ (fun p l => by unfold sXS; omega) (fun k => by unfold sXS; omega) (by unfold mMS; omega) (fun k => by unfold mMS; omega)
    obtain ⟨y1, y2, _⟩ := zL_ok 1023 w y hy
    obtain ⟨z1, z2, _⟩ := zL_ok 1023 w z hz
    have hw2 := p10 hw
    rw [hrk w (Nat.le_refl _)] at y1 z1
    have hwr : rk 1023 w ≤ 10 := by rw [hrk w (Nat.le_refl _)]; exact hw
    have plx := playersAt_eq (K := K) (n := n) (s := y.1) (by omega) hwr hB'.1.2.2.1 (by omega)
    have plz := playersAt_eq (K := K) (n := n) (s := z.1) (by omega) hwr hB'.1.2.2.1 (by omega)
    rw [pl_z hrow hy] at plx
    rw [pl_z hrow hz] at plz
    have pmx := playersOf_eq (K := K) (N := 0) (s := y.2) (by omega) hw hB'.2.1.2.2.1 (by omega)
    have pmz := playersOf_eq (K := K) (N := 0) (s := z.2) (by omega) hw hB'.2.1.2.2.1 (by omega)
    have hX1 : pX8_pairing K n sx (nI p) x2 = (if x2 = 0 then some ((fqJ τx 10 5), τx) else (if x2 = (1 : Int32) then ((pX7_playersAt K n τx 4 (fqI τx 10 3)).bind (fun r29 => some ((Int32.toInt64 r29), τx))) else ((pX7_playersAt K n τx 4 (fqI τx 10 4)).bind (fun r27 => some ((Int32.toInt64 r27), τx))))) := by
      simp (disch := omega) only [pX8_pairing, atX_in hNx hn hp, Option.bind_some, fqM_some, ite_t, if_neg hx0, if_pos hk2.2, bitOf_eq, e1, nI_p0, if_true, hT10, g1, f4, fqB2_some, c10, if_false]
    have hM1 : pX9_pairing K 0 sm (nI p) x2 = (if x2 = 0 then some ((fqJ τm 0 28), τm) else (if x2 = (1 : Int32) then ((pX9_playersOf K 0 τm (fqI τm 0 26)).bind (fun r24 => some ((Int32.toInt64 r24), τm))) else ((pX9_playersOf K 0 τm (fqI τm 0 27)).bind (fun r22 => some ((Int32.toInt64 r22), τm))))) := by
      simp (disch := omega) only [pX9_pairing, isPl_in hNm hn hp, Option.bind_some, c10, if_false, hi2, e2, nI_p0, if_true, l1, z1023', f5, fqB2_some]
    rw [hX1, hM1]
    by_cases h0 : x2 = 0
    · rw [if_pos h0, if_pos h0]
      exact ⟨lN d, τx, τm, by rw [d1], by rw [d2], Rel_up hR'⟩
    · rw [if_neg h0, if_neg h0]
      by_cases h1 : x2 = 1
      · rw [if_pos h1, if_pos h1, a3, plx, b3, pmx]
        exact ⟨_, τx, τm, rfl, rfl, Rel_up hR'⟩
      · rw [if_neg h1, if_neg h1, a4, plz, b4, pmz]
        exact ⟨_, τx, τm, rfl, rfl, Rel_up hR'⟩
