/-! the queue: waited, leave -/
def Qx (q w : Nat) (qb qs : Nat → Nat) (σ : fqS) : Prop := fqI σ q 2 = nI w ∧ ∀ k, k < w → fqI σ (q + 1) k = nI (qb k) ∧ fqJ σ (q + 2) k = lN (qs k)
def Qm (w : Nat) (qb qs : Nat → Nat) (σ : fqS) : Prop := fqI σ 0 11 = nI w ∧ ∀ k, k < w → fqI σ 6 k = nI (qb k) ∧ fqI σ 7 k = nI (qs k)
def Qf (n t w : Nat) (qb qs : Nat → Nat) : Prop := w ≤ 10 ∧ (∀ k, k < w → 0 < qb k ∧ qb k < 2 ^ n ∧ qs k ≤ t) ∧ ∀ i j, i < w → j < w → i ≠ j → qb i &&& qb j = 0
theorem Rq_to {n t : Nat} {sx sm : fqS} (h : Rq n t sx sm) : ∃ w qb qs, Qf n t w qb qs ∧ Qx 4 w qb qs sx ∧ Qm w qb qs sm := by
  obtain ⟨w, h1, h2, h3, qb, qs, h4, h5⟩ := h
  exact ⟨w, qb, qs, ⟨h1, fun k hk => ⟨(h4 k hk).1, (h4 k hk).2.1, (h4 k hk).2.2.1⟩, h5⟩, ⟨h2, fun k hk => ⟨(h4 k hk).2.2.2.1, (h4 k hk).2.2.2.2.2.1⟩⟩, ⟨h3, fun k hk => ⟨(h4 k hk).2.2.2.2.1, (h4 k hk).2.2.2.2.2.2⟩⟩⟩
theorem Rq_of {n t w : Nat} {qb qs : Nat → Nat} {sx sm : fqS} (hf : Qf n t w qb qs) (hx : Qx 4 w qb qs sx) (hm : Qm w qb qs sm) : Rq n t sx sm :=
  ⟨w, hf.1, hx.1, hm.1, qb, qs, fun k hk => ⟨(hf.2.1 k hk).1, (hf.2.1 k hk).2.1, (hf.2.1 k hk).2.2, (hx.2 k hk).1, (hm.2 k hk).1, (hx.2 k hk).2, (hm.2 k hk).2⟩, hf.2.2⟩
theorem Qx_fr {S : Nat → Nat → Prop} {q w : Nat} {qb qs : Nat → Nat} {σ τ : fqS} (h : Qx q w qb qs σ) (e : eqW S σ τ) (a : ¬ S q 2 ∧ ∀ k, ¬ S (q + 1) k ∧ ¬ S (q + 2) k) : Qx q w qb qs τ :=
  ⟨by rw [e.I a.1]; exact h.1, fun k hk => ⟨by rw [e.I (a.2 k).1]; exact (h.2 k hk).1, by rw [e.J (a.2 k).2]; exact (h.2 k hk).2⟩⟩
theorem Qm_fr {S : Nat → Nat → Prop} {w : Nat} {qb qs : Nat → Nat} {σ τ : fqS} (h : Qm w qb qs σ) (e : eqW S σ τ) (a : ¬ S 0 11 ∧ ∀ k, ¬ S 6 k ∧ ¬ S 7 k) : Qm w qb qs τ :=
  ⟨by rw [e.I a.1]; exact h.1, fun k hk => ⟨by rw [e.I (a.2 k).1]; exact (h.2 k hk).1, by rw [e.I (a.2 k).2]; exact (h.2 k hk).2⟩⟩
theorem Qm_congr {w : Nat} {qb qs qb' qs' : Nat → Nat} {σ : fqS} (h : Qm w qb qs σ) (e : ∀ i, i < w → qb' i = qb i ∧ qs' i = qs i) : Qm w qb' qs' σ :=
  ⟨h.1, fun k hk => by rw [(e k hk).1, (e k hk).2]; exact h.2 k hk⟩
theorem Qx_congr {q w : Nat} {qb qs qb' qs' : Nat → Nat} {σ : fqS} (h : Qx q w qb qs σ) (e : ∀ i, i < w → qb' i = qb i ∧ qs' i = qs i) : Qx q w qb' qs' σ :=
  ⟨h.1, fun k hk => by rw [(e k hk).1, (e k hk).2]; exact h.2 k hk⟩
theorem Qf_lt {n t w : Nat} {qb qs : Nat → Nat} (hn : n ≤ 16) (h : Qf n t w qb qs) {k : Nat} (hk : k < w) : qb k < 65536 := Nat.lt_of_lt_of_le (h.2.1 k hk).2.1 (p2n hn)
theorem partyAt_in {K n q w : Nat} {qb qs : Nat → Nat} {σ : fqS} (h : Qx q w qb qs σ) (hw : w ≤ 10) {i : Nat} (hi : i < w) : pX7_partyAt K n σ q (nI i) = some (nI (qb i)) := by
  unfold pX7_partyAt
  rw [h.1]
  simp (disch := omega) only [z10, nI_leI, nI_ltI, nI_eq, nI_clamp, nI_add, nI_n0, nI_e0, nI_p0, nI_l0, nI_g0, false_or, if_true, if_false, ite_t, ite_f, (h.2 i hi).1]
theorem partyAt_out {K n q w : Nat} {qb qs : Nat → Nat} {σ : fqS} (h : Qx q w qb qs σ) (hw : w ≤ 10) {i : Nat} (hi : w ≤ i) (h10 : i < 10) : pX7_partyAt K n σ q (nI i) = some 0 := by
  unfold pX7_partyAt
  rw [h.1]
  simp (disch := omega) only [z10, nI_leI, nI_ltI, nI_eq, nI_clamp, nI_add, nI_n0, nI_e0, nI_p0, nI_l0, nI_g0, false_or, if_true, if_false, ite_t, ite_f]
theorem sinceAt_in {K n q w : Nat} {qb qs : Nat → Nat} {σ : fqS} (h : Qx q w qb qs σ) (hw : w ≤ 10) {i : Nat} (hi : i < w) : pX7_sinceAt K n σ q (nI i) = some (lN (qs i)) := by
  unfold pX7_sinceAt
  rw [h.1]
  simp (disch := omega) only [z10, nI_leI, nI_ltI, nI_eq, nI_clamp, nI_add, nI_n0, nI_e0, nI_p0, nI_l0, nI_g0, false_or, if_true, if_false, ite_t, ite_f, (h.2 i hi).2]
theorem sinceAt_out {K n q w : Nat} {qb qs : Nat → Nat} {σ : fqS} (h : Qx q w qb qs σ) (hw : w ≤ 10) {i : Nat} (hi : w ≤ i) (h10 : i < 10) : pX7_sinceAt K n σ q (nI i) = some 0 := by
  unfold pX7_sinceAt
  rw [h.1]
  simp (disch := omega) only [z10, nI_leI, nI_ltI, nI_eq, nI_clamp, nI_add, nI_n0, nI_e0, nI_p0, nI_l0, nI_g0, false_or, if_true, if_false, ite_t, ite_f]
theorem place_both {K n N w p : Nat} {qb qs : Nat → Nat} {sx sm : fqS} (hK : 16 < K) (hw : w ≤ 10) (hx : Qx 4 w qb qs sx) (hm : Qm w qb qs sm) (hb : ∀ k, k < w → qb k < 65536) (hp : p < 16) : (pX7_placeOf K n sx 4 (nI (2 ^ p)) = some (-1) ∧ pX9_partyOf K N sm (nI p) = some (-1) ∧ ∀ k, k < w → (qb k).testBit p = false) ∨ ∃ k, k < w ∧ (qb k).testBit p = true ∧ pX7_placeOf K n sx 4 (nI (2 ^ p)) = some (nI k) ∧ pX9_partyOf K N sm (nI p) = some (nI k) := by
  have hp16 := p16 hp
  have stepX : ∀ j, j < 10 → (j < w → (qb j).testBit p = false) → ∀ rec, pX7_placeOf_L2b K n sx 4 (nI (2 ^ p)) rec (nI j) = rec (nI (j + 1)) := by
    intro j hj hno rec
    rcases Nat.lt_or_ge j w with h | h
    · have e : nI (qb j) &&& nI (2 ^ p) = 0 := by rw [nI_and, and2p.mpr (hno h)]; rfl
      simp (disch := omega) only [pX7_placeOf_L2b, z10, nI_leI, ite_f, partyAt_in hx hw h, Option.bind_some, e, if_true, nI_1]
    · have e : (0 : Int32) &&& nI (2 ^ p) = 0 := Int32.zero_and
      simp (disch := omega) only [pX7_placeOf_L2b, z10, nI_leI, ite_f, partyAt_out hx hw h hj, Option.bind_some, e, if_true, nI_1]
  have stepM : ∀ j, j < w → (qb j).testBit p = false → ∀ rec, pX9_partyOf_L2b K N sm (nI p) rec (nI j) = rec (nI (j + 1)) := by
    intro j hj hno rec
    have hbj := hb j hj
    have e := (nI_bit1 (B := qb j) (p := p) (by omega) (by omega))
    rw [hno] at e
    have e2 : ¬ (nI (qb j) >>> (nI p &&& 31)) &&& 1 = 1 := fun q => by cases e.mp q
    unfold pX9_partyOf_L2b
    rw [hm.1, ite_f (by rw [nI_leI (by omega) (by omega)]; omega), ite_f (nI_in (show j < 10 by omega) (by omega)), nI_clamp (by omega), (hm.2 j hj).1, ite_f e2, nI_1]
  rcases Classical.em (∃ k, k < w ∧ (qb k).testBit p = true) with hex | hno
  · obtain ⟨k, ⟨hk, hbt⟩, hmin⟩ := pk_least (fun k => k < w ∧ (qb k).testBit p = true) hex
    have hmin' : ∀ j, j < k → (qb j).testBit p = false := fun j hj => by
      cases e : (qb j).testBit p with
      | false => rfl
      | true => exact absurd ⟨by omega, e⟩ (hmin j hj)
    have hbk := hb k hk
    refine Or.inr ⟨k, hk, hbt, ?_, ?_⟩
    · unfold pX7_placeOf pX7_placeOf_L2
      refine fqL_go (fun j => nI j) k rfl (by omega) ?_ (fun j hj => stepX j (by omega) (fun _ => hmin' j hj))
      intro rec
      have e : ¬ nI (qb k) &&& nI (2 ^ p) = 0 := by
        have l : qb k &&& 2 ^ p ≤ qb k := Nat.and_le_left
        rw [nI_and, nI_e0 (by omega), and2p, hbt]
        decide
      simp (disch := omega) only [pX7_placeOf_L2b, z10, nI_leI, ite_f, partyAt_in hx hw hk, Option.bind_some, if_neg e]
    · unfold pX9_partyOf pX9_partyOf_L2
      refine fqL_go (fun j => nI j) k rfl (by omega) ?_ (fun j hj => stepM j (by omega) (hmin' j hj))
      intro rec
      have e := (nI_bit1 (B := qb k) (p := p) (by omega) (by omega)).mpr hbt
      unfold pX9_partyOf_L2b
      rw [hm.1, ite_f (by rw [nI_leI (by omega) (by omega)]; omega), ite_f (nI_in (show k < 10 by omega) (by omega)), nI_clamp (by omega), (hm.2 k hk).1, ite_t e]
  · have hno2 : ∀ k, k < w → (qb k).testBit p = false := fun k hk => by
      cases e : (qb k).testBit p with
      | false => rfl
      | true => exact absurd ⟨k, hk, e⟩ hno
    refine Or.inl ⟨?_, ?_, hno2⟩
    · unfold pX7_placeOf pX7_placeOf_L2
      refine fqL_go (fun j => nI j) 10 rfl (by omega) ?_ (fun j hj => stepX j hj (hno2 j))
      intro rec
      simp (disch := omega) only [pX7_placeOf_L2b, z10, nI_leI, ite_t]
    · unfold pX9_partyOf pX9_partyOf_L2
      refine fqL_go (fun j => nI j) w rfl (by omega) ?_ (fun j hj => stepM j hj (hno2 j hj))
      intro rec
      unfold pX9_partyOf_L2b
      rw [hm.1, ite_t (by rw [nI_leI (by omega) (by omega)]; omega)]
theorem wsub {a b : Nat} (ha : a < 2 ^ 30) (hb : b < 2 ^ 30) : Int32.toInt64 (nI a - nI b) = lN a - lN b := by
  apply Int64.toInt_inj.mp
  rw [Int32.toInt_toInt64, pk_sub_toInt ha hb, Int64.toInt_sub, lN_toInt (by omega), lN_toInt (by omega)]
  exact (Int.bmod_eq_of_le (by omega) (by omega)).symm
theorem bound_both {K n t w : Nat} {qb qs : Nat → Nat} {sx sm : fqS} (ht : t ≤ 512) (hb : Rb sx sm) (hT : Rt t sx sm) (hm : Qm w qb qs sm) (hw : w ≤ 10) {k : Nat} (hk : k < w) (hs : qs k ≤ t) : ∃ v, pX0_behind K n sx (fqJ sx 0 12 - lN (qs k)) = some v ∧ pX9_boundOf K 0 sm (nI k) = some v := by
  obtain ⟨a, b, c, h1, h2, h3, h4, h5, h6, h7, h8, h9⟩ := hb
  obtain ⟨tk, t1, t2, t3⟩ := hT
  refine ⟨_, rfl, ?_⟩
  unfold pX9_boundOf
  rw [ite_f (nI_in (show k < 10 by omega) (by omega)), nI_clamp (by omega), (hm.2 k hk).2, t3, wsub (by omega) (by omega), h5, h7, h9, nI_l (by omega), nI_l (by omega), nI_l (by omega), t2, h4, h6, h8]
  generalize lN a + lN b * (lN tk - lN (qs k)) = x
  by_cases q : lN c < x
  · rw [if_pos (Int64.le_of_lt q), if_pos q]
  · rw [if_neg q]
    by_cases q2 : lN c ≤ x
    · rw [if_pos q2, Int64.le_antisymm q2 (Int64.not_lt.mp q)]
    · rw [if_neg q2]
theorem st_waited (K : Nat) (hK : 16 < K) : lwS_waited Rel K := by
  intro t n sx sm x1 x2 ht hR hx2
  obtain ⟨hn, hNx, hNm⟩ := hR.1
  by_cases hin : x1 < 0 ∨ nI n ≤ x1
  · refine both_bad (bnd_1 (K := K) hR) ?_ ?_
    · simp only [pX8_waited, atX_out hNx hin, Option.bind_some, fqM_none]
    · simp only [pX9_waited, isPl_out hNm hn hin, Option.bind_some, if_true]
  rcases pk_ix x1 (n := n) (by omega) with h | h | ⟨p, hp, rfl⟩
  · exact absurd (Or.inl h) hin
  · exact absurd (Or.inr h) hin
  obtain ⟨w, qb, qs, hf, hx, hm⟩ := Rq_to hR.2.2.2.2.2.2.1
  have hb9 : ∀ k, k < w → qb k < 65536 := fun k hk => Qf_lt hn hf hk
  rcases place_both (n := n) (N := 0) hK hf.1 hx hm hb9 (show p < 16 by omega) with ⟨e1, e2, _⟩ | ⟨k, hk, hbt, e1, e2⟩
  · refine both_bad (bnd_2 (K := K) hR) ?_ ?_
    · simp (disch := omega) only [pX8_waited, atX_in hNx hn hp, Option.bind_some, fqM_some, ite_t, bitOf_eq, e1, if_neg (show ¬ (0 : Int32) ≤ -1 by decide)]
    · simp (disch := omega) only [pX9_waited, isPl_in hNm hn hp, Option.bind_some, c10, if_false, e2, if_neg (show ¬ (0 : Int32) ≤ -1 by decide)]
  · have hs := (hf.2.1 k hk).2.2
    have hw := hf.1
    obtain ⟨v, v1, v2⟩ := bound_both (K := K) (n := n) (by omega) hR.2.2.2.2.1 hR.2.2.2.2.2.1 hm hf.1 hk hs
    rcases hx2 with rfl | rfl
    · obtain ⟨tk, t1, t2, t3⟩ := hR.2.2.2.2.2.1
      refine ⟨lN tk - lN (qs k), sx, sm, ?_, ?_, Rel_up hR⟩
      · simp (disch := omega) only [pX8_waited, atX_in hNx hn hp, Option.bind_some, fqM_some, ite_t, bitOf_eq, e1, nI_p0, if_true, sinceAt_in hx hf.1 hk, t2]
      · simp (disch := omega) only [pX9_waited, isPl_in hNm hn hp, Option.bind_some, c10, if_false, e2, nI_p0, if_true, nI_n0, false_or, nI_clamp, ite_f, t3, (hm.2 k hk).2, wsub]
    · refine ⟨v, sx, sm, ?_, ?_, Rel_up hR⟩
      · simp (disch := omega) only [pX8_waited, atX_in hNx hn hp, Option.bind_some, fqM_some, ite_t, bitOf_eq, e1, nI_p0, if_true, sinceAt_in hx hf.1 hk, c10, if_false, v1]
      · simp (disch := omega) only [pX9_waited, isPl_in hNm hn hp, Option.bind_some, c10, if_false, e2, nI_p0, if_true, v2]
