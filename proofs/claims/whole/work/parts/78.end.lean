/-! end -/
def RelM (m0 t n : Nat) (sx sm : fqS) : Prop := Rn n sx sm ∧ Rp n sx sm ∧ Rz n sm ∧ Rs sx sm ∧ Rb sx sm ∧ Rt t sx sm ∧ Rq n t sx sm ∧ (∀ m, m < 5 → m ≠ m0 → (Rmo sx sm m ∨ ∃ f s d k, Rmi n t sx sm m f s d k)) ∧ Re t sx sm ∧ Rl sx sm ∧ Rc sx sm ∧ Rf t sx sm
theorem RelM_of {m0 t n : Nat} {sx sm : fqS} (h : Rel t n sx sm) : RelM m0 t n sx sm := by
  obtain ⟨a1, a2, a3, a4, a5, a6, a7, a8, a9, a10, a11, a12⟩ := h
  exact ⟨a1, a2, a3, a4, a5, a6, a7, fun m hm _ => a8 m hm, a9, a10, a11, a12⟩
theorem und_both {t n m0 : Nat} {sx sm sm' : fqS} (hR : RelM m0 t n sx sm) (h2 : ∀ p, fqI sm' 2 p = fqI sm 2 p) (B : Nat) : accN (cM sm' B) n = accN (cX sx B) n := by
  refine accN_congr (fun p hp => ?_)
  obtain ⟨⟨kd, k1, k2, k3⟩, _, _⟩ := hR.2.1 p hp
  unfold cM cX
  rw [h2, k3, k2]
theorem gp_X {t n m0 : Nat} {sx sm : fqS} (hR : RelM m0 t n sx sm) : gpX n sx ∧ ∀ p, p < n → gpK sx p := by
  refine ⟨fun p hp => ?_, fun p hp => ?_⟩
  · obtain ⟨⟨kd, k1, k2, k3⟩, ⟨sh, s1, s2⟩, _⟩ := hR.2.1 p hp
    exact ⟨⟨kd, k1, k2⟩, sh, s1, fun l hl => (s2 l hl).1⟩
  · obtain ⟨_, _, ⟨kp, u1, u2, u3, u4⟩⟩ := hR.2.1 p hp
    exact ⟨kp, u1, u2⟩
theorem gp_M {t n m0 : Nat} {sx sm sm' : fqS} (hR : RelM m0 t n sx sm) (hw : eqW (fun c _ => c = 14) sm sm') (h : ∀ i, i < 112 → fqJ sm' 14 i = fqJ sm 3 i) : gpM n sm' ∧ (∀ p, p < n → gpN sm' p) ∧ ∀ p, p < n → ∀ l, l < 7 → SM sm' p l = SX sx p l := by
  have hn := hR.1.1
  refine ⟨fun p hp => ?_, fun p hp => ?_, fun p hp l hl => ?_⟩
  · obtain ⟨_, ⟨sh, s1, s2⟩, _⟩ := hR.2.1 p hp
    exact ⟨sh, s1, fun l hl => by unfold SM; rw [h _ (by omega)]; exact (s2 l hl).2⟩
  · obtain ⟨⟨kd, k1, k2, k3⟩, ⟨sh, s1, s2⟩, ⟨kp, u1, u2, u3, u4⟩⟩ := hR.2.1 p hp
    exact ⟨⟨kp, u1, by rw [hw.I (by omega)]; exact u3⟩, ⟨kd, k1, by rw [hw.I (by omega)]; exact k3⟩, sh, s1, fun l hl => (hw.J (by omega)).trans (s2 l hl).2⟩
  · obtain ⟨_, ⟨sh, s1, s2⟩, _⟩ := hR.2.1 p hp
    unfold SM SX
    rw [h _ (by omega), (s2 l hl).2, (s2 l hl).1]
/-- a player after a result on both sides -/
theorem pl_both {t n m0 : Nat} {sx sm sx' sm' τ : fqS} (hR : RelM m0 t n sx sm) (hw : eqW (fun c _ => c = 14) sm τ) (hsh : ∀ p, p < n → ∀ l, l < 7 → SM τ p l = SX sx p l) {p : Nat} (hp : p < n) {r U : Nat} (hr : r < 3) (hU : U < 2 ^ n) (hx : rkX sx sx' p r U) (hxs : ∀ l, l < 7 → fqJ sx' (26 + 4 * p + 1) l = fqJ sx' (26 + 4 * p + 2) l) (hm : rkM τ sm' p r U) (hU0 : U ≠ 0) : (∃ sh, Rh sx' sm' p sh) ∧ ∃ kp, Ru sx' sm' p kp := by
  have hn := hR.1.1
  obtain ⟨⟨kd, k1, k2, k3⟩, ⟨sh, s1, s2⟩, ⟨kp, u1, u2, u3, u4⟩⟩ := hR.2.1 p hp
  obtain ⟨kp1, kd1, a1, a2, a3, a4, a5, a6, a7⟩ := hx
  obtain ⟨kp2, kd2, b1, b2, b3, b4, b5, b6, b7⟩ := hm
  have e1 : kp1 = kp := (nI_eq (by omega) (by omega)).mp (a3.symm.trans u2)
  have e2 : kd1 = kd := (nI_eq (by omega) (by omega)).mp (a4.symm.trans k2)
  have e3 : kp2 = kp := (nI_eq (by omega) (by omega)).mp (b3.symm.trans ((hw.I (by omega)).trans u3))
  have e4 : kd2 = kd := (nI_eq (by omega) (by omega)).mp (b4.symm.trans ((hw.I (by omega)).trans k3))
  subst e1 e2 e3 e4
  have oT : okT (SX sx p) := ⟨sh, s1, fun l hl => (s2 l hl).1⟩
  have oF : okF (fun l => fac r (cAt (SX sx) U l)) := okF_fac r hn hU hU0 (fun q hq => by
    obtain ⟨_, ⟨sh, s1, s2⟩, _⟩ := hR.2.1 q hq
    exact ⟨sh, s1, fun l hl => (s2 l hl).1⟩)
  obtain ⟨sh', t1, t2⟩ := mvK_ok (kd := kd2) oT oF
  refine ⟨⟨sh', t1, fun l hl => ⟨?_, ?_⟩⟩, upK kp2, upK_le a1, a5, b5, fun i hi => ?_⟩
  · rw [hxs l hl, a7 l hl]; exact t2 l hl
  · rw [b7 l hl, ← t2 l hl]
    refine mvK_congr (fun i hi => ?_) (fun i hi => ?_) hl
    · show fqJ τ 3 (7 * p + i) = fqJ sx (26 + 4 * p + 1) i
      rw [hw.J (by omega), (s2 i hi).2, (s2 i hi).1]
    · show fac r (cAt (SM τ) U i) = fac r (cAt (SX sx) U i)
      rw [cAt_congr hU hsh]
  · rw [a6 i hi, b6 i hi]
    refine sv_congr (fun i hi => ?_) ?_ a1 hi
    · show fqJ sx (26 + 4 * p + 3) i = fqJ τ 4 (8 * p + i)
      rw [hw.J (by omega)]
      exact u4 i hi
    · rw [cOf_congr hU hsh hp]
theorem fin_both {t n K m f s d r : Nat} {sx sm : fqS} (hK : 112 < K) (hm : m < 5) (hR : RelM m t n sx sm) (hf : f < 2 ^ n) (hs : s < 2 ^ n) (hd : d < 2 ^ n) (hfs : f &&& s = 0) (hr : r < 3) (x0 : fqI sx (18 + m) 0 = nI f) (x1 : fqI sx (18 + m) 1 = nI s) (x2 : fqI sx (18 + m) 2 = nI d) (y0 : fqI sm 9 m = nI f) (y1 : fqI sm 10 m = nI s) (y2 : fqI sm 11 m = nI d) : ∃ c sx' sm', pX2_finish K n sx m (nI r) = some (nI c, sx') ∧ pX9_endMatch K 0 sm (nI m) (nI r) = some (nI c, sm') ∧ Rel (t + 1) n sx' sm' := by
  obtain ⟨hn, hNx, hNm⟩ := hR.1
  obtain ⟨τ, l1, l2, l3⟩ := layAside_eq K sm hK
  obtain ⟨gX, gK⟩ := gp_X hR
  obtain ⟨gM, gN, gS⟩ := gp_M hR l2 l3
  have h2 : ∀ p, fqI τ 2 p = fqI sm 2 p := fun p => l2.I (by omega)
  obtain ⟨sx', a1, a2, a3, a4, a5, a6, a7⟩ := finX_eq K n sx m f s d r hm hn hNx (by omega) hf hs hfs hr gX gK x0 x1 x2
  obtain ⟨sm', b1, b2, b3, b4, b5⟩ := endM_eq K n τ m f s d r hm hn (by rw [l2.I (by omega)]; exact hNm) (by omega) hf hs hd hfs hr gM gN (by rw [l2.I (by omega)]; exact y0) (by rw [l2.I (by omega)]; exact y1) (by rw [l2.I (by omega)]; exact y2)
  rw [und_both hR h2, und_both hR h2] at b1 b5
  have lUs : accN (cX sx s) n < 2 ^ n := accN_lt _ _
  have lUf : accN (cX sx f) n < 2 ^ n := accN_lt _ _
  obtain ⟨Us, hUs⟩ : ∃ Us, Us = accN (cX sx s) n := ⟨_, rfl⟩
  obtain ⟨Uf, hUf⟩ : ∃ Uf, Uf = accN (cX sx f) n := ⟨_, rfl⟩
  rw [← hUs] at a1 a7 b1 b5 lUs
  rw [← hUf] at a1 a7 b1 b5 lUf
  refine ⟨_, sx', sm', a1, ?_, ?_⟩
  · simp only [pX9_endMatch, l1, Option.bind_some]
    exact b1
  · have hwm : eqW (fun c j => c = 14 ∨ waM n c j ∨ (c = 8 ∧ j = m) ∨ (c = 0 ∧ j = 19)) sm sm' := (l2.mono (fun c j h => Or.inl h)).tr (b2.mono (fun c j h => Or.inr h))
    obtain ⟨_, hp, hz, hS, hb, htt, ⟨w, w1, w2, w3, qb, qs, w4, w5⟩, hmm, ⟨e, e1, e2, e3⟩, hl, hc, hF⟩ := hR
    have RX : ∀ c j, wfX m c j → ((c = 3 ∨ 26 ≤ c) ∨ c = 18 + m ∨ (c = 16 ∧ j = 1)) := fun c j h => by unfold wfX waX at h; omega
    refine ⟨⟨hn, ?_, ?_⟩, ?_, ?_, ?_, ?_, ?_, ?_, ?_, ?_, ?_, ?_, ?_⟩
    · rw [a2.I (by unfold wfX waX; omega)]; exact hNx
    · rw [hwm.I (by unfold waM; omega)]; exact hNm
    · intro p hpn
      obtain ⟨⟨kd, k1, k2, k3⟩, ⟨sh, s1, s2⟩, ⟨kp, u1, u2, u3, u4⟩⟩ := hp p hpn
      refine ⟨⟨kd, k1, ?_, ?_⟩, ?_⟩
      · rw [a2.I (by unfold wfX waX; omega)]; exact k2
      · rw [hwm.I (by unfold waM; omega)]; exact k3
      · have q1 := a7 p hpn
        have q2 := b5 p hpn
        have hcase : ocF f s d Us Uf r p = none ∨ (ocF f s d Us Uf r p = some (r, Us) ∧ Us ≠ 0) ∨ (ocF f s d Us Uf r p = some (2 - r, Uf) ∧ Uf ≠ 0) := by
          unfold ocF upO
          by_cases c2 : (adn s d).testBit p = true ∧ Uf ≠ 0
          · rw [if_pos c2]; exact Or.inr (Or.inr ⟨rfl, c2.2⟩)
          · rw [if_neg c2]
            by_cases c1 : (adn f d).testBit p = true ∧ Us ≠ 0
            · rw [if_pos c1]; exact Or.inr (Or.inl ⟨rfl, c1.2⟩)
            · rw [if_neg c1]; exact Or.inl rfl
        rcases hcase with ho | ⟨ho, h0⟩ | ⟨ho, h0⟩
        · rw [ho] at q1 q2
          obtain ⟨p1, p2, p3⟩ := q1
          obtain ⟨r1, r2, r3⟩ := q2
          refine ⟨⟨sh, s1, fun l hl => ⟨by rw [p3 l hl]; exact (s2 l hl).1, by rw [r3 l hl, l2.J (by omega)]; exact (s2 l hl).2⟩⟩, kp, u1, by rw [p1]; exact u2, by rw [r1, l2.I (by omega)]; exact u3, fun i hi => ?_⟩
          rw [p2 i, r2 i (by omega), l2.J (by omega)]
          exact u4 i hi
        · rw [ho] at q1 q2
          exact pl_both (m0 := m) (t := t) ⟨⟨hn, hNx, hNm⟩, hp, hz, hS, hb, htt, ⟨w, w1, w2, w3, qb, qs, w4, w5⟩, hmm, ⟨e, e1, e2, e3⟩, hl, hc, hF⟩ l2 gS hpn hr lUs q1.1 q1.2 q2 h0
        · rw [ho] at q1 q2
          exact pl_both (m0 := m) (t := t) ⟨⟨hn, hNx, hNm⟩, hp, hz, hS, hb, htt, ⟨w, w1, w2, w3, qb, qs, w4, w5⟩, hmm, ⟨e, e1, e2, e3⟩, hl, hc, hF⟩ l2 gS hpn (by omega) lUf q1.1 q1.2 q2 h0
    · intro p h1 h2
      rw [hwm.I (by unfold waM; omega)]
      exact hz p h1 h2
    · exact Rs_fr hS a2 hwm (fun h => by have := RX _ _ h; omega) (by unfold waM; omega)
    · exact Rb_fr hb a2 hwm (fun k h => by have := RX _ _ h; omega) (by unfold waM; omega)
    · obtain ⟨k, h1, h2, h3⟩ := Rt_fr htt a2 hwm (fun h => by have := RX _ _ h; omega) (by unfold waM; omega)
      exact ⟨k, by omega, h2, h3⟩
    · obtain ⟨w, w1, w2, w3, qb, qs, w4, w5⟩ := Rq_fr (n := n) (t := t) ⟨w, w1, w2, w3, qb, qs, w4, w5⟩ a2 hwm ⟨fun h => by have := RX _ _ h; omega, fun k => ⟨fun h => by have := RX _ _ h; omega, fun h => by have := RX _ _ h; omega⟩⟩ ⟨by unfold waM; omega, fun k => by unfold waM; omega⟩
      refine ⟨w, w1, w2, w3, qb, qs, fun k hk => ?_, w5⟩
      obtain ⟨g1, g2, g3, g4⟩ := w4 k hk
      exact ⟨g1, g2, by omega, g4⟩
    · intro m' hm'
      by_cases e : m' = m
      · subst e
        exact Or.inl ⟨b3, a3, a4, a5⟩
      · rcases Rm_fr1 (hmm m' hm' e) a2 hwm (fun k h => by have := RX _ _ h; omega) (fun c h1 h2 => by unfold waM; omega) with g | ⟨f, s, d, k, g1, g2, g3, g4, g5, g6, g7, g8, g9⟩
        · exact Or.inl g
        · exact Or.inr ⟨f, s, d, k, g1, g2, g3, g4, g5, g6, g7, by omega, g9⟩
    · refine ⟨e + 1, by omega, ?_, ?_⟩
      · rw [a6, e2, lN_1]
      · rw [b4, l2.I (by omega), e3, nI_1]
    · exact Rl_fr hl a2 hwm (fun h => by have := RX _ _ h; omega) (by unfold waM; omega)
    · exact Rc_fr hc a2 hwm ⟨fun h => by have := RX _ _ h; omega, fun k h => by have := RX _ _ h; omega⟩ ⟨by unfold waM; omega, fun k => by unfold waM; omega⟩
    · intro j h1 h5
      obtain ⟨x, g1, g2, g3⟩ := Rf_fr hF a2 hwm (fun k h => by have := RX _ _ h; omega) (fun k => by unfold waM; omega) j h1 h5
      exact ⟨x, by omega, g2, g3⟩
theorem st_end (K : Nat) (hK : 112 < K) : lwS_end Rel K := by
  intro t n sx sm x1 x2 ht hR
  obtain ⟨hn, hNx, hNm⟩ := hR.1
  have h16 := p2n hn
  rcases pk_ix x1 (n := 5) (by omega) with h | h | ⟨m, hm, rfl⟩
  · refine both_bad (bnd_1 (K := K) hR) ?_ ?_
    · simp only [pX8_end, atP_out (Or.inl h), Option.bind_some, fqM_none, fqM_some, fqB2_some, fqN_eq, c10, c00, if_true, if_false]
    · simp only [pX9_end, isPM_out (Or.inl h), Option.bind_some, fqM_none, fqM_some, fqB2_some, fqN_eq, c10, c00, if_true, if_false]
  · refine both_bad (bnd_1 (K := K) hR) ?_ ?_
    · simp only [pX8_end, atP_out (Or.inr h), Option.bind_some, fqM_none, fqM_some, fqB2_some, fqN_eq, c10, c00, if_true, if_false]
    · simp only [pX9_end, isPM_out (Or.inr h), Option.bind_some, fqM_none, fqM_some, fqB2_some, fqN_eq, c10, c00, if_true, if_false]
  have b1 := inM32 K 0 sm x2 0 2 (A := 0) (C := 2) rfl rfl
  by_cases h1 : ¬ (0 ≤ x2 ∧ x2 ≤ 2)
  · rw [if_neg h1] at b1
    refine both_bad (bnd_1 (K := K) hR) ?_ ?_
    · by_cases h : x2 < 0
      · simp only [pX8_end, atP_in hm, Option.bind_some, fqM_none, fqM_some, fqB2_some, fqN_eq, c10, c00, if_true, if_false, if_pos hm, if_pos h]
      · simp only [pX8_end, atP_in hm, Option.bind_some, fqM_none, fqM_some, fqB2_some, fqN_eq, c10, c00, if_true, if_false, if_pos hm, if_neg h, if_neg (fun q => h1 ⟨Int32.not_lt.mp h, q⟩)]
    · simp only [pX9_end, isPM_in hm, b1, Option.bind_some, fqM_none, fqM_some, fqB2_some, fqN_eq, c10, c00, if_true, if_false]
  replace h1 := Classical.not_not.mp h1
  rw [if_pos h1] at b1
  have a1 : ¬ x2 < 0 := Int32.not_lt.mpr h1.1
  rcases hR.2.2.2.2.2.2.2.1 m hm with ⟨g1, g2, g3, g4⟩ | ⟨f, s, d, k, hmi⟩
  · refine both_bad (bnd_2 (K := K) hR) ?_ ?_
    · simp (disch := omega) only [pX8_end, pX1_goesOn, atP_in hm, Option.bind_some, fqM_none, fqM_some, fqB2_some, fqN_eq, c10, c00, if_true, if_false, if_pos hm, if_neg a1, if_pos h1.2, g2, nI_0]
    · simp (disch := omega) only [pX9_end, isPM_in hm, b1, Option.bind_some, fqM_none, fqM_some, fqB2_some, fqN_eq, c10, c00, if_true, if_false, nI_leI, nI_ltI, nI_eq, nI_clamp, nI_add, nI_n0, nI_e0, nI_p0, nI_l0, nI_g0, false_or, if_true, if_false, ite_t, ite_f, g1]
  obtain ⟨f0, s0⟩ := Rmi_f0 hmi
  obtain ⟨g1, g2, g3, g4, g5, g6, g7, g8, g9, g10, g11, g12, g13, g14, g15, g16⟩ := hmi
  have hg : pX1_goesOn K n sx m = some 1 := by
    unfold pX1_goesOn
    rw [g9, if_neg (by rw [nI_e0 (by omega)]; exact f0)]
  obtain ⟨r, hr, rfl⟩ := rng_nI (b := 2) (by omega) h1
  obtain ⟨c, sx', sm', q1, q2, q3⟩ := fin_both (K := K) (r := r) hK hm (RelM_of hR) g2 g3 g4 g5 (by omega) g9 g11 g13 g10 g12 g14
  have h2' : nI r ≤ 2 := h1.2
  refine ⟨Int32.toInt64 (nI c), sx', sm', ?_, ?_, q3⟩
  · simp (disch := omega) only [pX8_end, atP_in hm, Option.bind_some, fqM_none, fqM_some, fqB2_some, fqN_eq, c10, c00, if_true, if_false, if_pos hm, if_neg a1, if_pos h2', hg, q1]
  · simp (disch := omega) only [pX9_end, isPM_in hm, b1, Option.bind_some, fqM_none, fqM_some, fqB2_some, fqN_eq, c10, c00, if_true, if_false, nI_leI, nI_ltI, nI_eq, nI_clamp, nI_add, nI_n0, nI_e0, nI_p0, nI_l0, nI_g0, false_or, if_true, if_false, ite_t, ite_f, g1, q2]
