/-! drop -/
theorem and2p {a p : Nat} : (a &&& 2 ^ p = 0) ↔ a.testBit p = false := by
  constructor
  · intro h
    have e : (a &&& 2 ^ p).testBit p = false := by rw [h, Nat.zero_testBit]
    rw [Nat.testBit_and, bit_2p] at e
    simpa using e
  · intro h
    apply Nat.eq_of_testBit_eq
    intro i
    rw [Nat.zero_testBit, Nat.testBit_and, bit_2p]
    by_cases q : p = i
    · subst q; rw [h]; rfl
    · simp [q]
theorem p16 {p : Nat} (h : p < 16) : 2 ^ p < 65536 := by
  have q : 2 ^ p < 2 ^ 16 := Nat.pow_lt_pow_right (by omega) h
  exact q
def onM (n t : Nat) (sx sm : fqS) (p m : Nat) : Prop := m < 5 ∧ ∃ f s d k, Rmi n t sx sm m f s d k ∧ (f ||| s).testBit p = true ∧ d.testBit p = false
theorem with_both {t n K p : Nat} {sx sm : fqS} (hK : 16 < K) (hR : Rel t n sx sm) (hp : p < n) : (pX2_withPlayer K n sx (nI (2 ^ p)) = some none ∧ pX9_matchOf K 0 sm (nI p) = some (-1) ∧ ∀ m, ¬ onM n t sx sm p m) ∨ ∃ m, onM n t sx sm p m ∧ pX2_withPlayer K n sx (nI (2 ^ p)) = some (some m) ∧ pX9_matchOf K 0 sm (nI p) = some (nI m) := by
  obtain ⟨hn, hNx, hNm⟩ := hR.1
  have h16 := p2n hn
  have hp16 := p16 (show p < 16 by omega)
  have hM := hR.2.2.2.2.2.2.2.1
  have stepX : ∀ m, m < 5 → ¬ onM n t sx sm p m → ∀ rec, pX2_withPlayer_L2b K n sx (nI (2 ^ p)) rec (nI m) = rec (nI (m + 1)) := by
    intro m hm hno rec
    rcases hM m hm with ⟨g1, g2, g3, g4⟩ | ⟨f, s, d, k, hmi⟩
    · have e : (((nI 0 ||| nI 0) &&& (nI 0 ^^^ (-1 : Int32))) &&& nI (2 ^ p)) = 0 := by
        rw [nI_or, nI_adn, nI_and, and2p.mpr (by rw [adn_bit (by omega)]; simp)]
        rfl
      simp (disch := omega) only [pX2_withPlayer_L2b, pX1_playing, z5, nI_leI, nI_ltI, nI_eq, nI_clamp, nI_add, nI_n0, nI_e0, nI_p0, nI_l0, nI_g0, false_or, if_true, if_false, ite_t, ite_f, g2, g3, g4, Option.bind_some, e, nI_1]
    · obtain ⟨g1, g2, g3, g4, g5, g6, g7, g8, g9, g10, g11, g12, g13, g14, g15, g16⟩ := id hmi
      have e : (((nI f ||| nI s) &&& (nI d ^^^ (-1 : Int32))) &&& nI (2 ^ p)) = 0 := by
        rw [nI_or, nI_adn, nI_and, and2p.mpr]
        · rfl
        · rw [adn_bit (by omega)]
          cases a : (f ||| s).testBit p with
          | false => rfl
          | true =>
            cases b : d.testBit p with
            | true => rfl
            | false => exact absurd ⟨hm, f, s, d, k, hmi, a, b⟩ hno
      simp (disch := omega) only [pX2_withPlayer_L2b, pX1_playing, z5, nI_leI, nI_ltI, nI_eq, nI_clamp, nI_add, nI_n0, nI_e0, nI_p0, nI_l0, nI_g0, false_or, if_true, if_false, ite_t, ite_f, g9, g11, g13, Option.bind_some, e, nI_1]
  have stepM : ∀ m, m < 5 → ¬ onM n t sx sm p m → ∀ rec, pX9_matchOf_L2b K 0 sm (nI p) rec (nI m) = rec (nI (m + 1)) := by
    intro m hm hno rec
    rcases hM m hm with ⟨g1, g2, g3, g4⟩ | ⟨f, s, d, k, hmi⟩
    · simp (disch := omega) only [pX9_matchOf_L2b, z5, nI_leI, nI_ltI, nI_eq, nI_clamp, nI_add, nI_n0, nI_e0, nI_p0, nI_l0, nI_g0, false_or, if_true, if_false, ite_t, ite_f, g1, nI_1]
    · obtain ⟨g1, g2, g3, g4, g5, g6, g7, g8, g9, g10, g11, g12, g13, g14, g15, g16⟩ := id hmi
      have e : (((nI f ||| nI s) &&& (nI d ^^^ (-1 : Int32))) &&& nI (2 ^ p)) = 0 := by
        rw [nI_or, nI_adn, nI_and, and2p.mpr]
        · rfl
        · rw [adn_bit (by omega)]
          cases a : (f ||| s).testBit p with
          | false => rfl
          | true =>
            cases b : d.testBit p with
            | true => rfl
            | false => exact absurd ⟨hm, f, s, d, k, hmi, a, b⟩ hno
      simp (disch := omega) only [pX9_matchOf_L2b, z5, nI_leI, nI_ltI, nI_eq, nI_clamp, nI_add, nI_n0, nI_e0, nI_p0, nI_l0, nI_g0, false_or, if_true, if_false, ite_t, ite_f, g1, g10, g12, g14, nI_one, e, nI_1]
  rcases Classical.em (∃ m, onM n t sx sm p m) with hex | hno
  · obtain ⟨m, hm, hmin⟩ := pk_least (onM n t sx sm p) hex
    refine Or.inr ⟨m, hm, ?_, ?_⟩
    · obtain ⟨hm5, f, s, d, k, ⟨g1, g2, g3, g4, g5, g6, g7, g8, g9, g10, g11, g12, g13, g14, g15, g16⟩, a, b⟩ := hm
      unfold pX2_withPlayer pX2_withPlayer_L2
      refine fqL_go (fun j => nI j) m rfl (by omega) ?_ (fun j hj => stepX j (by omega) (hmin j hj))
      intro rec
      have e : ¬ (((nI f ||| nI s) &&& (nI d ^^^ (-1 : Int32))) &&& nI (2 ^ p)) = 0 := by
        have hl : adn (f ||| s) d < 2 ^ n := adn_lt (or_lt g2 g3)
        have hl2 : adn (f ||| s) d &&& 2 ^ p < 2 ^ n := and_lt hl
        rw [nI_or, nI_adn, nI_and, nI_e0 (by omega), and2p, adn_bit (by omega), a, b]
        simp
      simp (disch := omega) only [pX2_withPlayer_L2b, pX1_playing, z5, nI_leI, nI_ltI, nI_eq, nI_clamp, nI_add, nI_n0, nI_e0, nI_p0, nI_l0, nI_g0, false_or, if_true, if_false, ite_t, ite_f, g9, g11, g13, Option.bind_some, if_neg e]
    · obtain ⟨hm5, f, s, d, k, ⟨g1, g2, g3, g4, g5, g6, g7, g8, g9, g10, g11, g12, g13, g14, g15, g16⟩, a, b⟩ := hm
      unfold pX9_matchOf pX9_matchOf_L2
      refine fqL_go (fun j => nI j) m rfl (by omega) ?_ (fun j hj => stepM j (by omega) (hmin j hj))
      intro rec
      have e : ¬ (((nI f ||| nI s) &&& (nI d ^^^ (-1 : Int32))) &&& nI (2 ^ p)) = 0 := by
        have hl : adn (f ||| s) d < 2 ^ n := adn_lt (or_lt g2 g3)
        have hl2 : adn (f ||| s) d &&& 2 ^ p < 2 ^ n := and_lt hl
        rw [nI_or, nI_adn, nI_and, nI_e0 (by omega), and2p, adn_bit (by omega), a, b]
        simp
      simp (disch := omega) only [pX9_matchOf_L2b, z5, nI_leI, nI_ltI, nI_eq, nI_clamp, nI_add, nI_n0, nI_e0, nI_p0, nI_l0, nI_g0, false_or, if_true, if_false, ite_t, ite_f, g1, g10, g12, g14, nI_one, if_neg e]
  · have hno2 : ∀ m, ¬ onM n t sx sm p m := fun m hm => hno ⟨m, hm⟩
    refine Or.inl ⟨?_, ?_, hno2⟩
    · unfold pX2_withPlayer pX2_withPlayer_L2
      refine fqL_go (fun j => nI j) 5 rfl (by omega) ?_ (fun j hj => stepX j hj (hno2 j))
      intro rec
      simp (disch := omega) only [pX2_withPlayer_L2b, z5, nI_leI, ite_t]
    · unfold pX9_matchOf pX9_matchOf_L2
      refine fqL_go (fun j => nI j) 5 rfl (by omega) ?_ (fun j hj => stepM j hj (hno2 j))
      intro rec
      simp (disch := omega) only [pX9_matchOf_L2b, z5, nI_leI, ite_t]
theorem adn0 {a b n : Nat} (hn : n ≤ 16) (ha : a < 2 ^ n) : adn a b ≠ 0 ↔ ∃ p, a.testBit p = true ∧ b.testBit p = false := by
  constructor
  · intro h
    obtain ⟨i, hi⟩ := bits_n0 h
    have hin : i < n := bit_in (adn_lt ha) hi
    rw [adn_bit (by omega)] at hi
    simp only [Bool.and_eq_true, Bool.not_eq_true'] at hi
    exact ⟨i, hi⟩
  · rintro ⟨i, h1, h2⟩ e
    have hin : i < n := bit_in ha h1
    have z : (adn a b).testBit i = false := by rw [e, Nat.zero_testBit]
    rw [adn_bit (by omega), h1, h2] at z
    cases z
theorem RelM_to {m t n : Nat} {sx sm : fqS} (h : RelM m t n sx sm) (hm : m < 5) (hmi : ∃ f s d k, Rmi n t sx sm m f s d k) : Rel t n sx sm := by
  obtain ⟨a1, a2, a3, a4, a5, a6, a7, a8, a9, a10, a11, a12⟩ := h
  exact ⟨a1, a2, a3, a4, a5, a6, a7, fun m' hm' => by
    by_cases e : m' = m
    · subst e; exact Or.inr hmi
    · exact a8 m' hm' e, a9, a10, a11, a12⟩
/-- only players' cells and match m's change -/
theorem RelM_p {m t n : Nat} {sx sm sx' sm' : fqS} (h : RelM m t n sx sm) (hx : eqW (fun c k => pXS c k ∨ c = 18 + m) sx sx') (hm : eqW (fun c k => pMS c k ∨ (8 ≤ c ∧ c ≤ 12 ∧ k = m)) sm sm') (hm5 : m < 5) (hp : Rp n sx' sm') (hz : Rz n sm') : RelM m t n sx' sm' := by
  obtain ⟨hn, _, _, hs, hb, ht, hq, hmm, he, hl, hc, hf⟩ := h
  exact ⟨Rn_fr hn hx hm (by unfold pXS scX; omega) (by unfold pMS scM; omega), hp, hz, Rs_fr hs hx hm (by unfold pXS scX; omega) (by unfold pMS scM; omega), Rb_fr hb hx hm (fun k => by unfold pXS scX; omega) (by unfold pMS scM; omega), Rt_fr ht hx hm (by unfold pXS scX; omega) (by unfold pMS scM; omega), Rq_fr hq hx hm ⟨by unfold pXS scX; omega, fun k => by unfold pXS scX; omega⟩ ⟨by unfold pMS scM; omega, fun k => by unfold pMS scM; omega⟩, fun m' h1 h2 => Rm_fr1 (hmm m' h1 h2) hx hm (fun k => by unfold pXS scX; omega) (fun c h1 h2 => by unfold pMS scM; omega), Re_fr he hx hm (by unfold pXS scX; omega) (by unfold pMS scM; omega), Rl_fr hl hx hm (by unfold pXS scX; omega) (by unfold pMS scM; omega), Rc_fr hc hx hm ⟨by unfold pXS scX; omega, fun k => by unfold pXS scX; omega⟩ ⟨by unfold pMS scM; omega, fun k => by unfold pMS scM; omega⟩, Rf_fr hf hx hm (fun k => by unfold pXS scX; omega) (fun k => by unfold pMS scM; omega)⟩
/-- what a drop does after the player's own result -/
def tlX (K n m : Nat) (σ : fqS) : Option (Int64 × fqS) := (pX1_isDeserted K n σ m).bind (fun r26 => (if r26 = 0 then some ((0 : Int64), σ) else ((pX1_resultOfDeserted K n σ m).bind (fun r29 => (fqB2 (pX2_finish K n σ m r29) (fun _ σ32 => some ((1 : Int64), σ32)))))))
theorem drop_tail {t n K m p f s d k : Nat} {sx sm : fqS} (hK : 112 < K) (hm : m < 5) (hp : p < n) (hR : RelM m t n sx sm) (hmi : Rmi n t sx sm m f s d k) (hb : (f ||| s).testBit p = true) : ∃ (r : Int64) (sx' sm' : fqS), tlX K n m (fqPI sx (18 + m) 2 (nI (d ||| 2 ^ p))) = some (r, sx') ∧ (f.testBit p = true → pX9_drop_J116 K 0 (nI p) (nI m) 1 (nI f) (fqPI sm 11 m (nI (d ||| 2 ^ p))) = some (r, sm')) ∧ (f.testBit p = false → pX9_drop_J116 K 0 (nI p) (nI m) 0 (nI s) (fqPI sm 11 m (nI (d ||| 2 ^ p))) = some (r, sm')) ∧ Rel (t + 1) n sx' sm' := by
  obtain ⟨hn, hNx, hNm⟩ := hR.1
  have h16 := p2n hn
  obtain ⟨g1, g2, g3, g4, g5, g6, g7, g8, g9, g10, g11, g12, g13, g14, g15, g16⟩ := hmi
  have hpn : 2 ^ p < 2 ^ n := Nat.pow_lt_pow_right (by omega) hp
  have hd' : d ||| 2 ^ p < 2 ^ n := or_lt g4 hpn
  have hx : eqW (fun c k => pXS c k ∨ c = 18 + m) sx (fqPI sx (18 + m) 2 (nI (d ||| 2 ^ p))) := eqW_PI (Or.inr rfl)
  have hmm : eqW (fun c k => pMS c k ∨ (8 ≤ c ∧ c ≤ 12 ∧ k = m)) sm (fqPI sm 11 m (nI (d ||| 2 ^ p))) := eqW_PI (Or.inr ⟨by omega, by omega, rfl⟩)
  have hx2 : eqW (fun c k => c = 18 + m) sx (fqPI sx (18 + m) 2 (nI (d ||| 2 ^ p))) := eqW_PI (S := fun c k => c = 18 + m) rfl
  have hm2 : eqW (fun c k => c = 11 ∧ k = m) sm (fqPI sm 11 m (nI (d ||| 2 ^ p))) := eqW_PI ⟨rfl, rfl⟩
  have RM := RelM_p hR hx hmm hm (Rp_fr hR.2.1 hx2 hm2 (fun p k _ => by omega) (fun k => by omega)) (Rz_fr hR.2.2.1 hm2 (fun k => by omega))
  have x0 : fqI (fqPI sx (18 + m) 2 (nI (d ||| 2 ^ p))) (18 + m) 0 = nI f := by rw [fqI_n _ _ _ _ _ _ (by omega)]; exact g9
  have x1 : fqI (fqPI sx (18 + m) 2 (nI (d ||| 2 ^ p))) (18 + m) 1 = nI s := by rw [fqI_n _ _ _ _ _ _ (by omega)]; exact g11
  have x2 : fqI (fqPI sx (18 + m) 2 (nI (d ||| 2 ^ p))) (18 + m) 2 = nI (d ||| 2 ^ p) := fqI_s _ _ _ _
  have x3 : fqJ (fqPI sx (18 + m) 2 (nI (d ||| 2 ^ p))) (18 + m) 3 = lN k := g15
  have y8 : fqI (fqPI sm 11 m (nI (d ||| 2 ^ p))) 8 m = nI 1 := by rw [fqI_n _ _ _ _ _ _ (by omega)]; exact g1
  have y0 : fqI (fqPI sm 11 m (nI (d ||| 2 ^ p))) 9 m = nI f := by rw [fqI_n _ _ _ _ _ _ (by omega)]; exact g10
  have y1 : fqI (fqPI sm 11 m (nI (d ||| 2 ^ p))) 10 m = nI s := by rw [fqI_n _ _ _ _ _ _ (by omega)]; exact g12
  have y2 : fqI (fqPI sm 11 m (nI (d ||| 2 ^ p))) 11 m = nI (d ||| 2 ^ p) := fqI_s _ _ _ _
  have y3 : fqI (fqPI sm 11 m (nI (d ||| 2 ^ p))) 12 m = nI k := by rw [fqI_n _ _ _ _ _ _ (by omega)]; exact g16
  generalize fqPI sx (18 + m) 2 (nI (d ||| 2 ^ p)) = sx1 at RM x0 x1 x2 x3 ⊢
  generalize fqPI sm 11 m (nI (d ||| 2 ^ p)) = sm1 at RM y8 y0 y1 y2 y3 ⊢
  obtain ⟨d', hd''⟩ : ∃ d', d' = d ||| 2 ^ p := ⟨_, rfl⟩
  rw [← hd''] at hd' x2 y2
  have lf : adn f d' < 2 ^ n := adn_lt g2
  have ls : adn s d' < 2 ^ n := adn_lt g3
  have bd' : ∀ q, q ≠ p → d'.testBit q = d.testBit q := by
    intro q hq
    rw [hd'', Nat.testBit_or, bit_2p]
    simp [show ¬ p = q from fun e => hq e.symm]
  have disj : ∀ q, f.testBit q = true → s.testBit q = true → False := by
    intro q a b
    have z : (f &&& s).testBit q = true := by rw [Nat.testBit_and, a, b]; rfl
    rw [g5, Nat.zero_testBit] at z
    cases z
  -- the other team isn't deserted
  have oth1 : f.testBit p = true → adn s d' ≠ 0 := by
    intro hf
    rw [adn0 hn g3]
    obtain ⟨q, q1, q2⟩ := g7
    have hq : q ≠ p := fun e => disj q (by rw [e]; exact hf) q1
    exact ⟨q, q1, by rw [bd' q hq]; exact q2⟩
  have oth0 : f.testBit p = false → adn f d' ≠ 0 := by
    intro hf
    rw [adn0 hn g2]
    obtain ⟨q, q1, q2⟩ := g6
    have hq : q ≠ p := fun e => by rw [e, hf] at q1; cases q1
    exact ⟨q, q1, by rw [bd' q hq]; exact q2⟩
  by_cases hall : adn f d' ≠ 0 ∧ adn s d' ≠ 0
  · refine ⟨0, sx1, sm1, ?_, fun _ => ?_, fun _ => ?_, Rel_up (RelM_to RM hm ⟨f, s, d', k, y8, g2, g3, hd', g5, (adn0 hn g2).mp hall.1, (adn0 hn g3).mp hall.2, g8, x0, y0, x1, y1, x2, y2, x3, y3⟩)⟩
    · simp (disch := omega) only [tlX, pX1_isDeserted, x0, x1, x2, nI_adn, nI_e0, if_neg hall.1, if_neg hall.2, Option.bind_some, c00, if_true]
    · simp (disch := omega) only [pX9_drop_J116, nI_leI, nI_ltI, nI_eq, nI_clamp, nI_add, nI_n0, nI_e0, nI_p0, nI_l0, nI_g0, false_or, if_true, if_false, ite_t, ite_f, y2, nI_adn, if_neg hall.1]
    · simp (disch := omega) only [pX9_drop_J116, nI_leI, nI_ltI, nI_eq, nI_clamp, nI_add, nI_n0, nI_e0, nI_p0, nI_l0, nI_g0, false_or, if_true, if_false, ite_t, ite_f, y2, nI_adn, if_neg hall.2]
  · cases hf : f.testBit p with
    | true =>
      have hs0 := oth1 hf
      have hf0 : adn f d' = 0 := Classical.byContradiction (fun q => hall ⟨q, hs0⟩)
      obtain ⟨c, sx', sm', q1, q2, q3⟩ := fin_both (K := K) (r := 0) hK hm RM g2 g3 hd' g5 (by omega) x0 x1 x2 y0 y1 y2
      refine ⟨1, sx', sm', ?_, fun _ => ?_, fun z => absurd z (by decide), q3⟩
      · have q1' : pX2_finish K n sx1 m 0 = some (nI c, sx') := q1
        simp (disch := omega) only [tlX, pX1_isDeserted, pX1_resultOfDeserted, x0, x1, x2, nI_adn, hf0, nI_0, Option.bind_some, c10, if_true, if_false, q1', fqB2_some]
      · have q2' : pX9_endMatch K 0 sm1 (nI m) 0 = some (nI c, sm') := q2
        simp (disch := omega) only [pX9_drop_J116, nI_n0, false_or, nI_clamp, ite_f, y2, nI_adn, hf0, nI_0, if_true, c10, if_false, q2', fqB2_some]
    | false =>
      have hf0 := oth0 hf
      have hs0 : adn s d' = 0 := Classical.byContradiction (fun q => hall ⟨hf0, q⟩)
      obtain ⟨c, sx', sm', q1, q2, q3⟩ := fin_both (K := K) (r := 2) hK hm RM g2 g3 hd' g5 (by omega) x0 x1 x2 y0 y1 y2
      have hf1 : ¬ nI (adn f d') = 0 := by rw [nI_e0 (by omega)]; exact hf0
      refine ⟨1, sx', sm', ?_, fun z => absurd z (by decide), fun _ => ?_, q3⟩
      · have q1' : pX2_finish K n sx1 m 2 = some (nI c, sx') := q1
        simp (disch := omega) only [tlX, pX1_isDeserted, pX1_resultOfDeserted, x0, x1, x2, nI_adn, if_neg hf1, hs0, nI_0, Option.bind_some, c10, if_true, if_false, q1', fqB2_some]
      · have q2' : pX9_endMatch K 0 sm1 (nI m) 2 = some (nI c, sm') := q2
        simp (disch := omega) only [pX9_drop_J116, nI_n0, false_or, nI_clamp, ite_f, y2, nI_adn, hs0, nI_0, if_true, c00, q2', fqB2_some]
theorem drop_pl {t n K m p f s d k : Nat} {sx sm τ : fqS} (hK : 112 < K) (hm : m < 5) (hp : p < n) (hR : Rel t n sx sm) (hmi : Rmi n t sx sm m f s d k) (l2 : eqW (fun c _ => c = 14) sm τ) (l3 : ∀ i, i < 112 → fqJ τ 14 i = fqJ sm 3 i) (R : Nat) (hRl : R < 2 ^ n) : ∃ sx1 sm1, (∀ A : fqS → Option (Int64 × fqS), fqB2 (pX6_reckon K n sx p (nI R) 0) (fun r20 σ21 => if r20 = 0 then A σ21 else (pX5_settle K n σ21 p).bind (fun σ34 => A σ34)) = A sx1) ∧ (∀ B : fqS → Option (Int64 × fqS), fqB2 (pX9_takeResult K 0 τ (nI p) 0 (nI R)) (fun _ σ15 => B σ15) = B sm1) ∧ RelM m t n sx1 sm1 ∧ Rmi n t sx1 sm1 m f s d k := by
  obtain ⟨hn, hNx, hNm⟩ := hR.1
  have hNt : fqI τ 0 1 = nI n := by rw [l2.I (by omega)]; exact hNm
  have RM : RelM m t n sx sm := RelM_of hR
  obtain ⟨gX, gK⟩ := gp_X RM
  obtain ⟨gM, gN, gS⟩ := gp_M RM l2 l3
  have h2 : ∀ p, fqI τ 2 p = fqI sm 2 p := fun p => l2.I (by omega)
  have eU := und_both RM h2 R
  obtain ⟨g1, g2, g3, g4, g5, g6, g7, g8, g9, g10, g11, g12, g13, g14, g15, g16⟩ := hmi
  obtain ⟨U, hU⟩ : ∃ U, U = accN (cX sx R) n := ⟨_, rfl⟩
  have lU : U < 2 ^ n := by rw [hU]; exact accN_lt _ _
  have lt : ∀ j, 8 ≤ j → j ≤ 12 → fqI τ j m = fqI sm j m := fun j _ _ => l2.I (by omega)
  by_cases hU0 : U = 0
  · have e1 : pX6_reckon K n sx p (nI R) 0 = some (0, sx) := reckX_0 K n sx p 0 R hn hNx (by omega) hRl (by rw [← hU]; exact hU0)
    have e2 : pX9_takeResult K 0 τ (nI p) 0 (nI R) = some (0, τ) := takeM_0 K n τ p 0 R hn hNt (by omega) hRl (by rw [eU, ← hU]; exact hU0)
    refine ⟨sx, τ, fun A => ?_, fun B => ?_, RelM_of (Rel_eq (eqW.rf _) (eq14M l2) hR), ?_⟩
    · rw [e1, fqB2_some, if_pos rfl]
    · rw [e2, fqB2_some]
    · exact ⟨by rw [lt 8 (by omega) (by omega)]; exact g1, g2, g3, g4, g5, g6, g7, g8, g9, by rw [lt 9 (by omega) (by omega)]; exact g10, g11, by rw [lt 10 (by omega) (by omega)]; exact g12, g13, by rw [lt 11 (by omega) (by omega)]; exact g14, g15, by rw [lt 12 (by omega) (by omega)]; exact g16⟩
  · obtain ⟨σ21, a1, a2, a3⟩ := reckX_eq K n sx p 0 R hp (by omega) hn hNx (by omega) hRl gX (gK p hp) (by rw [← hU]; exact hU0)
    obtain ⟨σ34, b1, b2, b3⟩ := settleX_eq K n σ21 p (by omega)
    obtain ⟨σ15, c1, c2, c3⟩ := takeM_eq K n τ p 0 R hp (by omega) hn hNt (by omega) hRl gM (gN p hp) (by rw [eU, ← hU]; exact hU0)
    rw [← hU] at a3
    rw [eU, ← hU] at c3
    have a1' : pX6_reckon K n sx p (nI R) 0 = some (1, σ21) := a1
    have c1' : pX9_takeResult K 0 τ (nI p) 0 (nI R) = some (1, σ15) := c1
    have hwx : eqW (fun c j => wpX p c j ∨ c = 26 + 4 * p + 1) sx σ34 := (a2.mono (fun c j h => Or.inl h)).tr (b2.mono (fun c j h => Or.inr h))
    have hwm : eqW (fun c j => wpM p c j ∨ c = 14) sm σ15 := (l2.mono (fun c j h => Or.inr h)).tr (c2.mono (fun c j h => Or.inl h))
    have hxs : ∀ l, l < 7 → fqJ σ34 (26 + 4 * p + 1) l = fqJ σ34 (26 + 4 * p + 2) l := fun l hl => by rw [b3 l hl, b2.J (by omega)]
    have hrk : rkX sx σ34 p 0 U := by
      obtain ⟨kp, kd, q1, q2, q3, q4, q5, q6, q7⟩ := a3
      exact ⟨kp, kd, q1, q2, q3, q4, by rw [b2.I (by omega)]; exact q5, fun i hi => by rw [b2.J (by omega)]; exact q6 i hi, fun l hl => by rw [b2.J (by omega)]; exact q7 l hl⟩
    obtain ⟨P1, P2⟩ := pl_both RM l2 gS hp (by omega) lU hrk hxs c3 hU0
    have RM2 : RelM m t n σ34 σ15 := by
      refine RelM_p RM (hwx.mono (fun c j h => by unfold wpX at h; unfold pXS scX; omega)) (hwm.mono (fun c j h => by unfold wpM at h; unfold pMS scM; omega)) hm ?_ ?_
      · intro q hq
        obtain ⟨⟨kd, k1, k2, k3⟩, ⟨sh, s1, s2⟩, ⟨kp, u1, u2, u3, u4⟩⟩ := RM.2.1 q hq
        refine ⟨⟨kd, k1, ?_, ?_⟩, ?_⟩
        · rw [hwx.I (by unfold wpX; omega)]; exact k2
        · rw [hwm.I (by unfold wpM; omega)]; exact k3
        · by_cases e : q = p
          · subst e; exact ⟨P1, P2⟩
          · refine ⟨⟨sh, s1, fun l hl => ⟨?_, ?_⟩⟩, kp, u1, ?_, ?_, fun i hi => ?_⟩
            · rw [hwx.J (by unfold wpX; omega)]; exact (s2 l hl).1
            · rw [hwm.J (by unfold wpM; omega)]; exact (s2 l hl).2
            · rw [hwx.I (by unfold wpX; omega)]; exact u2
            · rw [hwm.I (by unfold wpM; omega)]; exact u3
            · rw [hwx.J (by unfold wpX; omega), hwm.J (by unfold wpM; omega)]; exact u4 i hi
      · intro q h1 h2
        rw [hwm.I (by unfold wpM; omega)]
        exact RM.2.2.1 q h1 h2
    refine ⟨σ34, σ15, fun A => ?_, fun B => ?_, RM2, ?_⟩
    · rw [a1', fqB2_some, if_neg (by decide), b1, Option.bind_some]
    · rw [c1', fqB2_some]
    · have fx : ∀ j, fqI σ34 (18 + m) j = fqI sx (18 + m) j := fun j => hwx.I (by unfold wpX; omega)
      have fm : ∀ j, 8 ≤ j → j ≤ 12 → fqI σ15 j m = fqI sm j m := fun j _ _ => hwm.I (by unfold wpM; omega)
      exact ⟨by rw [fm 8 (by omega) (by omega)]; exact g1, g2, g3, g4, g5, g6, g7, g8, by rw [fx]; exact g9, by rw [fm 9 (by omega) (by omega)]; exact g10, by rw [fx]; exact g11, by rw [fm 10 (by omega) (by omega)]; exact g12, by rw [fx]; exact g13, by rw [fm 11 (by omega) (by omega)]; exact g14, by rw [hwx.J (by unfold wpX; omega)]; exact g15, by rw [fm 12 (by omega) (by omega)]; exact g16⟩
theorem st_drop (K : Nat) (hK : 112 < K) : lwS_drop Rel K := by
  intro t n sx sm x1 ht hR
  obtain ⟨hn, hNx, hNm⟩ := hR.1
  have h16 := p2n hn
  rcases pk_ix x1 (n := n) (by omega) with h | h | ⟨p, hp, rfl⟩
  · refine both_bad (bnd_1 (K := K) hR) ?_ ?_
    · simp only [pX8_drop, atX_out hNx (Or.inl h), Option.bind_some, fqM_none, fqM_some, fqB2_some, fqN_eq, c10, c00, if_true, if_false]
    · simp only [pX9_drop, isPl_out hNm hn (Or.inl h), Option.bind_some, fqM_none, fqM_some, fqB2_some, fqN_eq, c10, c00, if_true, if_false]
  · refine both_bad (bnd_1 (K := K) hR) ?_ ?_
    · simp only [pX8_drop, atX_out hNx (Or.inr h), Option.bind_some, fqM_none, fqM_some, fqB2_some, fqN_eq, c10, c00, if_true, if_false]
    · simp only [pX9_drop, isPl_out hNm hn (Or.inr h), Option.bind_some, fqM_none, fqM_some, fqB2_some, fqN_eq, c10, c00, if_true, if_false]
  have hp16 := p16 (show p < 16 by omega)
  rcases with_both (K := K) (by omega) hR hp with ⟨w1, w2, _⟩ | ⟨m, ⟨hm, f, s, d, k, hmi, ha, hbd⟩, w1, w2⟩
  · refine both_bad (bnd_2 (K := K) hR) ?_ ?_
    · simp (disch := omega) only [pX8_drop, atX_in hNx hn hp, Option.bind_some, fqM_none, fqM_some, fqB2_some, fqN_eq, c10, c00, if_true, if_false, if_pos hp, bitOf_eq, w1]
    · have e : ¬ (0 : Int32) ≤ -1 := by decide
      simp (disch := omega) only [pX9_drop, isPl_in hNm hn hp, Option.bind_some, fqM_none, fqM_some, fqB2_some, fqN_eq, c10, c00, if_true, if_false, w2, if_neg e]
  obtain ⟨τ, l1, l2, l3⟩ := layAside_eq K sm hK
  have g2 := hmi.2.1
  have g3 := hmi.2.2.1
  have g9 := hmi.2.2.2.2.2.2.2.2.1
  have g10 := hmi.2.2.2.2.2.2.2.2.2.1
  have g11 := hmi.2.2.2.2.2.2.2.2.2.2.1
  have g12 := hmi.2.2.2.2.2.2.2.2.2.2.2.1
  have t9 : fqI τ 9 m = nI f := by rw [l2.I (by omega)]; exact g10
  have t10 : fqI τ 10 m = nI s := by rw [l2.I (by omega)]; exact g12
  have lfp : f &&& 2 ^ p < 2 ^ n := and_lt g2
  cases hf : f.testBit p with
  | true =>
    obtain ⟨sx1, sm1, A1, B1, RM, hmi1⟩ := drop_pl hK hm hp hR hmi l2 l3 s g3
    obtain ⟨r, sx', sm', q1, q2, _, q4⟩ := drop_tail hK hm hp RM hmi1 ha
    have i13 := hmi1.2.2.2.2.2.2.2.2.2.2.2.2.1
    have i14 := hmi1.2.2.2.2.2.2.2.2.2.2.2.2.2.1
    have i10 := hmi1.2.2.2.2.2.2.2.2.2.1
    have nf : ¬ nI f &&& nI (2 ^ p) = 0 := by
      rw [nI_and, nI_e0 (by omega), and2p, hf]
      simp
    have bf := (nI_bit1 (B := f) (p := p) (by omega) (by omega)).mpr hf
    refine ⟨r, sx', sm', ?_, ?_, q4⟩
    · simp (disch := omega) only [pX8_drop, atX_in hNx hn hp, Option.bind_some, fqM_none, fqM_some, fqB2_some, fqN_eq, c10, c00, if_true, if_false, if_pos hp, bitOf_eq, w1, if_pos hm, pX1_rivalsOf, g9, if_neg nf, g11]
      refine (A1 (fun σ => tlX K n m (fqPI σ (18 + m) 2 ((fqI σ (18 + m) 2) ||| nI (2 ^ p))))).trans ?_
      show tlX K n m (fqPI sx1 (18 + m) 2 ((fqI sx1 (18 + m) 2) ||| nI (2 ^ p))) = _
      rw [i13, nI_or]
      exact q1
    · simp (disch := omega) only [pX9_drop, pX9_drop_J53, isPl_in hNm hn hp, Option.bind_some, fqM_none, fqM_some, fqB2_some, fqN_eq, c10, c00, if_true, if_false, w2, nI_p0, if_true, nI_n0, false_or, nI_clamp, ite_f, g10, bf, l1, t10]
      refine (B1 (fun σ => pX9_drop_J116 K 0 (nI p) (nI m) 1 (fqI (fqPI σ 11 m ((fqI σ 11 m) ||| ((1 : Int32) <<< (nI p &&& 31)))) 9 m) (fqPI σ 11 m ((fqI σ 11 m) ||| ((1 : Int32) <<< (nI p &&& 31)))))).trans ?_
      show pX9_drop_J116 K 0 (nI p) (nI m) 1 (fqI (fqPI sm1 11 m ((fqI sm1 11 m) ||| ((1 : Int32) <<< (nI p &&& 31)))) 9 m) (fqPI sm1 11 m ((fqI sm1 11 m) ||| ((1 : Int32) <<< (nI p &&& 31)))) = _
      rw [fqI_n _ _ _ _ _ _ (by omega), i10, i14, nI_one (by omega), nI_or]
      exact q2 hf
  | false =>
    obtain ⟨sx1, sm1, A1, B1, RM, hmi1⟩ := drop_pl hK hm hp hR hmi l2 l3 f g2
    obtain ⟨r, sx', sm', q1, _, q2, q4⟩ := drop_tail hK hm hp RM hmi1 ha
    have i13 := hmi1.2.2.2.2.2.2.2.2.2.2.2.2.1
    have i14 := hmi1.2.2.2.2.2.2.2.2.2.2.2.2.2.1
    have i12 := hmi1.2.2.2.2.2.2.2.2.2.2.2.1
    have nf : nI f &&& nI (2 ^ p) = 0 := by
      rw [nI_and, and2p.mpr hf]
      rfl
    have bf : ¬ ((nI f >>> (nI p &&& 31)) &&& (1 : Int32)) = (1 : Int32) := fun q => by rw [(nI_bit1 (B := f) (p := p) (by omega) (by omega)).mp q] at hf; cases hf
    refine ⟨r, sx', sm', ?_, ?_, q4⟩
    · simp (disch := omega) only [pX8_drop, atX_in hNx hn hp, Option.bind_some, fqM_none, fqM_some, fqB2_some, fqN_eq, c10, c00, if_true, if_false, if_pos hp, bitOf_eq, w1, if_pos hm, pX1_rivalsOf, g9, nf]
      refine (A1 (fun σ => tlX K n m (fqPI σ (18 + m) 2 ((fqI σ (18 + m) 2) ||| nI (2 ^ p))))).trans ?_
      show tlX K n m (fqPI sx1 (18 + m) 2 ((fqI sx1 (18 + m) 2) ||| nI (2 ^ p))) = _
      rw [i13, nI_or]
      exact q1
    · simp (disch := omega) only [pX9_drop, pX9_drop_J53, isPl_in hNm hn hp, Option.bind_some, fqM_none, fqM_some, fqB2_some, fqN_eq, c10, c00, if_true, if_false, w2, nI_p0, if_true, nI_n0, false_or, nI_clamp, ite_f, g10, if_neg bf, l1, t9]
      refine (B1 (fun σ => pX9_drop_J116 K 0 (nI p) (nI m) 0 (fqI (fqPI σ 11 m ((fqI σ 11 m) ||| ((1 : Int32) <<< (nI p &&& 31)))) 10 m) (fqPI σ 11 m ((fqI σ 11 m) ||| ((1 : Int32) <<< (nI p &&& 31)))))).trans ?_
      show pX9_drop_J116 K 0 (nI p) (nI m) 0 (fqI (fqPI sm1 11 m ((fqI sm1 11 m) ||| ((1 : Int32) <<< (nI p &&& 31)))) 10 m) (fqPI sm1 11 m ((fqI sm1 11 m) ||| ((1 : Int32) <<< (nI p &&& 31)))) = _
      rw [fqI_n _ _ _ _ _ _ (by omega), i12, i14, nI_one (by omega), nI_or]
      exact q2 hf
