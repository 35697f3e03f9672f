/-! the results of a match -/
def resX (σ τ : fqS) (p : Nat) : Option (Nat × Nat) → Prop
  | none => smX σ τ p
  | some (r, U) => rkX σ τ p r U
theorem smX_tr {σ τ τ' : fqS} {p j : Nat} (hw : eqW (wpX j) τ τ') (hpj : p ≠ j) (h : smX σ τ p) : smX σ τ' p := by
  obtain ⟨h1, h2, h3⟩ := h
  refine ⟨?_, fun i => ?_, fun l => ?_⟩
  · rw [hw.I (by unfold wpX; omega)]; exact h1
  · rw [hw.J (by unfold wpX; omega)]; exact h2 i
  · rw [hw.J (by unfold wpX; omega)]; exact h3 l
theorem rkX_tr {σ τ τ' : fqS} {p j r U : Nat} (hw : eqW (wpX j) τ τ') (hpj : p ≠ j) (h : rkX σ τ p r U) : rkX σ τ' p r U := by
  obtain ⟨kp, kd, h1, h2, h3, h4, h5, h6, h7⟩ := h
  refine ⟨kp, kd, h1, h2, h3, h4, ?_, fun i hi => ?_, fun l hl => ?_⟩
  · rw [hw.I (by unfold wpX; omega)]; exact h5
  · rw [hw.J (by unfold wpX; omega)]; exact h6 i hi
  · rw [hw.J (by unfold wpX; omega)]; exact h7 l hl
theorem resX_tr {σ τ τ' : fqS} {p j : Nat} {o : Option (Nat × Nat)} (hw : eqW (wpX j) τ τ') (hpj : p ≠ j) (h : resX σ τ p o) : resX σ τ' p o := by
  match o, h with
  | none, h => exact smX_tr hw hpj h
  | some (r, U), h => exact rkX_tr hw hpj h
theorem SX_wa {σ τ : fqS} (hw : eqW waX σ τ) : SX τ = SX σ := by
  funext a b
  exact hw.J (by unfold waX; omega)
theorem cX_wa {σ τ : fqS} (hw : eqW waX σ τ) (B : Nat) : cX τ B = cX σ B := by
  funext p
  unfold cX
  rw [hw.I (by unfold waX; omega)]
theorem rkX_from {σ τ τ' : fqS} {p r U : Nat} (hw : eqW waX σ τ) (hs : smX σ τ p) (h : rkX τ τ' p r U) : rkX σ τ' p r U := by
  obtain ⟨kp, kd, h1, h2, h3, h4, h5, h6, h7⟩ := h
  obtain ⟨s1, s2, s3⟩ := hs
  rw [SX_wa hw] at h6 h7
  have e : (fun i => fqJ τ (26 + 4 * p + 3) i) = (fun i => fqJ σ (26 + 4 * p + 3) i) := funext s2
  rw [e] at h6
  exact ⟨kp, kd, h1, h2, by rw [← s1]; exact h3, by rw [hw.I (by unfold waX; omega)] at h4; exact h4, h5, h6, h7⟩
def upO (o : Nat → Option (Nat × Nat)) (A U r p : Nat) : Option (Nat × Nat) := if A.testBit p = true ∧ U ≠ 0 then some (r, U) else o p
def mkM (A U : Nat) (i : Nat) : Bool := A.testBit i && decide (U ≠ 0)
theorem gpX_wa {n : Nat} {σ τ : fqS} (hw : eqW waX σ τ) (h : gpX n σ) : gpX n τ := by
  intro p hp
  obtain ⟨⟨kd, d1, d2⟩, o⟩ := h p hp
  exact ⟨⟨kd, d1, by rw [hw.I (by unfold waX; omega)]; exact d2⟩, by rw [SX_wa hw]; exact o⟩
theorem reckTeam_eq (k n : Nat) (σ τ0 : fqS) (o : Nat → Option (Nat × Nat)) (A R r : Nat) (hn : n ≤ 16) (hN : fqI σ 1 2 = nI n) (hk : 16 < k) (hA : A < 2 ^ n) (hR : R < 2 ^ n) (hr : r < 3) (hG : gpX n σ) (hK : ∀ p, p < n → gpK σ p) (hw0 : eqW waX σ τ0) (ho : ∀ p, p < n → resX σ τ0 p (o p)) (hd : ∀ p, A.testBit p = true → o p = none) : ∃ τ, pX6_reckonTeam k n τ0 (nI A) (nI R) (nI r) = some (nI (accN (mkM A (accN (cX σ R) n)) 16), τ) ∧ eqW waX σ τ ∧ ∀ p, p < n → resX σ τ p (upO o A (accN (cX σ R) n) r p) := by
  have h16 := p2n hn
  obtain ⟨U, hU⟩ : ∃ U, U = accN (cX σ R) n := ⟨_, rfl⟩
  rw [← hU]
  unfold pX6_reckonTeam pX6_reckonTeam_L6
  refine fqL_ex (fun τ => (nI (accN (mkM A U) 16), τ)) _ (fun j s => s.1 = nI (accN (mkM A U) j) ∧ s.2.1 = nI j ∧ eqW waX σ s.2.2 ∧ ∀ p, p < n → resX σ s.2.2 p (if p < j then upO o A U r p else o p)) 16 hk ⟨rfl, rfl, hw0, fun p hp => by rw [if_neg (by omega)]; exact ho p hp⟩ ?_ ?_
  · rintro j ⟨x4, x5, τ⟩ hj ⟨rfl, rfl, hw, hv⟩
    have hN2 : fqI τ 1 2 = nI n := by rw [hw.I (by unfold waX; omega)]; exact hN
    have ha := atX_i (k := k) hN2 hn hj
    have skip : (∀ p, p < n → p = j → upO o A U r p = o p) → ∀ p, p < n → resX σ τ p (if p < j + 1 then upO o A U r p else o p) := by
      intro hz p hp
      have := hv p hp
      by_cases e : p = j
      · rw [if_neg (by omega)] at this
        rw [if_pos (by omega), hz p hp e]
        exact this
      · by_cases q : p < j
        · rw [if_pos q] at this
          rw [if_pos (by omega)]
          exact this
        · rw [if_neg q] at this
          rw [if_neg (by omega)]
          exact this
    by_cases hjn : j < n
    · have hrow : fqRow n j = some j := by unfold fqRow; rw [if_pos hjn]
      cases hb : A.testBit j with
      | true =>
        by_cases hU0 : U = 0
        · have hm : mkM A U j = false := by unfold mkM; simp [hU0]
          refine ⟨(nI (accN (mkM A U) (j + 1)), nI (j + 1), τ), ⟨rfl, rfl, hw, skip (fun p _ e => by unfold upO; rw [if_neg (by simp [hU0])])⟩, fun rec => ?_⟩
          have er := reckX_0 k n τ j r R hn hN2 hk hR (by rw [cX_wa hw, ← hU]; exact hU0)
          simp (disch := omega) only [pX6_reckonTeam_L6b, ha, hrow, Option.bind_some, fqM_none, fqM_some, fqB2_some, fqN_eq, c10, c00, if_true, if_false, z16, nI_leI, nI_ltI, nI_eq, nI_clamp, nI_add, nI_n0, nI_e0, nI_p0, nI_l0, nI_g0, false_or, if_true, if_false, ite_t, ite_f, hasBit_t (B := A) (by omega) (by omega) hb, er, nI_1, accN, hm, Bool.false_eq_true]
        · have hm : mkM A U j = true := by unfold mkM; simp [hU0, hb]
          have hoj : o j = none := hd j hb
          have hvj := hv j hjn
          rw [if_neg (by omega), hoj] at hvj
          have hsm : smX σ τ j := hvj
          obtain ⟨kp, q1, q2⟩ := hK j hjn
          obtain ⟨τ', e1, e2, e3⟩ := reckX_eq k n τ j r R hjn hr hn hN2 hk hR (gpX_wa hw hG) ⟨kp, q1, by rw [hsm.1]; exact q2⟩ (by rw [cX_wa hw, ← hU]; exact hU0)
          rw [cX_wa hw, ← hU] at e3
          refine ⟨(nI (accN (mkM A U) (j + 1)), nI (j + 1), τ'), ⟨rfl, rfl, hw.tr (e2.mono (fun c j h => by unfold wpX at h; unfold waX; omega)), fun p hp => ?_⟩, fun rec => ?_⟩
          · by_cases e : p = j
            · subst e
              rw [if_pos (by omega)]
              unfold upO
              rw [if_pos ⟨hb, hU0⟩]
              exact rkX_from hw hsm e3
            · have := resX_tr e2 e (hv p hp)
              by_cases q : p < j
              · rw [if_pos q] at this
                rw [if_pos (by omega)]
                exact this
              · rw [if_neg q] at this
                rw [if_neg (by omega)]
                exact this
          · simp (disch := omega) only [pX6_reckonTeam_L6b, ha, hrow, Option.bind_some, fqM_none, fqM_some, fqB2_some, fqN_eq, c10, c00, if_true, if_false, z16, nI_leI, nI_ltI, nI_eq, nI_clamp, nI_add, nI_n0, nI_e0, nI_p0, nI_l0, nI_g0, false_or, if_true, if_false, ite_t, ite_f, hasBit_t (B := A) (by omega) (by omega) hb, e1, bitOf_eq, nI_or, nI_1, accN, hm]
      | false =>
        have hm : mkM A U j = false := by unfold mkM; simp [hb]
        refine ⟨(nI (accN (mkM A U) (j + 1)), nI (j + 1), τ), ⟨rfl, rfl, hw, skip (fun p _ e => by unfold upO; rw [if_neg (by rw [e, hb]; simp)])⟩, fun rec => ?_⟩
        simp (disch := omega) only [pX6_reckonTeam_L6b, ha, hrow, Option.bind_some, fqM_none, fqM_some, fqB2_some, fqN_eq, c10, c00, if_true, if_false, z16, nI_leI, nI_ltI, nI_eq, nI_clamp, nI_add, nI_n0, nI_e0, nI_p0, nI_l0, nI_g0, false_or, if_true, if_false, ite_t, ite_f, hasBit_f (B := A) (by omega) (by omega) hb, nI_1, accN, hm, Bool.false_eq_true]
    · have hrow : fqRow n j = none := by unfold fqRow; rw [if_neg hjn]
      have hb := bit_lt hA (show n ≤ j by omega)
      have hm : mkM A U j = false := by unfold mkM; simp [hb]
      refine ⟨(nI (accN (mkM A U) (j + 1)), nI (j + 1), τ), ⟨rfl, rfl, hw, skip (fun p _ e => absurd e (by omega))⟩, fun rec => ?_⟩
      simp (disch := omega) only [pX6_reckonTeam_L6b, ha, hrow, Option.bind_some, fqM_none, fqM_some, fqB2_some, fqN_eq, c10, c00, if_true, if_false, z16, nI_leI, nI_ltI, nI_eq, nI_clamp, nI_add, nI_n0, nI_e0, nI_p0, nI_l0, nI_g0, false_or, if_true, if_false, ite_t, ite_f, nI_1, accN, hm, Bool.false_eq_true]
  · rintro ⟨x4, x5, τ⟩ ⟨rfl, rfl, hw, hv⟩
    refine ⟨τ, ⟨hw, fun p hp => ?_⟩, fun rec => ?_⟩
    · have := hv p hp
      rw [if_pos (by omega)] at this
      exact this
    · simp (disch := omega) only [pX6_reckonTeam_L6b, z16, nI_leI, ite_t]
theorem settleTeam_eq (k n : Nat) (σ : fqS) (M : Nat) (hn : n ≤ 16) (hN : fqI σ 1 2 = nI n) (hk : 16 < k) (hM : M < 2 ^ 16) : ∃ τ, pX6_settleTeam k n σ (nI M) = some τ ∧ eqW (fun c _ => 26 ≤ c ∧ (c - 26) % 4 = 1) σ τ ∧ ∀ p, p < n → ∀ l, l < 7 → fqJ τ (26 + 4 * p + 1) l = if M.testBit p then fqJ σ (26 + 4 * p + 2) l else fqJ σ (26 + 4 * p + 1) l := by
  unfold pX6_settleTeam pX6_settleTeam_L2
  refine fqL_ex (fun τ => τ) _ (fun j s => s.1 = nI j ∧ eqW (fun c _ => 26 ≤ c ∧ (c - 26) % 4 = 1) σ s.2 ∧ ∀ p, p < n → ∀ l, l < 7 → fqJ s.2 (26 + 4 * p + 1) l = if p < j ∧ M.testBit p = true then fqJ σ (26 + 4 * p + 2) l else fqJ σ (26 + 4 * p + 1) l) 16 hk ⟨rfl, eqW.rf _, fun p hp l hl => by rw [if_neg (by omega)]⟩ ?_ ?_
  · rintro j ⟨x2, τ⟩ hj ⟨rfl, hw, hv⟩
    have hN2 : fqI τ 1 2 = nI n := by rw [hw.I (by omega)]; exact hN
    have ha := atX_i (k := k) hN2 hn hj
    by_cases hjn : j < n
    · have hrow : fqRow n j = some j := by unfold fqRow; rw [if_pos hjn]
      cases hb : M.testBit j with
      | true =>
        obtain ⟨τ', e1, e2, e3⟩ := settleX_eq k n τ j (by omega)
        refine ⟨(nI (j + 1), τ'), ⟨rfl, hw.tr (e2.mono (fun c k h => by omega)), fun p hp l hl => ?_⟩, fun rec => ?_⟩
        · by_cases e : p = j
          · subst e
            rw [if_pos ⟨by omega, hb⟩, e3 l hl, hw.J (by omega)]
          · rw [e2.J (by omega), hv p hp l hl]
            by_cases q : p < j ∧ M.testBit p = true
            · rw [if_pos q, if_pos ⟨by omega, q.2⟩]
            · rw [if_neg q, if_neg (fun z => q ⟨by omega, z.2⟩)]
        · simp (disch := omega) only [pX6_settleTeam_L2b, ha, hrow, Option.bind_some, fqM_none, fqM_some, fqB2_some, fqN_eq, c10, c00, if_true, if_false, z16, nI_leI, nI_ltI, nI_eq, nI_clamp, nI_add, nI_n0, nI_e0, nI_p0, nI_l0, nI_g0, false_or, if_true, if_false, ite_t, ite_f, hasBit_t (B := M) (by omega) (by omega) hb, e1, nI_1]
      | false =>
        refine ⟨(nI (j + 1), τ), ⟨rfl, hw, fun p hp l hl => ?_⟩, fun rec => ?_⟩
        · rw [hv p hp l hl]
          by_cases q : p < j ∧ M.testBit p = true
          · rw [if_pos q, if_pos ⟨by omega, q.2⟩]
          · rw [if_neg q, if_neg]
            rintro ⟨z1, z2⟩
            by_cases e : p = j
            · rw [e, hb] at z2; cases z2
            · exact q ⟨by omega, z2⟩
        · simp (disch := omega) only [pX6_settleTeam_L2b, ha, hrow, Option.bind_some, fqM_none, fqM_some, fqB2_some, fqN_eq, c10, c00, if_true, if_false, z16, nI_leI, nI_ltI, nI_eq, nI_clamp, nI_add, nI_n0, nI_e0, nI_p0, nI_l0, nI_g0, false_or, if_true, if_false, ite_t, ite_f, hasBit_f (B := M) (by omega) (by omega) hb, nI_1]
    · have hrow : fqRow n j = none := by unfold fqRow; rw [if_neg hjn]
      refine ⟨(nI (j + 1), τ), ⟨rfl, hw, fun p hp l hl => ?_⟩, fun rec => ?_⟩
      · rw [hv p hp l hl]
        by_cases q : p < j ∧ M.testBit p = true
        · rw [if_pos q, if_pos ⟨by omega, q.2⟩]
        · rw [if_neg q, if_neg (fun z => q ⟨by omega, z.2⟩)]
      · simp (disch := omega) only [pX6_settleTeam_L2b, ha, hrow, Option.bind_some, fqM_none, fqM_some, fqB2_some, fqN_eq, c10, c00, if_true, if_false, z16, nI_leI, nI_ltI, nI_eq, nI_clamp, nI_add, nI_n0, nI_e0, nI_p0, nI_l0, nI_g0, false_or, if_true, if_false, ite_t, ite_f, nI_1]
  · rintro ⟨x2, τ⟩ ⟨rfl, hw, hv⟩
    refine ⟨τ, ⟨hw, fun p hp l hl => ?_⟩, fun rec => ?_⟩
    · rw [hv p hp l hl]
      cases M.testBit p with
      | true => rw [if_pos ⟨by omega, rfl⟩]; rfl
      | false => rw [if_neg (by simp)]; rfl
    · simp (disch := omega) only [pX6_settleTeam_L2b, z16, nI_leI, ite_t]
