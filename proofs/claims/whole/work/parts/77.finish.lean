/-! a match's end -/
def ocF (f s d Us Uf r : Nat) : Nat → Option (Nat × Nat) := upO (upO (fun _ => none) (adn f d) Us r) (adn s d) Uf (2 - r)
def fnX (σ τ : fqS) (p : Nat) : Option (Nat × Nat) → Prop
  | none => fqI τ (26 + 4 * p) 4 = fqI σ (26 + 4 * p) 4 ∧ (∀ i, fqJ τ (26 + 4 * p + 3) i = fqJ σ (26 + 4 * p + 3) i) ∧ ∀ l, l < 7 → fqJ τ (26 + 4 * p + 1) l = fqJ σ (26 + 4 * p + 1) l
  | some (r, U) => rkX σ τ p r U ∧ ∀ l, l < 7 → fqJ τ (26 + 4 * p + 1) l = fqJ τ (26 + 4 * p + 2) l
def wfX (m c j : Nat) : Prop := waX c j ∨ (26 ≤ c ∧ (c - 26) % 4 = 1) ∨ c = 18 + m ∨ (c = 16 ∧ j = 1)
theorem ocF_some {f s d Us Uf r p : Nat} : (ocF f s d Us Uf r p).isSome = (mkM (adn f d) Us p || mkM (adn s d) Uf p) := by
  unfold ocF upO mkM
  by_cases h2 : (adn s d).testBit p = true ∧ Uf ≠ 0
  · rw [if_pos h2]
    simp [h2.1, h2.2]
  · rw [if_neg h2]
    have e2 : ((adn s d).testBit p && decide (Uf ≠ 0)) = false := by
      cases e : (adn s d).testBit p with
      | false => rfl
      | true =>
        have : Uf = 0 := Classical.byContradiction (fun q => h2 ⟨e, q⟩)
        simp [this]
    rw [e2]
    by_cases h1 : (adn f d).testBit p = true ∧ Us ≠ 0
    · rw [if_pos h1]
      simp [h1.1, h1.2]
    · rw [if_neg h1]
      have e1 : ((adn f d).testBit p && decide (Us ≠ 0)) = false := by
        cases e : (adn f d).testBit p with
        | false => rfl
        | true =>
          have : Us = 0 := Classical.byContradiction (fun q => h1 ⟨e, q⟩)
          simp [this]
      rw [e1]
      rfl
theorem mkM_out {A U n p : Nat} (hA : A < 2 ^ n) (h : n ≤ p) : mkM A U p = false := by
  unfold mkM
  rw [bit_lt hA h]
  rfl
theorem cntB_stop {c : Nat → Bool} {n : Nat} (h : ∀ i, n ≤ i → c i = false) : ∀ m, cntB c (n + m) = cntB c n
  | 0 => rfl
  | m + 1 => by
    show cntB c (n + m + 1) = _
    rw [cntB, h (n + m) (by omega), cntB_stop h m]
    rfl
theorem finX_eq (k n : Nat) (σ : fqS) (m f s d r : Nat) (hm : m < 5) (hn : n ≤ 16) (hN : fqI σ 1 2 = nI n) (hk : 16 < k) (hf : f < 2 ^ n) (hs : s < 2 ^ n) (hfs : f &&& s = 0) (hr : r < 3) (hG : gpX n σ) (hK : ∀ p, p < n → gpK σ p) (c0 : fqI σ (18 + m) 0 = nI f) (c1 : fqI σ (18 + m) 1 = nI s) (c2 : fqI σ (18 + m) 2 = nI d) : ∃ τ, pX2_finish k n σ m (nI r) = some (nI (cntB (fun p => (ocF f s d (accN (cX σ s) n) (accN (cX σ f) n) r p).isSome) n), τ) ∧ eqW (wfX m) σ τ ∧ fqI τ (18 + m) 0 = nI 0 ∧ fqI τ (18 + m) 1 = nI 0 ∧ fqI τ (18 + m) 2 = nI 0 ∧ fqJ τ 16 1 = fqJ σ 16 1 + 1 ∧ ∀ p, p < n → fnX σ τ p (ocF f s d (accN (cX σ s) n) (accN (cX σ f) n) r p) := by
  have h16 := p2n hn
  have hA1 : adn f d < 2 ^ n := adn_lt hf
  have hA2 : adn s d < 2 ^ n := adn_lt hs
  obtain ⟨σ3, a1, a2, a3⟩ := reckTeam_eq k n σ σ (fun _ => none) (adn f d) s r hn hN hk hA1 hs hr hG hK (eqW.rf _) (fun p _ => ⟨rfl, fun _ => rfl, fun _ => rfl⟩) (fun _ _ => rfl)
  obtain ⟨σ6, b1, b2, b3⟩ := reckTeam_eq k n σ σ3 _ (adn s d) f (2 - r) hn hN hk hA2 hf (by omega) hG hK a2 a3 (fun p hp => by
    unfold upO
    rw [if_neg]
    rintro ⟨q, _⟩
    have hp32 : p < 32 := by have := bit_in hA2 hp; omega
    rw [adn_bit hp32] at hp q
    have z : (f &&& s).testBit p = true := by
      rw [Nat.testBit_and]
      simp only [Bool.and_eq_true] at hp q ⊢
      exact ⟨q.1, hp.1⟩
    rw [hfs, Nat.zero_testBit] at z
    cases z)
  obtain ⟨Us, hUs⟩ : ∃ Us, Us = accN (cX σ s) n := ⟨_, rfl⟩
  obtain ⟨Uf, hUf⟩ : ∃ Uf, Uf = accN (cX σ f) n := ⟨_, rfl⟩
  rw [← hUs] at a1 a3 b3 ⊢
  rw [← hUf] at b1 b3 ⊢
  have lM : accN (mkM (adn f d) Us) 16 ||| accN (mkM (adn s d) Uf) 16 < 2 ^ 16 := or_lt (accN_lt _ _) (accN_lt _ _)
  obtain ⟨M, hM⟩ : ∃ M, M = accN (mkM (adn f d) Us) 16 ||| accN (mkM (adn s d) Uf) 16 := ⟨_, rfl⟩
  rw [← hM] at lM
  have bM : ∀ p, p < 16 → M.testBit p = (ocF f s d Us Uf r p).isSome := by
    intro p hp
    rw [hM, Nat.testBit_or, accN_bit, accN_bit, ocF_some]
    simp [hp]
  obtain ⟨σ8, d1, d2, d3⟩ := settleTeam_eq k n σ6 M hn (by rw [b2.I (by unfold waX; omega)]; exact hN) hk lM
  have e0 : fqI σ3 (18 + m) 0 = nI f := by rw [a2.I (by unfold waX; omega)]; exact c0
  have e1 : fqI σ3 (18 + m) 1 = nI s := by rw [a2.I (by unfold waX; omega)]; exact c1
  have e2 : fqI σ3 (18 + m) 2 = nI d := by rw [a2.I (by unfold waX; omega)]; exact c2
  have ep : pop M = cntB (fun p => (ocF f s d Us Uf r p).isSome) n := by
    unfold pop
    rw [cntB_congr bM]
    have e := cntB_stop (c := fun p => (ocF f s d Us Uf r p).isSome) (n := n) (fun i hi => by show (ocF f s d Us Uf r i).isSome = false; rw [ocF_some, mkM_out hA1 hi, mkM_out hA2 hi]; rfl) (16 - n)
    rw [show n + (16 - n) = 16 by omega] at e
    exact e
  have e16 : fqJ σ8 16 1 = fqJ σ 16 1 := by rw [d2.J (by omega), b2.J (by unfold waX; omega)]
  obtain ⟨σ10, hσ⟩ : ∃ τ, τ = fqPJ (fqPI (fqPI (fqPI σ8 (18 + m) 0 0) (18 + m) 1 0) (18 + m) 2 0) (18 + m) 3 0 := ⟨_, rfl⟩
  have f1 : eqW (fun c _ => c = 18 + m) σ8 σ10 := by
    rw [hσ]
    exact (((eqW_PI (S := fun c _ => c = 18 + m) rfl).tr (eqW_PI (S := fun c _ => c = 18 + m) rfl)).tr (eqW_PI (S := fun c _ => c = 18 + m) rfl)).tr (eqW_PJ (S := fun c _ => c = 18 + m) rfl)
  have g0 : fqI σ10 (18 + m) 0 = nI 0 := by rw [hσ]; simp (disch := omega) only [fqI_PJ, fqI_n, fqI_s]; rfl
  have g1 : fqI σ10 (18 + m) 1 = nI 0 := by rw [hσ]; simp (disch := omega) only [fqI_PJ, fqI_n, fqI_s]; rfl
  have g2 : fqI σ10 (18 + m) 2 = nI 0 := by rw [hσ]; simp (disch := omega) only [fqI_PJ, fqI_n, fqI_s]; rfl
  have hcl : pX1_clear k n σ8 m = some σ10 := by
    rw [hσ]
    rfl
  have f16 : fqJ σ10 16 1 = fqJ σ 16 1 := by rw [f1.J (by omega)]; exact e16
  refine ⟨fqPJ σ10 16 1 (fqJ σ 16 1 + 1), ?_, ?_, g0, g1, g2, fqJ_s _ _ _ _, fun p hp => ?_⟩
  · have hbc := fun τ => bitCount_eq k n τ M (by omega)
    simp (disch := omega) only [pX2_finish, c0, c1, c2, nI_adn, a1, fqB2_some, e0, e1, e2, z2, pk_sub, b1, nI_or, ← hM, d1, Option.bind_some, hcl, fqN_eq, f16, hbc, ep]
  · refine (((b2.mono (fun c j h => Or.inl h)).tr (d2.mono (fun c j h => Or.inr (Or.inl h)))).tr (f1.mono (fun c j h => Or.inr (Or.inr (Or.inl h))))).tr (eqW_PJ (Or.inr (Or.inr (Or.inr ⟨rfl, rfl⟩))))
  · have fI : ∀ j, fqI (fqPJ σ10 16 1 (fqJ σ 16 1 + 1)) (26 + 4 * p) j = fqI σ6 (26 + 4 * p) j := fun j => by rw [fqI_PJ, f1.I (by omega), d2.I (by omega)]
    have fJ3 : ∀ j, fqJ (fqPJ σ10 16 1 (fqJ σ 16 1 + 1)) (26 + 4 * p + 3) j = fqJ σ6 (26 + 4 * p + 3) j := fun j => by rw [fqJ_n _ _ _ _ _ _ (by omega), f1.J (by omega), d2.J (by omega)]
    have fJ2 : ∀ j, fqJ (fqPJ σ10 16 1 (fqJ σ 16 1 + 1)) (26 + 4 * p + 2) j = fqJ σ6 (26 + 4 * p + 2) j := fun j => by rw [fqJ_n _ _ _ _ _ _ (by omega), f1.J (by omega), d2.J (by omega)]
    have fJ1 : ∀ j, fqJ (fqPJ σ10 16 1 (fqJ σ 16 1 + 1)) (26 + 4 * p + 1) j = fqJ σ8 (26 + 4 * p + 1) j := fun j => by rw [fqJ_n _ _ _ _ _ _ (by omega), f1.J (by omega)]
    have hres : resX σ σ6 p (ocF f s d Us Uf r p) := b3 p hp
    have hbit := bM p (by omega)
    match hoc : ocF f s d Us Uf r p, hres with
    | none, ⟨s1, s2, s3⟩ =>
      rw [hoc] at hbit
      refine ⟨by rw [fI]; exact s1, fun i => by rw [fJ3]; exact s2 i, fun l hl => ?_⟩
      rw [fJ1, d3 p hp l hl, hbit, if_neg (by decide), b2.J (by unfold waX; omega)]
    | some (r', U'), ⟨kp, kd, q1, q2, q3, q4, q5, q6, q7⟩ =>
      rw [hoc] at hbit
      refine ⟨⟨kp, kd, q1, q2, q3, q4, by rw [fI]; exact q5, fun i hi => by rw [fJ3]; exact q6 i hi, fun l hl => by rw [fJ2]; exact q7 l hl⟩, fun l hl => ?_⟩
      rw [fJ1, fJ2, d3 p hp l hl, hbit]
      rfl
-- the reference
def smM (σ τ : fqS) (p : Nat) : Prop := fqI τ 5 p = fqI σ 5 p ∧ (∀ i, i < 8 → fqJ τ 4 (8 * p + i) = fqJ σ 4 (8 * p + i)) ∧ ∀ l, l < 7 → fqJ τ 3 (7 * p + l) = fqJ σ 3 (7 * p + l)
def resM (σ τ : fqS) (p : Nat) : Option (Nat × Nat) → Prop
  | none => smM σ τ p
  | some (r, U) => rkM σ τ p r U
def waM (n c j : Nat) : Prop := c = 19 ∨ c = 3 ∨ c = 4 ∨ (c = 5 ∧ j < n)
theorem smM_tr {σ τ τ' : fqS} {p j : Nat} (hw : eqW (wpM j) τ τ') (hpj : p ≠ j) (h : smM σ τ p) : smM σ τ' p := by
  obtain ⟨h1, h2, h3⟩ := h
  refine ⟨?_, fun i hi => ?_, fun l hl => ?_⟩
  · rw [hw.I (by unfold wpM; omega)]; exact h1
  · rw [hw.J (by unfold wpM; omega)]; exact h2 i hi
  · rw [hw.J (by unfold wpM; omega)]; exact h3 l hl
theorem upK_le {kp : Nat} (h : kp ≤ 8) : upK kp ≤ 8 := by unfold upK; split <;> omega
theorem rkM_tr {σ τ τ' : fqS} {p j r U : Nat} (hw : eqW (wpM j) τ τ') (hpj : p ≠ j) (h : rkM σ τ p r U) : rkM σ τ' p r U := by
  obtain ⟨kp, kd, h1, h2, h3, h4, h5, h6, h7⟩ := h
  have h8 := upK_le h1
  refine ⟨kp, kd, h1, h2, h3, h4, ?_, fun i hi => ?_, fun l hl => ?_⟩
  · rw [hw.I (by unfold wpM; omega)]; exact h5
  · rw [hw.J (by unfold wpM; omega)]; exact h6 i hi
  · rw [hw.J (by unfold wpM; omega)]; exact h7 l hl
theorem resM_tr {σ τ τ' : fqS} {p j : Nat} {o : Option (Nat × Nat)} (hw : eqW (wpM j) τ τ') (hpj : p ≠ j) (h : resM σ τ p o) : resM σ τ' p o := by
  match o, h with
  | none, h => exact smM_tr hw hpj h
  | some (r, U), h => exact rkM_tr hw hpj h
theorem SM_wa {n : Nat} {σ τ : fqS} (hw : eqW (waM n) σ τ) : SM τ = SM σ := by
  funext a b
  exact hw.J (by unfold waM; omega)
theorem cM_wa {n : Nat} {σ τ : fqS} (hw : eqW (waM n) σ τ) (B : Nat) : cM τ B = cM σ B := by
  funext p
  unfold cM
  rw [hw.I (by unfold waM; omega)]
theorem sv_congr {f g : Nat → Int64} {kp : Nat} {v w : Int64} (h : ∀ i, i < kp → f i = g i) (hv : v = w) (hk : kp ≤ 8) {i : Nat} (hi : i < upK kp) : sv f kp v i = sv g kp w i := by
  unfold upK at hi
  unfold sv
  rw [hv]
  by_cases h8 : kp < 8
  · rw [if_pos h8] at hi ⊢
    rw [if_pos h8]
    by_cases e : i = kp
    · rw [if_pos e, if_pos e]
    · rw [if_neg e, if_neg e, h i (by omega)]
  · rw [if_neg h8] at hi ⊢
    rw [if_neg h8]
    by_cases e : i = 7
    · rw [if_pos e, if_pos e]
    · rw [if_neg e, if_neg e, h (i + 1) (by omega)]
theorem rkM_from {n : Nat} {σ τ τ' : fqS} {p r U : Nat} (hw : eqW (waM n) σ τ) (hs : smM σ τ p) (h : rkM τ τ' p r U) : rkM σ τ' p r U := by
  obtain ⟨kp, kd, h1, h2, h3, h4, h5, h6, h7⟩ := h
  obtain ⟨s1, s2, s3⟩ := hs
  rw [SM_wa hw] at h6 h7
  refine ⟨kp, kd, h1, h2, by rw [← s1]; exact h3, by rw [hw.I (by unfold waM; omega)] at h4; exact h4, h5, fun i hi => ?_, fun l hl => ?_⟩
  · rw [h6 i hi]
    exact sv_congr (fun i hi => s2 i (by omega)) rfl h1 hi
  · rw [h7 l hl]
    exact mvK_congr (fun i hi => s3 i hi) (fun _ _ => rfl) hl
theorem gpN_from {n : Nat} {σ τ : fqS} {p : Nat} (hw : eqW (waM n) σ τ) (hs : smM σ τ p) (h : gpN σ p) : gpN τ p := by
  obtain ⟨⟨kp, a1, a2⟩, ⟨kd, b1, b2⟩, o⟩ := h
  obtain ⟨s1, s2, s3⟩ := hs
  exact ⟨⟨kp, a1, by rw [s1]; exact a2⟩, ⟨kd, b1, by rw [hw.I (by unfold waM; omega)]; exact b2⟩, okT_congr s3 o⟩
theorem endM_eq (k n : Nat) (σ : fqS) (m f s d r : Nat) (hm : m < 5) (hn : n ≤ 16) (hN : fqI σ 0 1 = nI n) (hk : 16 < k) (hf : f < 2 ^ n) (hs : s < 2 ^ n) (hd : d < 2 ^ n) (hfs : f &&& s = 0) (hr : r < 3) (hG : gpM n σ) (hK : ∀ p, p < n → gpN σ p) (c0 : fqI σ 9 m = nI f) (c1 : fqI σ 10 m = nI s) (c2 : fqI σ 11 m = nI d) : ∃ τ, pX9_endMatch_L9 k 0 (nI m) (nI r) (0, 0, σ) = some (nI (cntB (fun p => (ocF f s d (accN (cM σ s) n) (accN (cM σ f) n) r p).isSome) n), τ) ∧ eqW (fun c j => waM n c j ∨ (c = 8 ∧ j = m) ∨ (c = 0 ∧ j = 19)) σ τ ∧ fqI τ 8 m = nI 0 ∧ fqI τ 0 19 = fqI σ 0 19 + 1 ∧ ∀ p, p < n → resM σ τ p (ocF f s d (accN (cM σ s) n) (accN (cM σ f) n) r p) := by
  have h16 := p2n hn
  obtain ⟨Us, hUs⟩ : ∃ Us, Us = accN (cM σ s) n := ⟨_, rfl⟩
  obtain ⟨Uf, hUf⟩ : ∃ Uf, Uf = accN (cM σ f) n := ⟨_, rfl⟩
  rw [← hUs, ← hUf]
  obtain ⟨oc, hoc⟩ : ∃ oc, oc = ocF f s d Us Uf r := ⟨_, rfl⟩
  rw [← hoc]
  unfold pX9_endMatch_L9
  refine fqL_ex (fun τ => (nI (cntB (fun p => (oc p).isSome) n), τ)) _ (fun j st => st.1 = nI (cntB (fun p => (oc p).isSome) j) ∧ st.2.1 = nI j ∧ eqW (waM n) σ st.2.2 ∧ ∀ p, p < n → if p < j then resM σ st.2.2 p (oc p) else smM σ st.2.2 p) n (by omega) ⟨rfl, rfl, eqW.rf _, fun p hp => by rw [if_neg (by omega)]; exact ⟨rfl, fun _ _ => rfl, fun _ _ => rfl⟩⟩ ?_ ?_
  · rintro j ⟨x3, x4, τ⟩ hj ⟨rfl, rfl, hw, hv⟩
    have hcl := cntB_le (fun p => (oc p).isSome) j
    have hN2 : fqI τ 0 1 = nI n := by rw [hw.I (by unfold waM; omega)]; exact hN
    have e0 : fqI τ 9 m = nI f := by rw [hw.I (by unfold waM; omega)]; exact c0
    have e1 : fqI τ 10 m = nI s := by rw [hw.I (by unfold waM; omega)]; exact c1
    have e2 : fqI τ 11 m = nI d := by rw [hw.I (by unfold waM; omega)]; exact c2
    have hsm : smM σ τ j := by
      have := hv j hj
      rw [if_neg (by omega)] at this
      exact this
    have hGt : gpM n τ := fun p hp => by rw [SM_wa hw]; exact hG p hp
    have hKt : gpN τ j := gpN_from hw hsm (hK j hj)
    -- nothing happens
    have skip : oc j = none → ∃ s' : Int32 × Int32 × fqS, (s'.1 = nI (cntB (fun p => (oc p).isSome) (j + 1)) ∧ s'.2.1 = nI (j + 1) ∧ eqW (waM n) σ s'.2.2 ∧ ∀ p, p < n → if p < j + 1 then resM σ s'.2.2 p (oc p) else smM σ s'.2.2 p) ∧ s' = (nI (cntB (fun p => (oc p).isSome) j), nI (j + 1), τ) := by
      intro ho
      refine ⟨(nI (cntB (fun p => (oc p).isSome) j), nI (j + 1), τ), ⟨?_, rfl, hw, fun p hp => ?_⟩, rfl⟩
      · show nI (cntB (fun p => (oc p).isSome) j) = _
        rw [cntB, ho]
        rfl
      · have := hv p hp
        by_cases e : p = j
        · rw [if_pos (by omega), e, ho]
          exact hsm
        · by_cases q : p < j
          · rw [if_pos q] at this
            rw [if_pos (by omega)]
            exact this
          · rw [if_neg q] at this
            rw [if_neg (by omega)]
            exact this
    -- a result is taken
    have take : ∀ (r' R U : Nat), r' < 3 → R < 2 ^ n → U = accN (cM σ R) n → oc j = (if U ≠ 0 then some (r', U) else none) → ∃ (b : Int32) (τ' : fqS), pX9_takeResult k 0 τ (nI j) (nI r') (nI R) = some (b, τ') ∧ (∀ p, p < n → if p < j + 1 then resM σ τ' p (oc p) else smM σ τ' p) ∧ eqW (waM n) σ τ' ∧ ((b = 0 ∧ cntB (fun p => (oc p).isSome) (j + 1) = cntB (fun p => (oc p).isSome) j) ∨ (b = 1 ∧ cntB (fun p => (oc p).isSome) (j + 1) = cntB (fun p => (oc p).isSome) j + 1)) := by
      intro r' R U hr' hR' hU ho
      by_cases hU0 : U = 0
      · rw [if_neg (by simp [hU0])] at ho
        refine ⟨0, τ, takeM_0 k n τ j r' R hn hN2 hk hR' (by rw [cM_wa hw, ← hU]; exact hU0), fun p hp => ?_, hw, Or.inl ⟨rfl, by rw [cntB, ho]; rfl⟩⟩
        have := hv p hp
        by_cases e : p = j
        · rw [if_pos (by omega), e, ho]
          exact hsm
        · by_cases q : p < j
          · rw [if_pos q] at this
            rw [if_pos (by omega)]
            exact this
          · rw [if_neg q] at this
            rw [if_neg (by omega)]
            exact this
      · rw [if_pos hU0] at ho
        obtain ⟨τ', t1, t2, t3⟩ := takeM_eq k n τ j r' R hj hr' hn hN2 hk hR' hGt hKt (by rw [cM_wa hw, ← hU]; exact hU0)
        rw [cM_wa hw, ← hU] at t3
        refine ⟨1, τ', t1, fun p hp => ?_, hw.tr (t2.mono (fun c i h => by unfold wpM at h; unfold waM; omega)), Or.inr ⟨rfl, by rw [cntB, ho]; rfl⟩⟩
        by_cases e : p = j
        · subst e
          rw [if_pos (by omega), ho]
          exact rkM_from hw hsm t3
        · have := hv p hp
          by_cases q : p < j
          · rw [if_pos q] at this
            rw [if_pos (by omega)]
            exact resM_tr t2 e this
          · rw [if_neg q] at this
            rw [if_neg (by omega)]
            exact smM_tr t2 e this
    have hoj : oc j = (if (adn s d).testBit j = true ∧ Uf ≠ 0 then some (2 - r, Uf) else (if (adn f d).testBit j = true ∧ Us ≠ 0 then some (r, Us) else none)) := by
      rw [hoc]
      rfl
    rw [adn_bit (by omega), adn_bit (by omega)] at hoj
    have hfs' : f.testBit j = true → s.testBit j = true → False := by
      intro a b
      have z : (f &&& s).testBit j = true := by rw [Nat.testBit_and, a, b]; rfl
      rw [hfs, Nat.zero_testBit] at z
      cases z
    cases hbd : d.testBit j with
    | true =>
      have ho : oc j = none := by rw [hoj, hbd]; simp
      obtain ⟨s', i1, i2⟩ := skip ho
      refine ⟨s', i1, fun rec => ?_⟩
      have nb : ¬ ((nI d >>> (nI j &&& 31)) &&& (1 : Int32)) = 0 := fun q => by rw [(nI_bit0 (B := d) (p := j) (by omega) (by omega)).mp q] at hbd; cases hbd
      rw [i2]
      cases hbf : f.testBit j with
      | true =>
        have b1 := (nI_bit1 (B := f) (p := j) (by omega) (by omega)).mpr hbf
        simp (disch := omega) only [pX9_endMatch_L9b, pX9_endMatch_J60, hN2, nI_leI, nI_ltI, nI_eq, nI_clamp, nI_add, nI_n0, nI_e0, nI_p0, nI_l0, nI_g0, false_or, if_true, if_false, ite_t, ite_f, e0, e1, e2, b1, c10, if_neg nb, nI_1, ite_self]
      | false =>
        have b1 : ¬ ((nI f >>> (nI j &&& 31)) &&& (1 : Int32)) = (1 : Int32) := fun q => by rw [(nI_bit1 (B := f) (p := j) (by omega) (by omega)).mp q] at hbf; cases hbf
        simp (disch := omega) only [pX9_endMatch_L9b, pX9_endMatch_J60, hN2, nI_leI, nI_ltI, nI_eq, nI_clamp, nI_add, nI_n0, nI_e0, nI_p0, nI_l0, nI_g0, false_or, if_true, if_false, ite_t, ite_f, e0, e1, e2, if_neg b1, c10, c00, if_neg nb, nI_1, ite_self]
    | false =>
      have nb := (nI_bit0 (B := d) (p := j) (by omega) (by omega)).mpr hbd
      cases hbf : f.testBit j with
      | true =>
        have hbs : s.testBit j = false := by
          cases e : s.testBit j with
          | false => rfl
          | true => exact absurd (hfs' hbf e) (fun h => h)
        have b1 := (nI_bit1 (B := f) (p := j) (by omega) (by omega)).mpr hbf
        have b2 : ¬ ((nI s >>> (nI j &&& 31)) &&& (1 : Int32)) = (1 : Int32) := fun q => by rw [(nI_bit1 (B := s) (p := j) (by omega) (by omega)).mp q] at hbs; cases hbs
        have ho : oc j = (if Us ≠ 0 then some (r, Us) else none) := by rw [hoj, hbd, hbf, hbs]; simp
        obtain ⟨b, τ', t1, t2, t3, t4⟩ := take r s Us hr hs hUs ho
        refine ⟨(nI (cntB (fun p => (oc p).isSome) (j + 1)), nI (j + 1), τ'), ⟨rfl, rfl, t3, t2⟩, fun rec => ?_⟩
        rcases t4 with ⟨rfl, t5⟩ | ⟨rfl, t5⟩
        · simp (disch := omega) only [pX9_endMatch_L9b, pX9_endMatch_J60, pX9_endMatch_J102, hN2, nI_leI, nI_ltI, nI_eq, nI_clamp, nI_add, nI_n0, nI_e0, nI_p0, nI_l0, nI_g0, false_or, if_true, if_false, ite_t, ite_f, e0, e1, e2, b1, if_neg b2, c10, c00, nb, nI_1, t1, fqB2_some, t5, Int32.add_zero]
        · simp (disch := omega) only [pX9_endMatch_L9b, pX9_endMatch_J60, pX9_endMatch_J102, hN2, nI_leI, nI_ltI, nI_eq, nI_clamp, nI_add, nI_n0, nI_e0, nI_p0, nI_l0, nI_g0, false_or, if_true, if_false, ite_t, ite_f, e0, e1, e2, b1, if_neg b2, c10, c00, nb, nI_1, t1, fqB2_some, t5]
      | false =>
        have b1 : ¬ ((nI f >>> (nI j &&& 31)) &&& (1 : Int32)) = (1 : Int32) := fun q => by rw [(nI_bit1 (B := f) (p := j) (by omega) (by omega)).mp q] at hbf; cases hbf
        cases hbs : s.testBit j with
        | true =>
          have b2 := (nI_bit1 (B := s) (p := j) (by omega) (by omega)).mpr hbs
          have ho : oc j = (if Uf ≠ 0 then some (2 - r, Uf) else none) := by
            rw [hoj, hbd, hbf, hbs]
            by_cases q : Uf = 0
            · simp [q]
            · simp [q]
          obtain ⟨b, τ', t1, t2, t3, t4⟩ := take (2 - r) f Uf (by omega) hf hUf ho
          have e22 : (2 : Int32) - nI r = nI (2 - r) := by rw [z2, pk_sub (by omega)]
          refine ⟨(nI (cntB (fun p => (oc p).isSome) (j + 1)), nI (j + 1), τ'), ⟨rfl, rfl, t3, t2⟩, fun rec => ?_⟩
          rcases t4 with ⟨rfl, t5⟩ | ⟨rfl, t5⟩
          · simp (disch := omega) only [pX9_endMatch_L9b, pX9_endMatch_J60, pX9_endMatch_J102, hN2, nI_leI, nI_ltI, nI_eq, nI_clamp, nI_add, nI_n0, nI_e0, nI_p0, nI_l0, nI_g0, false_or, if_true, if_false, ite_t, ite_f, e0, e1, e2, if_neg b1, b2, c10, c00, nb, nI_1, e22, t1, fqB2_some, t5, Int32.add_zero]
          · simp (disch := omega) only [pX9_endMatch_L9b, pX9_endMatch_J60, pX9_endMatch_J102, hN2, nI_leI, nI_ltI, nI_eq, nI_clamp, nI_add, nI_n0, nI_e0, nI_p0, nI_l0, nI_g0, false_or, if_true, if_false, ite_t, ite_f, e0, e1, e2, if_neg b1, b2, c10, c00, nb, nI_1, e22, t1, fqB2_some, t5]
        | false =>
          have b2 : ¬ ((nI s >>> (nI j &&& 31)) &&& (1 : Int32)) = (1 : Int32) := fun q => by rw [(nI_bit1 (B := s) (p := j) (by omega) (by omega)).mp q] at hbs; cases hbs
          have ho : oc j = none := by rw [hoj, hbd, hbf, hbs]; simp
          obtain ⟨s', i1, i2⟩ := skip ho
          refine ⟨s', i1, fun rec => ?_⟩
          rw [i2]
          simp (disch := omega) only [pX9_endMatch_L9b, pX9_endMatch_J60, hN2, nI_leI, nI_ltI, nI_eq, nI_clamp, nI_add, nI_n0, nI_e0, nI_p0, nI_l0, nI_g0, false_or, if_true, if_false, ite_t, ite_f, e0, e1, e2, if_neg b1, if_neg b2, c00, nI_1]
  · rintro ⟨x3, x4, τ⟩ ⟨rfl, rfl, hw, hv⟩
    have hN2 : fqI τ 0 1 = nI n := by rw [hw.I (by unfold waM; omega)]; exact hN
    have e19 : fqI τ 0 19 = fqI σ 0 19 := hw.I (by unfold waM; omega)
    have fI : ∀ c j, 2 ≤ c → c ≠ 8 → fqI (fqPI (fqPI τ 8 m 0) 0 19 (fqI σ 0 19 + 1)) c j = fqI τ c j := fun c j h1 h2 => by rw [fqI_n _ _ _ _ _ _ (by omega), fqI_n _ _ _ _ _ _ (by omega)]
    refine ⟨fqPI (fqPI τ 8 m 0) 0 19 (fqI σ 0 19 + 1), ⟨?_, ?_, fqI_s _ _ _ _, fun p hp => ?_⟩, fun rec => ?_⟩
    · exact ((hw.mono (fun c j h => Or.inl h)).tr (eqW_PI (S := fun c j => waM n c j ∨ (c = 8 ∧ j = m) ∨ (c = 0 ∧ j = 19)) (Or.inr (Or.inl ⟨rfl, rfl⟩)))).tr (eqW_PI (Or.inr (Or.inr ⟨rfl, rfl⟩)))
    · rw [fqI_n _ _ _ _ _ _ (by omega), fqI_s]; rfl
    · have := hv p hp
      rw [if_pos hp] at this
      match hop : oc p, this with
      | none, ⟨h1, h2, h3⟩ => exact ⟨by rw [fI _ _ (by omega) (by omega)]; exact h1, h2, h3⟩
      | some (r', U), ⟨kp, kd, h1, h2, h3, h4, h5, h6, h7⟩ => exact ⟨kp, kd, h1, h2, h3, h4, by rw [fI _ _ (by omega) (by omega)]; exact h5, h6, h7⟩
    · simp (disch := omega) only [pX9_endMatch_L9b, hN2, nI_leI, ite_t, nI_n0, false_or, nI_clamp, ite_f, fqN_eq, fqI_n, e19]
