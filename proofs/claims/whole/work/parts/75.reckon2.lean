/-! a player's result -/
def rkX (σ τ : fqS) (p r U : Nat) : Prop := ∃ kp kd, kp ≤ 8 ∧ kd < 3 ∧ fqI σ (26 + 4 * p) 4 = nI kp ∧ fqI σ (26 + 4 * p) 0 = nI kd ∧ fqI τ (26 + 4 * p) 4 = nI (upK kp) ∧ (∀ i, i < upK kp → fqJ τ (26 + 4 * p + 3) i = sv (fun i => fqJ σ (26 + 4 * p + 3) i) kp ((500000 : Int64) * Int32.toInt64 (nI r) - cOf (SX σ) U p) i) ∧ ∀ l, l < 7 → fqJ τ (26 + 4 * p + 2) l = mvK kd (SX σ p) (fun l => fac r (cAt (SX σ) U l)) l
def smX (σ τ : fqS) (p : Nat) : Prop := fqI τ (26 + 4 * p) 4 = fqI σ (26 + 4 * p) 4 ∧ (∀ i, fqJ τ (26 + 4 * p + 3) i = fqJ σ (26 + 4 * p + 3) i) ∧ ∀ l, fqJ τ (26 + 4 * p + 2) l = fqJ σ (26 + 4 * p + 2) l
def wpX (p c j : Nat) : Prop := c = 3 ∨ c = 26 + 4 * p + 2 ∨ c = 26 + 4 * p + 3 ∨ (c = 26 + 4 * p ∧ j = 4)
def waX (c j : Nat) : Prop := c = 3 ∨ (26 ≤ c ∧ ((c - 26) % 4 = 2 ∨ (c - 26) % 4 = 3 ∨ ((c - 26) % 4 = 0 ∧ j = 4)))
/-- what holds of every player of the class -/
def gpX (n : Nat) (σ : fqS) : Prop := ∀ p, p < n → (∃ kd, kd < 3 ∧ fqI σ (26 + 4 * p) 0 = nI kd) ∧ okT (SX σ p)
def gpK (σ : fqS) (p : Nat) : Prop := ∃ kp, kp ≤ 8 ∧ fqI σ (26 + 4 * p) 4 = nI kp
theorem factorX_eq (k n : Nat) (σ : fqS) (c : Int64) (r : Nat) (hr : r < 3) : pX6_factorOf k n σ c (nI r) = some (fac r c) := by
  unfold pX6_factorOf fac
  simp (disch := omega) only [z2, z1, nI_eq]
  split
  · rfl
  · split
    · rfl
    · rfl
theorem reckX_eq (k n : Nat) (σ : fqS) (p r B : Nat) (hp : p < n) (hr : r < 3) (hn : n ≤ 16) (hN : fqI σ 1 2 = nI n) (hk : 16 < k) (hB : B < 2 ^ n) (hG : gpX n σ) (hKp : gpK σ p) (h0 : accN (cX σ B) n ≠ 0) : ∃ τ, pX6_reckon k n σ p (nI B) (nI r) = some (1, τ) ∧ eqW (wpX p) σ τ ∧ rkX σ τ p r (accN (cX σ B) n) := by
  have h16 := p2n hn
  obtain ⟨U, hU⟩ : ∃ U, U = accN (cX σ B) n := ⟨_, rfl⟩
  have hUl : U < 2 ^ n := by rw [hU]; exact accN_lt _ _
  have eU := undX_eq k n σ B hn hN hk hB
  rw [← hU] at eU h0 ⊢
  obtain ⟨kp, p1, p2⟩ := hKp
  obtain ⟨⟨kd, d1, d2⟩, oT⟩ := hG p hp
  obtain ⟨σ7, a1, a2, a3, a4⟩ := keepX_eq k n σ p kp ((500000 : Int64) * Int32.toInt64 (nI r) - cOf (SX σ) U p) (by omega) p1 p2
  have oF : okF (fun l => fac r (cAt (SX σ) U l)) := okF_fac r hn hUl h0 (fun q hq => (hG q hq).2)
  have loop : ∃ τ, pX6_reckon_L35 k n p (nI B) (nI r) (nI U) (0, σ7) = some (1, τ) ∧ eqW (fun c _ => c = 3 ∨ c = 26 + 4 * p + 2) σ7 τ ∧ ∀ l, l < 7 → fqJ τ (26 + 4 * p + 2) l = mvK kd (SX σ p) (fun l => fac r (cAt (SX σ) U l)) l := by
    unfold pX6_reckon_L35
    refine fqL_ex (fun τ => ((1 : Int32), τ)) _ (fun j s => s.1 = nI j ∧ eqW (fun c _ => c = 3) σ7 s.2 ∧ ∀ l, l < j → fqJ s.2 3 l = fac r (cAt (SX σ) U l)) 7 (by omega) ⟨rfl, eqW.rf _, fun l hl => absurd hl (by omega)⟩ ?_ ?_
    · rintro j ⟨x, τ⟩ hj ⟨rfl, hw, hv⟩
      have eS : SX τ = SX σ := by
        funext a b
        show fqJ τ (26 + 4 * a + 1) b = fqJ σ (26 + 4 * a + 1) b
        rw [hw.J (by omega), a2.J (by omega)]
      have ec := chAtX_eq k n τ j U hn (by rw [hw.I (by omega), a2.I (by omega)]; exact hN) hk hUl h0
      rw [eS] at ec
      refine ⟨(nI (j + 1), fqPJ τ 3 j (fac r (cAt (SX σ) U j))), ⟨rfl, hw.tr (eqW_PJ (S := fun c _ => c = 3) rfl), fun l hl => ?_⟩, fun rec => ?_⟩
      · by_cases e : l = j
        · subst e; exact fqJ_s _ _ _ _
        · rw [fqJ_n _ _ _ _ _ _ (by omega)]; exact hv l (by omega)
      · simp (disch := omega) only [pX6_reckon_L35b, z7, nI_leI, ite_f, ec, factorX_eq, Option.bind_some, nI_n0, false_or, nI_clamp, nI_1, fqN_eq]
    · rintro ⟨x, τ⟩ ⟨rfl, hw, hv⟩
      obtain ⟨τ', b1, b2, b3⟩ := reckNextX_eq k n τ p kd (SX σ p) (fun l => fac r (cAt (SX σ) U l)) d1 (by rw [hw.I (by omega), a2.I (by omega)]; exact d2) (fun l hl => by rw [hw.J (by omega), a2.J (by omega)]; rfl) hv (by omega) oT oF
      refine ⟨τ', ⟨(hw.mono (fun c j h => Or.inl h)).tr (b2.mono (fun c j h => Or.inr h)), b3⟩, fun rec => ?_⟩
      simp (disch := omega) only [pX6_reckon_L35b, z7, nI_leI, ite_t, b1, Option.bind_some]
  obtain ⟨τ, c1, c2, c3⟩ := loop
  refine ⟨τ, ?_, (a2.mono (fun c j h => by unfold wpX; omega)).tr (c2.mono (fun c j h => by unfold wpX; omega)), kp, kd, p1, d1, p2, d2, ?_, fun i hi => ?_, c3⟩
  · simp (disch := omega) only [pX6_reckon, eU, Option.bind_some, nI_leI, nI_ltI, nI_eq, nI_clamp, nI_add, nI_n0, nI_e0, nI_p0, nI_l0, nI_g0, false_or, if_true, if_false, ite_t, ite_f, chOfX_eq k n σ p U hn hN hk hUl h0, a1]
    exact c1
  · rw [c2.I (by omega)]; exact a3
  · rw [c2.J (by omega)]; exact a4 i hi
theorem reckX_0 (k n : Nat) (σ : fqS) (p r B : Nat) (hn : n ≤ 16) (hN : fqI σ 1 2 = nI n) (hk : 16 < k) (hB : B < 2 ^ n) (h0 : accN (cX σ B) n = 0) : pX6_reckon k n σ p (nI B) (nI r) = some (0, σ) := by
  have eU := undX_eq k n σ B hn hN hk hB
  rw [h0] at eU
  simp only [pX6_reckon, eU, Option.bind_some, nI_0, if_true]
def rkM (σ τ : fqS) (p r U : Nat) : Prop := ∃ kp kd, kp ≤ 8 ∧ kd < 3 ∧ fqI σ 5 p = nI kp ∧ fqI σ 2 p = nI kd ∧ fqI τ 5 p = nI (upK kp) ∧ (∀ i, i < upK kp → fqJ τ 4 (8 * p + i) = sv (fun i => fqJ σ 4 (8 * p + i)) kp ((500000 : Int64) * Int32.toInt64 (nI r) - cOf (SM σ) U p) i) ∧ ∀ l, l < 7 → fqJ τ 3 (7 * p + l) = mvK kd (fun l => fqJ σ 3 (7 * p + l)) (fun l => fac r (cAt (SM σ) U l)) l
def wpM (p c j : Nat) : Prop := c = 19 ∨ (c = 3 ∧ 7 * p ≤ j ∧ j < 7 * p + 7) ∨ (c = 5 ∧ j = p) ∨ (c = 4 ∧ 8 * p ≤ j ∧ j < 8 * p + 8)
def gpM (n : Nat) (σ : fqS) : Prop := ∀ p, p < n → okT (SM σ p)
def gpN (σ : fqS) (p : Nat) : Prop := (∃ kp, kp ≤ 8 ∧ fqI σ 5 p = nI kp) ∧ (∃ kd, kd < 3 ∧ fqI σ 2 p = nI kd) ∧ okT (fun l => fqJ σ 3 (7 * p + l))
theorem takeM_eq (k n : Nat) (σ : fqS) (p r B : Nat) (hp : p < n) (hr : r < 3) (hn : n ≤ 16) (hN : fqI σ 0 1 = nI n) (hk : 16 < k) (hB : B < 2 ^ n) (hG : gpM n σ) (hKp : gpN σ p) (h0 : accN (cM σ B) n ≠ 0) : ∃ τ, pX9_takeResult k 0 σ (nI p) (nI r) (nI B) = some (1, τ) ∧ eqW (wpM p) σ τ ∧ rkM σ τ p r (accN (cM σ B) n) := by
  have h16 := p2n hn
  obtain ⟨U, hU⟩ : ∃ U, U = accN (cM σ B) n := ⟨_, rfl⟩
  have hUl : U < 2 ^ n := by rw [hU]; exact accN_lt _ _
  have eU := undM_eq k n σ B hn hN hk hB
  rw [← hU] at eU h0 ⊢
  obtain ⟨⟨kp, p1, p2⟩, ⟨kd, d1, d2⟩, oT⟩ := hKp
  obtain ⟨σ7, a1, a2, a3, a4⟩ := keepM_eq k σ p kp ((500000 : Int64) * Int32.toInt64 (nI r) - cOf (SM σ) U p) (by omega) (by omega) p1 p2
  have oF : okF (fun l => fac r (cAt (SM σ) U l)) := okF_fac r hn hUl h0 (fun q hq => hG q hq)
  obtain ⟨m1, m2, m3⟩ := mv_ok oT oF
  have eS7 : SM σ7 = SM σ := by
    funext a b
    exact a2.J (by omega)
  obtain ⟨σ9, b1, b2, b3⟩ := moveM_eq k n σ7 p r U (fun l => fqJ σ 3 (7 * p + l)) (fun l => fac r (cAt (SM σ) U l)) (by omega) hr hn (by rw [a2.I (by omega)]; exact hN) hUl h0 (fun l hl => a2.J (by omega)) (fun l hl => by rw [eS7]) hk m2
  have hd9 : fqI σ9 2 p = nI kd := by rw [b2.I (by omega), a2.I (by omega)]; exact d2
  by_cases e : kd = 1
  · obtain ⟨n1, n2, n3⟩ := mv_ok m3 oF
    have eS9 : SM σ9 = SM σ := by
      funext a b
      exact (b2.J (by omega)).trans (a2.J (by omega))
    obtain ⟨σ13, c1, c2, c3⟩ := moveM_eq k n σ9 p r U (mv (fun l => fqJ σ 3 (7 * p + l)) (fun l => fac r (cAt (SM σ) U l))) (fun l => fac r (cAt (SM σ) U l)) (by omega) hr hn (by rw [b2.I (by omega), a2.I (by omega)]; exact hN) hUl h0 b3 (fun l hl => by rw [eS9]) hk n2
    refine ⟨σ13, ?_, ((a2.mono (fun c j h => by unfold wpM; omega)).tr (b2.mono (fun c j h => by unfold wpM; omega))).tr (c2.mono (fun c j h => by unfold wpM; omega)), kp, kd, p1, d1, p2, d2, ?_, fun i hi => ?_, fun l hl => ?_⟩
    · subst e
      simp (disch := omega) only [pX9_takeResult, eU, Option.bind_some, nI_leI, nI_ltI, nI_eq, nI_clamp, nI_add, nI_n0, nI_e0, nI_p0, nI_l0, nI_g0, false_or, if_true, if_false, ite_t, ite_f, chOfM_eq k n σ p U (by omega) hn hN hk hUl h0, a1, b1, hd9, z1, c1]
    · rw [c2.I (by omega), b2.I (by omega)]; exact a3
    · rw [c2.J (by omega), b2.J (by omega)]; exact a4 i hi
    · unfold mvK
      rw [if_pos e]
      exact c3 l hl
  · refine ⟨σ9, ?_, (a2.mono (fun c j h => by unfold wpM; omega)).tr (b2.mono (fun c j h => by unfold wpM; omega)), kp, kd, p1, d1, p2, d2, ?_, fun i hi => ?_, fun l hl => ?_⟩
    · have e1 : ¬ nI kd = 1 := by rw [z1, nI_eq (by omega) (by omega)]; exact e
      simp (disch := omega) only [pX9_takeResult, eU, Option.bind_some, nI_leI, nI_ltI, nI_eq, nI_clamp, nI_add, nI_n0, nI_e0, nI_p0, nI_l0, nI_g0, false_or, if_true, if_false, ite_t, ite_f, chOfM_eq k n σ p U (by omega) hn hN hk hUl h0, a1, b1, hd9, if_neg e1]
    · rw [b2.I (by omega)]; exact a3
    · rw [b2.J (by omega)]; exact a4 i hi
    · unfold mvK
      rw [if_neg e]
      exact b3 l hl
theorem takeM_0 (k n : Nat) (σ : fqS) (p r B : Nat) (hn : n ≤ 16) (hN : fqI σ 0 1 = nI n) (hk : 16 < k) (hB : B < 2 ^ n) (h0 : accN (cM σ B) n = 0) : pX9_takeResult k 0 σ (nI p) (nI r) (nI B) = some (0, σ) := by
  have eU := undM_eq k n σ B hn hN hk hB
  rw [h0] at eU
  simp only [pX9_takeResult, eU, Option.bind_some, nI_0, if_true]
