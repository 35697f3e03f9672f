/-! moving a table: the two -/
theorem pick1 {P : Nat → Nat → Prop} {n : Nat} (h : ∀ p, p < n → ∃ s, P p s) : ∃ f : Nat → Nat, ∀ p, p < n → P p (f p) := ⟨fun p => if q : p < n then Classical.choose (h p q) else 0, fun p q => by
  have e : (if q : p < n then Classical.choose (h p q) else 0) = Classical.choose (h p q) := dif_pos q
  show P p (if q : p < n then Classical.choose (h p q) else 0)
  rw [e]
  exact Classical.choose_spec (h p q)⟩
def okT (T : Nat → Int64) : Prop := ∃ sh, totN sh 7 = 1000000 ∧ ∀ l, l < 7 → T l = lN (sh l)
def okF (F : Nat → Int64) : Prop := ∀ l, l < 7 → ∃ f, (1 ≤ f ∧ f ≤ 1000000) ∧ F l = lN f
theorem mv_ok {T F : Nat → Int64} (hT : okT T) (hF : okF F) : 0 < mvAll T F ∧ mvAll T F ≠ 0 ∧ okT (mv T F) := by
  obtain ⟨sh, h1, h2⟩ := hT
  obtain ⟨fa, h3⟩ := pick1 hF
  exact mv_N h2 h1 (fun l hl => (h3 l hl).2) (fun l hl => (h3 l hl).1)
theorem okT_congr {T T' : Nat → Int64} (h : ∀ l, l < 7 → T' l = T l) (hT : okT T) : okT T' := by
  obtain ⟨sh, h1, h2⟩ := hT
  exact ⟨sh, h1, fun l hl => by rw [h l hl, h2 l hl]⟩
theorem okF_fac {S : Nat → Nat → Int64} {n B : Nat} (r : Nat) (hn : n ≤ 16) (hB : B < 2 ^ n) (h0 : B ≠ 0) (hS : ∀ p, p < n → ∃ sh, totN sh 7 = 1000000 ∧ ∀ l, l < 7 → S p l = lN (sh l)) : okF (fun l => fac r (cAt S B l)) := by
  intro l hl
  obtain ⟨c, c1, c2, c3⟩ := cAt_N hn hB h0 hl hS
  obtain ⟨f, f1, f2, f3⟩ := fac_N (r := r) c1 c2
  exact ⟨f, ⟨f1, f2⟩, by show fac r (cAt S B l) = _; rw [c3, f3]⟩
def mvK (kd : Nat) (T F : Nat → Int64) : Nat → Int64 := if kd = 1 then mv (mv T F) F else mv T F
theorem mvK_ok {kd : Nat} {T F : Nat → Int64} (hT : okT T) (hF : okF F) : okT (mvK kd T F) := by
  have h1 := (mv_ok hT hF).2.2
  unfold mvK
  split
  · exact (mv_ok h1 hF).2.2
  · exact h1
theorem mvK_congr {kd : Nat} {T T' F F' : Nat → Int64} (h : ∀ l, l < 7 → T l = T' l) (h2 : ∀ l, l < 7 → F l = F' l) {l : Nat} (hl : l < 7) : mvK kd T F l = mvK kd T' F' l := by
  unfold mvK
  split
  · exact mv_congr (fun i hi => mv_congr h h2 hi) h2 hl
  · exact mv_congr h h2 hl
theorem grt_1 (q : Nat → Int64) : grt q 1 = 0 := by
  rw [grt]
  split <;> rfl
theorem greatX_eq (k n : Nat) (σ : fqS) (p : Nat) (hk : 7 < k) : pX5_greatestNext k n σ p = some (nI (grt (fun l => fqJ σ (26 + 4 * p + 2) l) 7)) := by
  unfold pX5_greatestNext pX5_greatestNext_L4
  refine fqL_go (fun j => (nI (grt (fun l => fqJ σ (26 + 4 * p + 2) l) (j + 1)), nI (j + 1))) 6 (by rw [grt_1]; rfl) (by omega) ?_ ?_
  · intro rec
    simp (disch := omega) only [pX5_greatestNext_L4b, z7, nI_leI, ite_t]
  · intro j hj rec
    have hg := grt_lt (fun l => fqJ σ (26 + 4 * p + 2) l) (j := j + 1) (by omega)
    have e2 : grt (fun l => fqJ σ (26 + 4 * p + 2) l) (j + 1 + 1) = if fqJ σ (26 + 4 * p + 2) (j + 1) ≤ fqJ σ (26 + 4 * p + 2) (grt (fun l => fqJ σ (26 + 4 * p + 2) l) (j + 1)) then grt (fun l => fqJ σ (26 + 4 * p + 2) l) (j + 1) else j + 1 := rfl
    rw [e2]
    simp (disch := omega) only [pX5_greatestNext_L4b, z7, nI_leI, nI_n0, false_or, nI_clamp, nI_1, ite_f]
    split
    · rfl
    · rfl
theorem moveX_eq (k n : Nat) (σ : fqS) (p : Nat) (T F : Nat → Int64) (hT : ∀ l, l < 7 → fqJ σ (26 + 4 * p + 2) l = T l) (hF : ∀ l, l < 7 → fqJ σ 3 l = F l) (hk : 7 < k) (h1 : 0 < mvAll T F) (h2 : mvAll T F ≠ 0) : ∃ τ, pX5_moveNext k n σ p = some τ ∧ eqW (fun c _ => c = 26 + 4 * p + 2) σ τ ∧ ∀ l, l < 7 → fqJ τ (26 + 4 * p + 2) l = mv T F l := by
  have loop : ∃ τ, pX5_moveNext_L58 k n p (mvAll T F) (1000000, 0, σ) = some τ ∧ eqW (fun c _ => c = 26 + 4 * p + 2) σ τ ∧ ∀ l, l < 7 → fqJ τ (26 + 4 * p + 2) l = mv T F l := by
    unfold pX5_moveNext_L58
    refine fqL_ex (fun τ => τ) _ (fun j s => s.1 = lft (mvQ T F) j ∧ s.2.1 = nI j ∧ eqW (fun c _ => c = 26 + 4 * p + 2) σ s.2.2 ∧ ∀ l, l < 7 → fqJ s.2.2 (26 + 4 * p + 2) l = if l < j then mvQ T F l else T l) 7 hk ⟨rfl, rfl, eqW.rf _, fun l hl => by rw [if_neg (by omega)]; exact hT l hl⟩ ?_ ?_
    · rintro j ⟨x4, x6, τ⟩ hj ⟨rfl, rfl, hw, hv⟩
      have v1 : fqJ τ (26 + 4 * p + 2) j = T j := by rw [hv j hj, if_neg (by omega)]
      have v2 : fqJ τ 3 j = F j := by rw [hw.J (by omega)]; exact hF j hj
      refine ⟨(lft (mvQ T F) (j + 1), nI (j + 1), fqPJ τ (26 + 4 * p + 2) j (mvQ T F j)), ⟨rfl, rfl, hw.tr (eqW_PJ (S := fun c _ => c = 26 + 4 * p + 2) rfl), fun l hl => ?_⟩, fun rec => ?_⟩
      · by_cases e : l = j
        · subst e; rw [fqJ_s, if_pos (by omega)]
        · rw [fqJ_n _ _ _ _ _ _ (by omega), hv l hl]
          by_cases q : l < j
          · rw [if_pos q, if_pos (by omega)]
          · rw [if_neg q, if_neg (by omega)]
      · simp (disch := omega) only [pX5_moveNext_L58b, z7, nI_leI, nI_n0, false_or, nI_clamp, nI_1, ite_f, v1, v2, if_neg h2, fqN_eq, fqJ_s]
        rfl
    · rintro ⟨x4, x6, τ⟩ ⟨rfl, rfl, hw, hv⟩
      have eg : grt (fun l => fqJ τ (26 + 4 * p + 2) l) 7 = grt (mvQ T F) 7 := grt_congr (fun i hi => by rw [hv i hi, if_pos hi])
      have hg := grt_lt (mvQ T F) (j := 7) (by omega)
      refine ⟨fqPJ τ (26 + 4 * p + 2) (grt (mvQ T F) 7) (mvQ T F (grt (mvQ T F) 7) + lft (mvQ T F) 7), ⟨hw.tr (eqW_PJ (S := fun c _ => c = 26 + 4 * p + 2) rfl), fun l hl => ?_⟩, fun rec => ?_⟩
      · unfold mv
        by_cases e : l = grt (mvQ T F) 7
        · rw [if_pos e, e, fqJ_s]
        · rw [if_neg e, fqJ_n _ _ _ _ _ _ (by omega), hv l hl, if_pos hl]
      · simp (disch := omega) only [pX5_moveNext_L58b, z7, nI_leI, ite_t, greatX_eq, eg, Option.bind_some, nI_n0, false_or, nI_clamp, ite_f, fqN_eq, hv _ hg]
  obtain ⟨τ, e1, e2⟩ := loop
  refine ⟨τ, ?_, e2⟩
  unfold pX5_moveNext pX5_moveNext_L5
  refine fqL_go (fun j => (sumJ (fun l => T l * F l) j, nI j, σ)) 7 rfl hk ?_ ?_
  · intro rec
    simp (disch := omega) only [pX5_moveNext_L5b, z7, nI_leI, ite_t]
    rw [if_pos (show 0 < sumJ (fun l => T l * F l) 7 from h1)]
    exact e1
  · intro j hj rec
    simp (disch := omega) only [pX5_moveNext_L5b, z7, nI_leI, nI_n0, false_or, nI_clamp, nI_1, ite_f, hT j hj, hF j hj, sumJ]
theorem reckNextX_eq (k n : Nat) (σ : fqS) (p kd : Nat) (T F : Nat → Int64) (hkd : kd < 3) (hK : fqI σ (26 + 4 * p) 0 = nI kd) (hT : ∀ l, l < 7 → fqJ σ (26 + 4 * p + 1) l = T l) (hF : ∀ l, l < 7 → fqJ σ 3 l = F l) (hk : 7 < k) (oT : okT T) (oF : okF F) : ∃ τ, pX5_reckonNext k n σ p = some τ ∧ eqW (fun c _ => c = 26 + 4 * p + 2) σ τ ∧ ∀ l, l < 7 → fqJ τ (26 + 4 * p + 2) l = mvK kd T F l := by
  unfold pX5_reckonNext pX5_reckonNext_L2
  refine fqL_ex (fun τ => τ) _ (fun j s => s.1 = nI j ∧ eqW (fun c _ => c = 26 + 4 * p + 2) σ s.2 ∧ ∀ l, l < j → fqJ s.2 (26 + 4 * p + 2) l = T l) 7 hk ⟨rfl, eqW.rf _, fun l hl => absurd hl (by omega)⟩ ?_ ?_
  · rintro j ⟨x, τ⟩ hj ⟨rfl, hw, hv⟩
    have v1 : fqJ τ (26 + 4 * p + 1) j = T j := by rw [hw.J (by omega)]; exact hT j hj
    refine ⟨(nI (j + 1), fqPJ τ (26 + 4 * p + 2) j (T j)), ⟨rfl, hw.tr (eqW_PJ (S := fun c _ => c = 26 + 4 * p + 2) rfl), fun l hl => ?_⟩, fun rec => ?_⟩
    · by_cases e : l = j
      · subst e; exact fqJ_s _ _ _ _
      · rw [fqJ_n _ _ _ _ _ _ (by omega)]; exact hv l (by omega)
    · simp (disch := omega) only [pX5_reckonNext_L2b, z7, nI_leI, nI_n0, false_or, nI_clamp, nI_1, ite_f, v1, fqN_eq]
  · rintro ⟨x, τ⟩ ⟨rfl, hw, hv⟩
    obtain ⟨m1, m2, m3⟩ := mv_ok oT oF
    obtain ⟨τ1, a1, a2, a3⟩ := moveX_eq k n τ p T F hv (fun l hl => by rw [hw.J (by omega)]; exact hF l hl) hk m1 m2
    have hK1 : fqI τ1 (26 + 4 * p) 0 = nI kd := by rw [a2.I (by omega), hw.I (by omega)]; exact hK
    by_cases e : kd = 1
    · obtain ⟨n1, n2, n3⟩ := mv_ok m3 oF
      obtain ⟨τ2, b1, b2, b3⟩ := moveX_eq k n τ1 p (mv T F) F a3 (fun l hl => by rw [a2.J (by omega), hw.J (by omega)]; exact hF l hl) hk n1 n2
      refine ⟨τ2, ⟨(hw.tr a2).tr b2, fun l hl => ?_⟩, fun rec => ?_⟩
      · unfold mvK
        rw [if_pos e]
        exact b3 l hl
      · subst e
        simp (disch := omega) only [pX5_reckonNext_L2b, z7, nI_leI, ite_t, a1, b1, Option.bind_some, hK1, z1, if_true]
    · refine ⟨τ1, ⟨hw.tr a2, fun l hl => ?_⟩, fun rec => ?_⟩
      · unfold mvK
        rw [if_neg e]
        exact a3 l hl
      · simp (disch := omega) only [pX5_reckonNext_L2b, z7, nI_leI, ite_t, a1, Option.bind_some, hK1, z1, nI_eq, ite_f]
theorem settleX_eq (k n : Nat) (σ : fqS) (p : Nat) (hk : 7 < k) : ∃ τ, pX5_settle k n σ p = some τ ∧ eqW (fun c _ => c = 26 + 4 * p + 1) σ τ ∧ ∀ l, l < 7 → fqJ τ (26 + 4 * p + 1) l = fqJ σ (26 + 4 * p + 2) l := by
  unfold pX5_settle pX5_settle_L2
  refine fqL_ex (fun τ => τ) _ (fun j s => s.1 = nI j ∧ eqW (fun c _ => c = 26 + 4 * p + 1) σ s.2 ∧ ∀ l, l < j → fqJ s.2 (26 + 4 * p + 1) l = fqJ σ (26 + 4 * p + 2) l) 7 hk ⟨rfl, eqW.rf _, fun l hl => absurd hl (by omega)⟩ ?_ ?_
  · rintro j ⟨x, τ⟩ hj ⟨rfl, hw, hv⟩
    have v1 : fqJ τ (26 + 4 * p + 2) j = fqJ σ (26 + 4 * p + 2) j := hw.J (by omega)
    refine ⟨(nI (j + 1), fqPJ τ (26 + 4 * p + 1) j (fqJ σ (26 + 4 * p + 2) j)), ⟨rfl, hw.tr (eqW_PJ (S := fun c _ => c = 26 + 4 * p + 1) rfl), fun l hl => ?_⟩, fun rec => ?_⟩
    · by_cases e : l = j
      · subst e; exact fqJ_s _ _ _ _
      · rw [fqJ_n _ _ _ _ _ _ (by omega)]; exact hv l (by omega)
    · simp (disch := omega) only [pX5_settle_L2b, z7, nI_leI, nI_n0, false_or, nI_clamp, nI_1, ite_f, v1, fqN_eq]
  · rintro ⟨x, τ⟩ ⟨rfl, hw, hv⟩
    refine ⟨τ, ⟨hw, hv⟩, fun rec => ?_⟩
    simp (disch := omega) only [pX5_settle_L2b, z7, nI_leI, ite_t]
-- the reference
theorem moveM_eq (k n : Nat) (σ : fqS) (p r B : Nat) (T F : Nat → Int64) (hp : p < 16) (hr : r < 3) (hn : n ≤ 16) (hN : fqI σ 0 1 = nI n) (hB : B < 2 ^ n) (h0 : B ≠ 0) (hT : ∀ l, l < 7 → fqJ σ 3 (7 * p + l) = T l) (hF : ∀ l, l < 7 → fac r (cAt (SM σ) B l) = F l) (hk : 16 < k) (h2 : mvAll T F ≠ 0) : ∃ τ, pX9_moveTable k 0 σ (nI p) (nI r) (nI B) = some τ ∧ eqW (fun c j => c = 19 ∨ (c = 3 ∧ 7 * p ≤ j ∧ j < 7 * p + 7)) σ τ ∧ ∀ l, l < 7 → fqJ τ 3 (7 * p + l) = mv T F l := by
  have h16 := p2n hn
  have loop : ∀ σ', eqW (fun c j => c = 19 ∨ (c = 3 ∧ 7 * p ≤ j ∧ j < 7 * p + 7)) σ σ' → (∀ l, l < 7 → fqJ σ' 3 (7 * p + l) = T l) → (∀ l, l < 7 → fqJ σ' 19 l = T l * F l) → ∃ τ, pX9_moveTable_L119 k 0 (nI p) (nI r) (nI B) (mvAll T F) (1000000, 0, 0, σ') = some τ ∧ eqW (fun c j => c = 19 ∨ (c = 3 ∧ 7 * p ≤ j ∧ j < 7 * p + 7)) σ τ ∧ ∀ l, l < 7 → fqJ τ 3 (7 * p + l) = mv T F l := by
    intro σ' hw0 hv0 hc0
    unfold pX9_moveTable_L119
    refine fqL_ex (fun τ => τ) _ (fun j s => s.1 = lft (mvQ T F) j ∧ s.2.1 = nI (grt (mvQ T F) j) ∧ s.2.2.1 = nI j ∧ eqW (fun c j => c = 19 ∨ (c = 3 ∧ 7 * p ≤ j ∧ j < 7 * p + 7)) σ s.2.2.2 ∧ (∀ l, l < 7 → fqJ s.2.2.2 19 l = T l * F l) ∧ ∀ l, l < 7 → fqJ s.2.2.2 3 (7 * p + l) = if l < j then mvQ T F l else T l) 7 (by omega) ⟨rfl, rfl, rfl, hw0, hc0, fun l hl => by rw [if_neg (by omega)]; exact hv0 l hl⟩ ?_ ?_
    · rintro j ⟨x6, x8, x9, τ⟩ hj ⟨rfl, rfl, rfl, hw, hc, hv⟩
      have hg : grt (mvQ T F) j ≤ j ∧ grt (mvQ T F) j < 7 := by
        rcases Nat.eq_zero_or_pos j with e | e
        · subst e; exact ⟨Nat.le_refl _, by show 0 < 7; omega⟩
        · have := grt_lt (mvQ T F) e
          omega
      have vg : fqJ (fqPJ τ 3 (7 * p + j) (mvQ T F j)) 3 (7 * p + grt (mvQ T F) j) = mvQ T F (grt (mvQ T F) j) := by
        by_cases e : grt (mvQ T F) j = j
        · rw [e, fqJ_s]
        · rw [fqJ_n _ _ _ _ _ _ (by omega), hv _ hg.2, if_pos (by omega)]
      have eq2 : T j * F j * 1000000 / mvAll T F = mvQ T F j := rfl
      refine ⟨(lft (mvQ T F) (j + 1), nI (grt (mvQ T F) (j + 1)), nI (j + 1), fqPJ τ 3 (7 * p + j) (mvQ T F j)), ⟨rfl, rfl, rfl, hw.tr (eqW_PJ (S := fun c j => c = 19 ∨ (c = 3 ∧ 7 * p ≤ j ∧ j < 7 * p + 7)) (Or.inr ⟨rfl, by omega, by omega⟩)), fun l hl => ?_, fun l hl => ?_⟩, fun rec => ?_⟩
      · rw [fqJ_n _ _ _ _ _ _ (by omega)]; exact hc l hl
      · by_cases e : l = j
        · subst e; rw [fqJ_s, if_pos (by omega)]
        · rw [fqJ_n _ _ _ _ _ _ (by omega), hv l hl]
          by_cases q : l < j
          · rw [if_pos q, if_pos (by omega)]
          · rw [if_neg q, if_neg (by omega)]
      · have eg : grt (mvQ T F) (j + 1) = if mvQ T F j ≤ mvQ T F (grt (mvQ T F) j) then grt (mvQ T F) j else j := rfl
        simp (disch := omega) only [pX9_moveTable_L119b, z7, nI_leI, pk_mul, nI_add, nI_n0, false_or, nI_clamp, nI_1, ite_f, if_neg h2, hc j hj, fqN_eq, eq2, vg, eg]
        split
        · rfl
        · rfl
    · rintro ⟨x6, x8, x9, τ⟩ ⟨rfl, rfl, rfl, hw, hc, hv⟩
      have hg := grt_lt (mvQ T F) (j := 7) (by omega)
      refine ⟨fqPJ τ 3 (7 * p + grt (mvQ T F) 7) (mvQ T F (grt (mvQ T F) 7) + lft (mvQ T F) 7), ⟨hw.tr (eqW_PJ (S := fun c j => c = 19 ∨ (c = 3 ∧ 7 * p ≤ j ∧ j < 7 * p + 7)) (Or.inr ⟨rfl, by omega, by omega⟩)), fun l hl => ?_⟩, fun rec => ?_⟩
      · unfold mv
        by_cases e : l = grt (mvQ T F) 7
        · rw [if_pos e, e, fqJ_s]
        · rw [if_neg e, fqJ_n _ _ _ _ _ _ (by omega), hv l hl, if_pos hl]
      · have vg := hv _ hg
        rw [if_pos hg] at vg
        simp (disch := omega) only [pX9_moveTable_L119b, z7, nI_leI, ite_t, pk_mul, nI_add, nI_n0, false_or, nI_clamp, ite_f, fqN_eq, vg]
  unfold pX9_moveTable pX9_moveTable_L6
  refine fqL_ex (fun τ => τ) _ (fun j s => s.1 = sumJ (fun l => T l * F l) j ∧ s.2.1 = nI j ∧ eqW (fun c _ => c = 19) σ s.2.2 ∧ ∀ l, l < j → fqJ s.2.2 19 l = T l * F l) 7 (by omega) ⟨rfl, rfl, eqW.rf _, fun l hl => absurd hl (by omega)⟩ ?_ ?_
  · rintro j ⟨x4, x6, τ⟩ hj ⟨rfl, rfl, hw, hv⟩
    have eS : SM τ = SM σ := by
      funext a b
      exact hw.J (by omega)
    have ec := chAtM_eq k n τ j B hj hn (by rw [hw.I (by omega)]; exact hN) hk hB h0
    rw [eS] at ec
    have v1 : fqJ τ 3 (7 * p + j) = T j := by rw [hw.J (by omega)]; exact hT j hj
    refine ⟨(sumJ (fun l => T l * F l) (j + 1), nI (j + 1), fqPJ τ 19 j (T j * F j)), ⟨rfl, rfl, hw.tr (eqW_PJ (S := fun c _ => c = 19) rfl), fun l hl => ?_⟩, fun rec => ?_⟩
    · by_cases e : l = j
      · subst e; exact fqJ_s _ _ _ _
      · rw [fqJ_n _ _ _ _ _ _ (by omega)]; exact hv l (by omega)
    · have fin : ∀ x, x = F j → pX9_moveTable_J58 k 0 (nI p) (nI r) (nI B) (sumJ (fun l => T l * F l) j) (nI j) x τ rec = rec (sumJ (fun l => T l * F l) (j + 1), nI (j + 1), fqPJ τ 19 j (T j * F j)) := by
        intro x hx
        subst hx
        simp (disch := omega) only [pX9_moveTable_J58, z7, pk_mul, nI_add, nI_n0, false_or, nI_clamp, nI_1, ite_f, fqN_eq, v1, fqJ_s, sumJ]
      have hFj := hF j hj
      unfold fac at hFj
      simp (disch := omega) only [pX9_moveTable_L6b, z7, nI_leI, ite_f, ec, Option.bind_some]
      by_cases e2 : r = 2
      · subst e2
        rw [if_pos rfl] at hFj
        rw [if_pos (show nI 2 = (2 : Int32) from rfl)]
        exact fin _ hFj
      · rw [if_neg e2] at hFj
        rw [if_neg (by rw [z2, nI_eq (by omega) (by omega)]; exact e2)]
        by_cases e0 : r = 0
        · subst e0
          rw [if_neg (by decide)] at hFj
          rw [if_pos (show nI 0 = (0 : Int32) from rfl)]
          exact fin _ hFj
        · rw [if_pos (by omega)] at hFj
          rw [if_neg (by rw [nI_e0 (by omega)]; exact e0)]
          exact fin _ hFj
  · rintro ⟨x4, x6, τ⟩ ⟨rfl, rfl, hw, hv⟩
    obtain ⟨τ', e1, e2⟩ := loop τ (hw.mono (fun c k h => Or.inl h)) (fun l hl => by rw [hw.J (by omega)]; exact hT l hl) hv
    refine ⟨τ', e2, fun rec => ?_⟩
    simp (disch := omega) only [pX9_moveTable_L6b, z7, nI_leI, ite_t]
    rw [if_neg (show ¬ sumJ (fun l => T l * F l) 7 = 0 from h2)]
    exact e1
