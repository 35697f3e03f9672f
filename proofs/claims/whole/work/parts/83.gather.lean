/-! the class's teams -/
theorem playersAt_eq {K n q w s : Nat} {qb qs : Nat → Nat} {σ : fqS} (hK : 16 < K) (hw : w ≤ 10) (hx : Qx q w qb qs σ) (hs : s < 2 ^ 31) : pX7_playersAt K n σ q (nI s) = some (nI (plB qb s w)) := by
  unfold pX7_playersAt pX7_playersAt_L4
  refine fqL_go (fun j => (nI (plB qb s (min j w)), nI j)) 10 ?_ (by omega) ?_ ?_
  · show ((0 : Int32), (0 : Int32)) = (nI (plB qb s (min 0 w)), nI 0)
    rw [Nat.zero_min]; rfl
  · intro rec
    show pX7_playersAt_L4b K n σ q (nI s) rec (nI (plB qb s (min 10 w))) (nI 10) = _
    rw [show min 10 w = w by omega]
    simp (disch := omega) only [pX7_playersAt_L4b, z10, nI_leI, ite_t]
  · intro j hj rec
    show pX7_playersAt_L4b K n σ q (nI s) rec (nI (plB qb s (min j w))) (nI j) = rec (nI (plB qb s (min (j + 1) w)), nI (j + 1))
    cases hb : s.testBit j with
    | false =>
      have e : plB qb s (min (j + 1) w) = plB qb s (min j w) := by
        rcases Nat.lt_or_ge j w with h | h
        · rw [show min (j + 1) w = j + 1 by omega, show min j w = j by omega, plB, hb]; rfl
        · rw [show min (j + 1) w = w by omega, show min j w = w by omega]
      rw [e]
      simp (disch := omega) only [pX7_playersAt_L4b, z10, nI_leI, ite_f, hasBit_f (B := s) (p := j) hs (by omega) hb, Option.bind_some, if_true, nI_1]
    | true =>
      rcases Nat.lt_or_ge j w with h | h
      · rw [show min (j + 1) w = j + 1 by omega, show min j w = j by omega, plB, hb, if_pos rfl]
        simp (disch := omega) only [pX7_playersAt_L4b, z10, nI_leI, ite_f, hasBit_t (B := s) (p := j) hs (by omega) hb, Option.bind_some, c10, if_false, partyAt_in hx hw h, nI_or, nI_1]
      · rw [show min (j + 1) w = w by omega, show min j w = w by omega]
        simp (disch := omega) only [pX7_playersAt_L4b, z10, nI_leI, ite_f, hasBit_t (B := s) (p := j) hs (by omega) hb, Option.bind_some, c10, if_false, partyAt_out hx hw h hj, or_z, nI_1]
def mnB (M : Nat → Nat) (B : Nat) : Nat → Nat
  | 0 => 0
  | j + 1 => if B.testBit j then mnB M B j + M j else mnB M B j
theorem mnB_le {M : Nat → Nat} {B m : Nat} : ∀ {n : Nat}, (∀ p, p < n → M p ≤ m) → mnB M B n ≤ n * m
  | 0, _ => by show 0 ≤ _; omega
  | n + 1, h => by
    have ih := mnB_le (M := M) (B := B) (n := n) (fun p hp => h p (by omega))
    have hn := h n (by omega)
    have e : (n + 1) * m = n * m + m := Nat.succ_mul n m
    rw [mnB]
    split <;> omega
theorem meansOf_eq {K n B : Nat} {M : Nat → Nat} {σ : fqS} (hn : n ≤ 16) (hN : fqI σ 1 2 = nI n) (hK : 16 < K) (hB : B < 2 ^ 31) (hM : ∀ p, p < n → pX5_ownMean K n σ p = some (lN (M p))) : pX6_meansOf K n σ (nI B) = some (lN (mnB M B n)) := by
  unfold pX6_meansOf pX6_meansOf_L5
  refine fqL_go (fun j => (lN (mnB M B (min j n)), nI j)) 16 ?_ (by omega) ?_ ?_
  · show ((0 : Int64), (0 : Int32)) = (lN (mnB M B (min 0 n)), nI 0)
    rw [Nat.zero_min]; rfl
  · intro rec
    show pX6_meansOf_L5b K n σ (nI B) rec (lN (mnB M B (min 16 n))) (nI 16) = _
    rw [show min 16 n = n by omega]
    simp (disch := omega) only [pX6_meansOf_L5b, z16, nI_leI, ite_t]
  · intro j hj rec
    show pX6_meansOf_L5b K n σ (nI B) rec (lN (mnB M B (min j n))) (nI j) = rec (lN (mnB M B (min (j + 1) n)), nI (j + 1))
    have ha := atX_i (k := K) hN hn hj
    by_cases hjn : j < n
    · have hrow : fqRow n j = some j := by unfold fqRow; rw [if_pos hjn]
      rw [show min (j + 1) n = j + 1 by omega, show min j n = j by omega, mnB]
      cases hb : B.testBit j with
      | true =>
        rw [if_pos rfl]
        simp (disch := omega) only [pX6_meansOf_L5b, ha, hrow, Option.bind_some, fqM_some, z16, nI_leI, ite_t, ite_f, hasBit_t (B := B) (p := j) hB (by omega) hb, c10, if_false, hM j hjn, lN_add, nI_1]
      | false =>
        rw [if_neg (by decide)]
        simp (disch := omega) only [pX6_meansOf_L5b, ha, hrow, Option.bind_some, fqM_some, z16, nI_leI, ite_t, ite_f, hasBit_f (B := B) (p := j) hB (by omega) hb, if_true, nI_1]
    · have hrow : fqRow n j = none := by unfold fqRow; rw [if_neg hjn]
      rw [show min (j + 1) n = n by omega, show min j n = n by omega]
      simp (disch := omega) only [pX6_meansOf_L5b, ha, hrow, Option.bind_some, fqM_none, z16, nI_leI, ite_f, nI_1]
/-- a player's mean -/
def mnP (sh : Nat → Nat → Nat) (p : Nat) : Nat := totN (fun l => l * sh p l) 7
theorem mnP_le {sh : Nat → Nat → Nat} {p : Nat} (h : totN (sh p) 7 = 1000000) : mnP sh p ≤ 6000000 := by
  unfold mnP
  simp only [totN] at h ⊢
  omega
theorem ownX {K n : Nat} {sh : Nat → Nat → Nat} {σ : fqS} (hK : 16 < K) {p : Nat} (h : ∀ l, l < 7 → fqJ σ (26 + 4 * p + 1) l = lN (sh p l)) : pX5_ownMean K n σ p = some (lN (mnP sh p)) := by
  rw [ownMean_eq K n σ p (by omega)]
  congr 1
  exact sumJ_lN (fun l hl => by rw [h l hl, nI_l (by omega), lN_mul])
theorem ownM {K : Nat} {sh : Nat → Nat → Nat} {σ : fqS} (hK : 16 < K) {p : Nat} (hp : p < 16) (h : ∀ l, l < 7 → fqJ σ 3 (7 * p + l) = lN (sh p l)) : pX9_meanOf K 0 σ (nI p) = some (lN (mnP sh p)) := by
  rw [meanOf_eq K σ p hp (by omega)]
  congr 1
  exact sumJ_lN (fun l hl => by rw [h l hl, nI_l (by omega), lN_mul])
-- how many
theorem cntB_or {p q : Nat → Bool} (h : ∀ i, (p i && q i) = false) : ∀ n, cntB (fun i => p i || q i) n = cntB p n + cntB q n
  | 0 => rfl
  | n + 1 => by
    have ih := cntB_or h n
    have hn := h n
    rw [cntB, cntB, cntB, ih]
    cases e1 : p n <;> cases e2 : q n <;> simp_all <;> omega
theorem pop_or {a b : Nat} (h : a &&& b = 0) : pop (a ||| b) = pop a + pop b := by
  unfold pop
  rw [← cntB_or (p := fun i => a.testBit i) (q := fun i => b.testBit i)]
  · exact cntB_congr (fun i _ => Nat.testBit_or a b i)
  · intro i
    show (a.testBit i && b.testBit i) = false
    rw [← Nat.testBit_and, h, Nat.zero_testBit]
theorem pop_pl {n w : Nat} {qb : Nat → Nat} {s : Nat} (hn : n ≤ 16) : ∀ {j : Nat}, j ≤ w → (∀ k, k < w → 0 < qb k ∧ qb k < 2 ^ n) → (∀ i j, i < w → j < w → i ≠ j → qb i &&& qb j = 0) → cntB (fun i => s.testBit i) j ≤ pop (plB qb s j)
  | 0, _, _, _ => by show 0 ≤ _; omega
  | j + 1, hj, h1, h2 => by
    have ih := pop_pl (s := s) hn (j := j) (by omega) h1 h2
    rw [cntB, plB]
    cases e : s.testBit j with
    | false => rw [if_neg (by decide), if_neg (by decide)]; omega
    | true =>
      rw [if_pos rfl, if_pos rfl, pop_or]
      · have := pop_pos hn (h1 j (by omega)).2 (by have := (h1 j (by omega)).1; omega)
        omega
      · apply Nat.eq_of_testBit_eq
        intro p
        rw [Nat.zero_testBit, Nat.testBit_and]
        cases e1 : (plB qb s j).testBit p with
        | false => rfl
        | true =>
          obtain ⟨k, k1, k2, k3⟩ := plB_bit.mp e1
          have z := h2 k j (by omega) (by omega) (by omega)
          have z2 : (qb k &&& qb j).testBit p = false := by rw [z, Nat.zero_testBit]
          rw [Nat.testBit_and, k3] at z2
          simpa using z2
theorem pop_s {n w s : Nat} {qb : Nat → Nat} (hn : n ≤ 16) (hw : w ≤ 10) (hs : s < 2 ^ w) (h1 : ∀ k, k < w → 0 < qb k ∧ qb k < 2 ^ n) (h2 : ∀ i j, i < w → j < w → i ≠ j → qb i &&& qb j = 0) : pop s ≤ pop (plB qb s w) := by
  have h := pop_pl (s := s) hn (Nat.le_refl w) h1 h2
  have e : pop s = cntB (fun i => s.testBit i) w := by
    unfold pop
    rw [← cntB_stop (c := fun i => s.testBit i) (n := w) (fun i hi => bit_lt hs hi) (16 - w), show w + (16 - w) = 16 by omega]
  omega
/-- no more than 175 teams -/
def cc (v : Nat) : Nat := ((List.range v).filter (fun s => decide (0 < s ∧ pop s ≤ 3))).length
theorem cc_all : cc 1024 = 175 := by decide +kernel
theorem cc_mono (v : Nat) : ∀ m, cc v ≤ cc (v + m)
  | 0 => Nat.le_refl _
  | m + 1 => by
    have ih := cc_mono v m
    have e : cc (v + m) ≤ cc (v + m + 1) := by
      unfold cc
      rw [List.range_succ, List.filter_append, List.length_append]
      omega
    exact Nat.le_trans ih e
def tmL (qb : Nat → Nat) (w T v : Nat) : List Nat := (List.range v).filter (fun s => decide (pop (plB qb s w) = T))
theorem pl_0 (qb : Nat → Nat) : ∀ w, plB qb 0 w = 0
  | 0 => rfl
  | w + 1 => by rw [plB, Nat.zero_testBit, if_neg (by decide), pl_0 qb w]
theorem tmL_up {qb : Nat → Nat} {w T v : Nat} (h : pop (plB qb v w) = T) : tmL qb w T (v + 1) = tmL qb w T v ++ [v] := by
  unfold tmL
  rw [List.range_succ, List.filter_append, List.filter_cons_of_pos (by rw [h]; simp)]
  rfl
theorem tmL_no {qb : Nat → Nat} {w T v : Nat} (h : ¬ pop (plB qb v w) = T) : tmL qb w T (v + 1) = tmL qb w T v := by
  unfold tmL
  rw [List.range_succ, List.filter_append, List.filter_cons_of_neg (by simp [h])]
  simp
theorem tmL_cc {n w T : Nat} {qb : Nat → Nat} (hn : n ≤ 16) (hw : w ≤ 10) (hT : 1 ≤ T) (hT3 : T ≤ 3) (h1 : ∀ k, k < w → 0 < qb k ∧ qb k < 2 ^ n) (h2 : ∀ i j, i < w → j < w → i ≠ j → qb i &&& qb j = 0) : ∀ v, v ≤ 2 ^ w → (tmL qb w T v).length ≤ cc v
  | 0, _ => Nat.le_refl _
  | v + 1, hv => by
    have ih := tmL_cc hn hw hT hT3 h1 h2 v (by omega)
    by_cases h : pop (plB qb v w) = T
    · rw [tmL_up h, List.length_append]
      have hp := pop_s hn hw (show v < 2 ^ w by omega) h1 h2
      have h0 : 0 < v := by
        rcases Nat.eq_zero_or_pos v with q | q
        · rw [q, pl_0] at h
          have e0 : pop 0 = 0 := by decide
          omega
        · exact q
      have e : cc (v + 1) = cc v + 1 := by
        unfold cc
        rw [List.range_succ, List.filter_append, List.filter_cons_of_pos (by simp; omega)]
        simp
      rw [e]
      show (tmL qb w T v).length + 1 ≤ _
      omega
    · rw [tmL_no h]
      have := cc_mono v 1
      omega
theorem p10 {w : Nat} (h : w ≤ 10) : 2 ^ w ≤ 1024 := Nat.pow_le_pow_right (by omega) h
theorem tmL_lt {n w T v : Nat} {qb : Nat → Nat} (hn : n ≤ 16) (hw : w ≤ 10) (hT : 1 ≤ T) (hT3 : T ≤ 3) (h1 : ∀ k, k < w → 0 < qb k ∧ qb k < 2 ^ n) (h2 : ∀ i j, i < w → j < w → i ≠ j → qb i &&& qb j = 0) (hv : v ≤ 2 ^ w) : (tmL qb w T v).length ≤ 175 := by
  have a := tmL_cc hn hw hT hT3 h1 h2 v hv
  have b := cc_mono v (1024 - v)
  have c := p10 hw
  rw [show v + (1024 - v) = 1024 by omega, cc_all] at b
  omega
theorem addX {K n s v c : Nat} {σ : fqS} (h : fqI σ 10 2 = nI c) (hc : c < 175) : pX3_add K n σ (nI s) (lN v) = some (fqPI (fqPJ (fqPI σ 11 c (nI s)) 12 c (lN v)) 10 2 (nI (c + 1))) := by
  have h' : fqI (fqPI σ 11 c (nI s)) 10 2 = nI c := by rw [fqI_n _ _ _ _ _ _ (by omega)]; exact h
  simp (disch := omega) only [pX3_add, h, h', z175, nI_leI, nI_ltI, nI_eq, nI_clamp, nI_add, nI_n0, nI_e0, nI_p0, nI_l0, nI_g0, false_or, if_true, if_false, ite_t, ite_f, fqN_eq, fqI_PJ, nI_1]
/-- the teams that stand in the class's cells -/
def TmX (TL : List Nat) (mn : Nat → Nat) (σ : fqS) : Prop := fqI σ 10 2 = nI TL.length ∧ ∀ i x, TL[i]? = some x → fqI σ 11 i = nI x ∧ fqJ σ 12 i = lN (mn x)
def gXS (c k : Nat) : Prop := (c = 10 ∧ k = 2) ∨ c = 11 ∨ c = 12
/-- what the class's row and tables hold -/
def RowX (n q w T : Nat) (qb qs : Nat → Nat) (sh : Nat → Nat → Nat) (σ : fqS) : Prop := fqI σ 1 2 = nI n ∧ fqI σ 0 10 = nI T ∧ Qx q w qb qs σ ∧ ∀ p, p < n → ∀ l, l < 7 → fqJ σ (26 + 4 * p + 1) l = lN (sh p l)
theorem RowX_fr {S : Nat → Nat → Prop} {n q w T : Nat} {qb qs : Nat → Nat} {sh : Nat → Nat → Nat} {σ τ : fqS} (h : RowX n q w T qb qs sh σ) (e : eqW S σ τ) (a1 : ¬ S 1 2) (a2 : ¬ S 0 10) (a3 : ¬ S q 2 ∧ ∀ k, ¬ S (q + 1) k ∧ ¬ S (q + 2) k) (a4 : ∀ p l, ¬ S (26 + 4 * p + 1) l) : RowX n q w T qb qs sh τ :=
  ⟨by rw [e.I a1]; exact h.1, by rw [e.I a2]; exact h.2.1, Qx_fr h.2.2.1 e a3, fun p hp l hl => by rw [e.J (a4 p l)]; exact h.2.2.2 p hp l hl⟩
def OkQ (n w T : Nat) (qb : Nat → Nat) : Prop := n ≤ 16 ∧ w ≤ 10 ∧ 1 ≤ T ∧ T ≤ 3 ∧ (∀ k, k < w → 0 < qb k ∧ qb k < 2 ^ n) ∧ ∀ i j, i < w → j < w → i ≠ j → qb i &&& qb j = 0
theorem gather_eq {K n q w T : Nat} {qb qs : Nat → Nat} {sh : Nat → Nat → Nat} {σ : fqS} (hK : 1024 < K) (hq : q = 4 ∨ q = 7) (hO : OkQ n w T qb) (hX : RowX n q w T qb qs sh σ) : ∃ τ, pX3_gather K n σ q (nI T) = some τ ∧ TmX (tmL qb w T (2 ^ w)) (fun s => mnB (mnP sh) (plB qb s w) n) τ ∧ eqW gXS σ τ := by
  obtain ⟨hn, hw, hT, hT3, h1, h2⟩ := hO
  have h16 := p2n hn
  have hw2 := p10 hw
  have hwp := Nat.two_pow_pos w
  have hS1 : eqW gXS σ (fqPI σ 10 2 0) := eqW_PI (Or.inl ⟨rfl, rfl⟩)
  have hfr : ∀ {τ}, eqW gXS σ τ → RowX n q w T qb qs sh τ := fun e => RowX_fr hX e (by unfold gXS; omega) (by unfold gXS; omega) ⟨by unfold gXS; omega, fun k => by unfold gXS; omega⟩ (fun p l => by unfold gXS; omega)
  have hend : (1 : Int32) <<< ((if (10 : Int32) < nI w then (10 : Int32) else nI w) &&& 31) = nI (2 ^ w) := by
    rw [if_neg (by rw [z10, nI_ltI (by omega) (by omega)]; omega), nI_one (by omega)]
  unfold pX3_gather pX3_gather_L21
  simp only [fqN_eq, (hfr hS1).2.2.1.1, hend]
  have hm1 : ∀ x, pop (plB qb x w) = T → (tmL qb w T x).length < 175 ∨ ¬ x < 2 ^ w := by
    intro x hx
    by_cases q : x < 2 ^ w
    · have := tmL_lt hn hw hT hT3 h1 h2 (show x + 1 ≤ 2 ^ w by omega)
      rw [tmL_up hx, List.length_append] at this
      exact Or.inl (by have e : ([x] : List Nat).length = 1 := rfl; omega)
    · exact Or.inr q
  obtain ⟨τ, a, b⟩ := fqL_ex (f := fun τ : fqS => τ) (body := fun rec (s : (Int32 × fqS)) => pX3_gather_L21b K n q (nI T) (nI (2 ^ w)) rec s.1 s.2)
    (fun τ => TmX (tmL qb w T (2 ^ w)) (fun s => mnB (mnP sh) (plB qb s w) n) τ ∧ eqW gXS σ τ)
    (fun j s => s.1 = nI (j + 1) ∧ TmX (tmL qb w T (j + 1)) (fun s => mnB (mnP sh) (plB qb s w) n) s.2 ∧ eqW gXS σ s.2) (2 ^ w - 1) (k := K) (s := (1, fqPI σ 10 2 0)) (by omega)
    ⟨rfl, by
      have e : tmL qb w T (0 + 1) = [] := by
        rw [tmL_no (by rw [pl_0]; have e0 : pop 0 = 0 := by decide
                       omega)]
        rfl
      rw [e]
      exact ⟨fqI_s _ _ _ _, fun i x hx => by simp at hx⟩, hS1⟩
    (by
      rintro j ⟨x, τ⟩ hj ⟨rfl, ⟨t1, t2⟩, t3⟩
      obtain ⟨r1, r2, r3, r4⟩ := hfr t3
      have hB := plB_lt (qb := qb) (s := j + 1) (fun k hk => (h1 k hk).2)
      have hpS := pop_s hn hw (show j + 1 < 2 ^ w by omega) h1 h2
      have hpl := pop_le (plB qb (j + 1) w)
      have hpj := pop_le (j + 1)
      have c1 := bitCount_eq K n τ (j + 1) (by omega)
      have c2 := bitCount_eq K n τ (plB qb (j + 1) w) (by omega)
      have c3 := playersAt_eq (K := K) (n := n) (s := j + 1) (by omega) hw r3 (by omega)
      by_cases ht : pop (plB qb (j + 1) w) = T
      · have c4 := meansOf_eq (K := K) (B := plB qb (j + 1) w) (M := mnP sh) hn r1 (by omega) (by omega) (fun p hp => ownX (by omega) (r4 p hp))
        have hl : (tmL qb w T (j + 1)).length < 175 := (hm1 _ ht).resolve_right (fun z => z (by omega))
        have c5 := addX (K := K) (n := n) (s := j + 1) (v := mnB (mnP sh) (plB qb (j + 1) w) n) t1 hl
        refine ⟨(nI (j + 1 + 1), fqPI (fqPJ (fqPI τ 11 (tmL qb w T (j + 1)).length (nI (j + 1))) 12 (tmL qb w T (j + 1)).length (lN (mnB (mnP sh) (plB qb (j + 1) w) n))) 10 2 (nI ((tmL qb w T (j + 1)).length + 1))), ⟨rfl, ⟨?_, fun i x hx => ?_⟩, ?_⟩, fun rec => ?_⟩
        · rw [fqI_s, tmL_up ht, List.length_append]; rfl
        · rw [tmL_up ht] at hx
          rcases Nat.lt_or_ge i (tmL qb w T (j + 1)).length with z | z
          · rw [List.getElem?_append_left z] at hx
            obtain ⟨g1, g2⟩ := t2 i x hx
            rw [fqI_n _ _ _ _ _ _ (by omega), fqI_PJ, fqI_n _ _ _ _ _ _ (by omega), fqJ_PI, fqJ_n _ _ _ _ _ _ (by omega), fqJ_PI]
            exact ⟨g1, g2⟩
          · rw [List.getElem?_append_right z] at hx
            have hi0 : i - (tmL qb w T (j + 1)).length = 0 := by
              rcases Nat.eq_zero_or_pos (i - (tmL qb w T (j + 1)).length) with y | y
              · exact y
              · rw [List.getElem?_eq_none (by simp; omega)] at hx; cases hx
            rw [hi0] at hx
            have hx' : x = j + 1 := by simpa using hx.symm
            subst hx'
            have hi : i = (tmL qb w T (j + 1)).length := by omega
            rw [hi, fqI_n _ _ _ _ _ _ (by omega), fqI_PJ, fqI_s, fqJ_PI, fqJ_s]
            exact ⟨rfl, rfl⟩
        · exact ((t3.tr (eqW_PI (by unfold gXS; omega))).tr (eqW_PJ (by unfold gXS; omega))).tr (eqW_PI (by unfold gXS; omega))
        · show pX3_gather_L21b K n q (nI T) (nI (2 ^ w)) rec (nI (j + 1)) τ = _
          unfold pX3_gather_L21b
          rw [ite_f (by rw [nI_leI (by omega) (by omega)]; omega), c1, Option.bind_some, ite_f (by rw [nI_ltI (by omega) (by omega)]; omega), c3, Option.bind_some, c2, Option.bind_some, ite_t (by rw [ht]), c4, Option.bind_some, c5, Option.bind_some, nI_1]
      · refine ⟨(nI (j + 1 + 1), τ), ⟨rfl, ?_, t3⟩, fun rec => ?_⟩
        · rw [tmL_no ht]; exact ⟨t1, t2⟩
        · show pX3_gather_L21b K n q (nI T) (nI (2 ^ w)) rec (nI (j + 1)) τ = _
          unfold pX3_gather_L21b
          rw [ite_f (by rw [nI_leI (by omega) (by omega)]; omega), c1, Option.bind_some]
          by_cases hp : T < pop (j + 1)
          · rw [ite_t (by rw [nI_ltI (by omega) (by omega)]; omega), nI_1]
          · rw [ite_f (by rw [nI_ltI (by omega) (by omega)]; omega), c3, Option.bind_some, c2, Option.bind_some, ite_f (by rw [nI_eq (by omega) (by omega)]; exact ht), nI_1])
    (by
      rintro ⟨x, τ⟩ ⟨rfl, t1, t3⟩
      rw [show 2 ^ w - 1 + 1 = 2 ^ w by omega] at t1
      refine ⟨τ, ⟨t1, t3⟩, fun rec => ?_⟩
      show pX3_gather_L21b K n q (nI T) (nI (2 ^ w)) rec (nI (2 ^ w - 1 + 1)) τ = _
      unfold pX3_gather_L21b
      rw [ite_t (by rw [nI_leI (by omega) (by omega)]; omega)])
  exact ⟨τ, a, b⟩
