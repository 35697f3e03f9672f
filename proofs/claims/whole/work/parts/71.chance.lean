/-! chances -/
theorem fqL_one {S α : Type} {body : (S → Option α) → S → Option α} {r : Option α} {k : Nat} {s : S} (hk : 0 < k) (h : ∀ rec, body rec s = r) : fqL body k s = r := fqL_go (fun _ => s) 0 rfl hk h (fun j hj => absurd hj (by omega))
def odC (l m : Nat) : Int64 := (500 : Int64) + (70 : Int64) * Int32.toInt64 (nI l - nI m)
theorem odC_eq : ∀ l, l < 7 → ∀ m, m < 7 → Int32.toInt64 ((500 : Int32) + ((70 : Int32) * (nI l - nI m))) = odC l m := by decide
def SX (σ : fqS) (p l : Nat) : Int64 := fqJ σ (26 + 4 * p + 1) l
def SM (σ : fqS) (p l : Nat) : Int64 := fqJ σ 14 (7 * p + l)
def oddS (S : Nat → Nat → Int64) (l p : Nat) : Int64 := sumJ (fun m => S p m * odC l m) 7
def sumB (B : Nat) (f : Nat → Int64) : Nat → Int64
  | 0 => 0
  | j + 1 => if B.testBit j then sumB B f j + f j else sumB B f j
def cAt (S : Nat → Nat → Int64) (B l : Nat) : Int64 := sumB B (oddS S l) 16 / (1000 * lN (pop B))
def cOf (S : Nat → Nat → Int64) (B p : Nat) : Int64 := sumJ (fun l => S p l * cAt S B l) 7 / 1000000
def tCh (S : Nat → Nat → Int64) (F B : Nat) : Int64 := sumB F (cOf S B) 16 / lN (pop F)
theorem sumB_stop {B n : Nat} (f : Nat → Int64) (h : B < 2 ^ n) : ∀ m, sumB B f (n + m) = sumB B f n
  | 0 => rfl
  | m + 1 => by
    show sumB B f (n + m + 1) = _
    rw [sumB, bit_lt h (by omega), sumB_stop f h m]
    rfl
theorem sumB_16 {B n : Nat} (f : Nat → Int64) (hn : n ≤ 16) (h : B < 2 ^ n) : sumB B f n = sumB B f 16 := by
  rw [← sumB_stop f h (16 - n), show n + (16 - n) = 16 by omega]
theorem sumB_congr {B : Nat} {f g : Nat → Int64} : ∀ {n : Nat}, (∀ i, i < n → B.testBit i = true → f i = g i) → sumB B f n = sumB B g n
  | 0, _ => rfl
  | n + 1, h => by
    rw [sumB, sumB, sumB_congr (fun i hi => h i (by omega))]
    cases e : B.testBit n with
    | true => rw [h n (by omega) e]
    | false => rfl
theorem bit_in {B n i : Nat} (hB : B < 2 ^ n) (hb : B.testBit i = true) : i < n := by
  apply Classical.byContradiction
  intro q
  rw [bit_lt hB (by omega)] at hb
  cases hb
theorem cAt_congr {S S' : Nat → Nat → Int64} {B n : Nat} (hB : B < 2 ^ n) (h : ∀ p, p < n → ∀ l, l < 7 → S p l = S' p l) (l : Nat) : cAt S B l = cAt S' B l := by
  have e : sumB B (oddS S l) 16 = sumB B (oddS S' l) 16 := by
    refine sumB_congr (fun i _ hb => ?_)
    have hi := bit_in hB hb
    unfold oddS
    exact sumJ_congr (fun m hm => by rw [h i hi m hm])
  unfold cAt
  rw [e]
theorem cOf_congr {S S' : Nat → Nat → Int64} {B n : Nat} (hB : B < 2 ^ n) (h : ∀ p, p < n → ∀ l, l < 7 → S p l = S' p l) {p : Nat} (hp : p < n) : cOf S B p = cOf S' B p := by
  have e : sumJ (fun l => S p l * cAt S B l) 7 = sumJ (fun l => S' p l * cAt S' B l) 7 := sumJ_congr (fun l hl => by rw [h p hp l hl, cAt_congr hB h l])
  unfold cOf
  rw [e]
theorem tCh_congr {S S' : Nat → Nat → Int64} {F B n : Nat} (hF : F < 2 ^ n) (hB : B < 2 ^ n) (h : ∀ p, p < n → ∀ l, l < 7 → S p l = S' p l) : tCh S F B = tCh S' F B := by
  have e : sumB F (cOf S B) 16 = sumB F (cOf S' B) 16 := sumB_congr (fun i _ hb => cOf_congr hB h (bit_in hF hb))
  unfold tCh
  rw [e]
theorem pop_le (B : Nat) : pop B ≤ 16 := cntB_le _ _
theorem pop_pos {B n : Nat} (hn : n ≤ 16) (hB : B < 2 ^ n) (h : B ≠ 0) : 0 < pop B := by
  rcases Nat.eq_zero_or_pos (pop B) with q | q
  · exfalso
    apply h
    rw [bits_0 hB]
    intro i hi
    exact cntB_zero.mp q i (by omega)
  · exact q
theorem oddsX_eq (k n : Nat) (σ : fqS) (l p : Nat) (hk : 7 < k) : pX6_oddsAgainst k n σ (nI l) p = some (oddS (SX σ) l p) := by
  unfold pX6_oddsAgainst pX6_oddsAgainst_L5
  refine fqL_go (fun j => (sumJ (fun m => SX σ p m * odC l m) j, nI j)) 7 rfl hk ?_ ?_
  · intro rec
    simp (disch := omega) only [pX6_oddsAgainst_L5b, z7, nI_leI, ite_t]
    rfl
  · intro j hj rec
    simp (disch := omega) only [pX6_oddsAgainst_L5b, z7, nI_leI, nI_n0, false_or, nI_clamp, nI_1, ite_f, sumJ]
    rfl
theorem chAtX_eq (k n : Nat) (σ : fqS) (l B : Nat) (hn : n ≤ 16) (hN : fqI σ 1 2 = nI n) (hk : 16 < k) (hB : B < 2 ^ n) (h0 : B ≠ 0) : pX6_chanceAt k n σ (nI l) (nI B) = some (cAt (SX σ) B l) := by
  have h16 := p2n hn
  have hp := pop_pos hn hB h0
  have hp2 := pop_le B
  unfold pX6_chanceAt pX6_chanceAt_L8
  refine fqL_go (fun j => (sumB B (oddS (SX σ) l) j, lN (cntB (fun i => B.testBit i) j), nI j)) 16 rfl hk ?_ ?_
  · intro rec
    simp (disch := omega) only [pX6_chanceAt_L8b, z16, nI_leI, ite_t]
    show (if lN (pop B) ≤ lN 0 then _ else if lN 1000 * lN (pop B) = lN 0 then _ else _) = _
    rw [lN_mul, if_neg (by rw [lN_le (by omega) (by omega)]; omega), if_neg (by rw [lN_eq (by omega) (by omega)]; omega)]
    rfl
  · intro j hj rec
    have ha := atX_i (k := k) hN hn hj
    by_cases hjn : j < n
    · have hrow : fqRow n j = some j := by unfold fqRow; rw [if_pos hjn]
      cases hb : B.testBit j with
      | true => simp (disch := omega) only [pX6_chanceAt_L8b, ha, hrow, Option.bind_some, fqM_none, fqM_some, fqB2_some, fqN_eq, c10, c00, if_true, if_false, z16, nI_leI, nI_ltI, nI_eq, nI_clamp, nI_add, nI_n0, nI_e0, nI_p0, nI_l0, nI_g0, false_or, if_true, if_false, ite_t, ite_f, hasBit_t (B := B) (by omega) (by omega) hb, oddsX_eq, nI_1, lN_1, sumB, cntB, hb]
      | false => simp (disch := omega) only [pX6_chanceAt_L8b, ha, hrow, Option.bind_some, fqM_none, fqM_some, fqB2_some, fqN_eq, c10, c00, if_true, if_false, z16, nI_leI, nI_ltI, nI_eq, nI_clamp, nI_add, nI_n0, nI_e0, nI_p0, nI_l0, nI_g0, false_or, if_true, if_false, ite_t, ite_f, hasBit_f (B := B) (by omega) (by omega) hb, nI_1, sumB, cntB, hb, Bool.false_eq_true, Nat.add_zero]
    · have hrow : fqRow n j = none := by unfold fqRow; rw [if_neg hjn]
      have hb := bit_lt hB (show n ≤ j by omega)
      simp (disch := omega) only [pX6_chanceAt_L8b, ha, hrow, Option.bind_some, fqM_none, fqM_some, fqB2_some, fqN_eq, c10, c00, if_true, if_false, z16, nI_leI, nI_ltI, nI_eq, nI_clamp, nI_add, nI_n0, nI_e0, nI_p0, nI_l0, nI_g0, false_or, if_true, if_false, ite_t, ite_f, nI_1, sumB, cntB, hb, Bool.false_eq_true, Nat.add_zero]
theorem chOfX_eq (k n : Nat) (σ : fqS) (p B : Nat) (hn : n ≤ 16) (hN : fqI σ 1 2 = nI n) (hk : 16 < k) (hB : B < 2 ^ n) (h0 : B ≠ 0) : pX6_chanceOf k n σ p (nI B) = some (cOf (SX σ) B p) := by
  unfold pX6_chanceOf pX6_chanceOf_L5
  refine fqL_go (fun j => (sumJ (fun l => SX σ p l * cAt (SX σ) B l) j, nI j)) 7 rfl (by omega) ?_ ?_
  · intro rec
    simp (disch := omega) only [pX6_chanceOf_L5b, z7, nI_leI, ite_t]
    rfl
  · intro j hj rec
    simp (disch := omega) only [pX6_chanceOf_L5b, z7, nI_leI, nI_n0, false_or, nI_clamp, nI_1, ite_f, sumJ, chAtX_eq k n σ j B hn hN hk hB h0, Option.bind_some]
    rfl
theorem teamX_eq (k n : Nat) (σ : fqS) (F B : Nat) (hn : n ≤ 16) (hN : fqI σ 1 2 = nI n) (hk : 16 < k) (hF : F < 2 ^ n) (h1 : F ≠ 0) (hB : B < 2 ^ n) (h0 : B ≠ 0) : pX6_teamChance k n σ (nI F) (nI B) = some (tCh (SX σ) F B) := by
  have h16 := p2n hn
  have hp := pop_pos hn hF h1
  have hp2 := pop_le F
  unfold pX6_teamChance pX6_teamChance_L8
  refine fqL_go (fun j => (sumB F (cOf (SX σ) B) j, lN (cntB (fun i => F.testBit i) j), nI j)) 16 rfl hk ?_ ?_
  · intro rec
    simp (disch := omega) only [pX6_teamChance_L8b, z16, nI_leI, ite_t]
    show (if lN (pop F) ≤ lN 0 then _ else if lN (pop F) = lN 0 then _ else _) = _
    rw [if_neg (by rw [lN_le (by omega) (by omega)]; omega), if_neg (by rw [lN_eq (by omega) (by omega)]; omega)]
    rfl
  · intro j hj rec
    have ha := atX_i (k := k) hN hn hj
    by_cases hjn : j < n
    · have hrow : fqRow n j = some j := by unfold fqRow; rw [if_pos hjn]
      cases hb : F.testBit j with
      | true => simp (disch := omega) only [pX6_teamChance_L8b, ha, hrow, Option.bind_some, fqM_none, fqM_some, fqB2_some, fqN_eq, c10, c00, if_true, if_false, z16, nI_leI, nI_ltI, nI_eq, nI_clamp, nI_add, nI_n0, nI_e0, nI_p0, nI_l0, nI_g0, false_or, if_true, if_false, ite_t, ite_f, hasBit_t (B := F) (by omega) (by omega) hb, chOfX_eq k n σ j B hn hN hk hB h0, nI_1, lN_1, sumB, cntB, hb]
      | false => simp (disch := omega) only [pX6_teamChance_L8b, ha, hrow, Option.bind_some, fqM_none, fqM_some, fqB2_some, fqN_eq, c10, c00, if_true, if_false, z16, nI_leI, nI_ltI, nI_eq, nI_clamp, nI_add, nI_n0, nI_e0, nI_p0, nI_l0, nI_g0, false_or, if_true, if_false, ite_t, ite_f, hasBit_f (B := F) (by omega) (by omega) hb, nI_1, sumB, cntB, hb, Bool.false_eq_true, Nat.add_zero]
    · have hrow : fqRow n j = none := by unfold fqRow; rw [if_neg hjn]
      have hb := bit_lt hF (show n ≤ j by omega)
      simp (disch := omega) only [pX6_teamChance_L8b, ha, hrow, Option.bind_some, fqM_none, fqM_some, fqB2_some, fqN_eq, c10, c00, if_true, if_false, z16, nI_leI, nI_ltI, nI_eq, nI_clamp, nI_add, nI_n0, nI_e0, nI_p0, nI_l0, nI_g0, false_or, if_true, if_false, ite_t, ite_f, nI_1, sumB, cntB, hb, Bool.false_eq_true, Nat.add_zero]
-- the reference
theorem layAside_eq (k : Nat) (σ : fqS) (hk : 112 < k) : ∃ τ, pX9_layAside k 0 σ = some τ ∧ eqW (fun c _ => c = 14) σ τ ∧ ∀ i, i < 112 → fqJ τ 14 i = fqJ σ 3 i := by
  unfold pX9_layAside pX9_layAside_L2
  refine fqL_ex (fun τ => τ) _ (fun j s => s.1 = nI j ∧ eqW (fun c _ => c = 14) σ s.2 ∧ ∀ i, i < j → fqJ s.2 14 i = fqJ σ 3 i) 112 hk ⟨rfl, eqW.rf _, fun i hi => absurd hi (by omega)⟩ ?_ ?_
  · rintro j ⟨x1, τ⟩ hj ⟨rfl, hw, hv⟩
    refine ⟨(nI (j + 1), fqPJ τ 14 j (fqJ σ 3 j)), ⟨rfl, hw.tr (eqW_PJ (S := fun c _ => c = 14) rfl), fun i hi => ?_⟩, fun rec => ?_⟩
    · by_cases e : i = j
      · subst e; exact fqJ_s _ _ _ _
      · rw [fqJ_n _ _ _ _ _ _ (by omega)]; exact hv i (by omega)
    · have e : fqJ τ 3 j = fqJ σ 3 j := hw.J (by omega)
      simp (disch := omega) only [pX9_layAside_L2b, Option.bind_some, fqM_none, fqM_some, fqB2_some, fqN_eq, c10, c00, if_true, if_false, z1, z2, z3, z4, z5, z6, z7, z8, z10, z16, z20, z112, z175, z1023, nI_leI, nI_ltI, nI_eq, nI_clamp, nI_add, nI_n0, nI_e0, nI_p0, nI_l0, nI_g0, false_or, if_true, if_false, ite_t, ite_f, e]
  · rintro ⟨x1, τ⟩ ⟨rfl, hw, hv⟩
    refine ⟨τ, ⟨hw, hv⟩, fun rec => ?_⟩
    simp (disch := omega) only [pX9_layAside_L2b, z1, z2, z3, z4, z5, z6, z7, z8, z10, z16, z20, z112, z175, z1023, nI_leI, nI_ltI, nI_eq, nI_clamp, nI_add, nI_n0, nI_e0, nI_p0, nI_l0, nI_g0, false_or, if_true, if_false, ite_t, ite_f]
theorem chAtM_eq (k n : Nat) (σ : fqS) (l B : Nat) (hl : l < 7) (hn : n ≤ 16) (hN : fqI σ 0 1 = nI n) (hk : 16 < k) (hB : B < 2 ^ n) (h0 : B ≠ 0) : pX9_chanceAt k 0 σ (nI l) (nI B) = some (cAt (SM σ) B l) := by
  have h16 := p2n hn
  have hp := pop_pos hn hB h0
  have hp2 := pop_le B
  unfold pX9_chanceAt pX9_chanceAt_L5
  refine fqL_go (fun j => (sumB B (oddS (SM σ) l) j, nI j)) n rfl (by omega) ?_ ?_
  · intro rec
    simp (disch := omega) only [pX9_chanceAt_L5b, hN, nI_leI, ite_t, onesM_eq, Option.bind_some, nI_l]
    rw [show (1000 : Int64) = lN 1000 from rfl, show (0 : Int64) = lN 0 from rfl, lN_mul, if_neg (by rw [lN_eq (by omega) (by omega)]; omega), ← lN_mul, sumB_16 _ hn hB]
    rfl
  · intro j hj rec
    simp (disch := omega) only [pX9_chanceAt_L5b, hN, nI_leI, ite_f]
    cases hb : B.testBit j with
    | true =>
      have hbit := (nI_bit1 (B := B) (p := j) (by omega) (by omega)).mpr hb
      unfold pX9_chanceAt_L17
      refine fqL_go (fun m => (sumB B (oddS (SM σ) l) j + sumJ (fun m => SM σ j m * odC l m) m, nI m)) 7 (by simp only [sumJ, Int64.add_zero]; rfl) (by omega) ?_ ?_
      · intro rec2
        simp (disch := omega) only [pX9_chanceAt_L17b, z7, nI_leI, ite_t, nI_1, sumB, hb, if_true]
        rfl
      · intro m hm rec2
        simp (disch := omega) only [pX9_chanceAt_L17b, z7, nI_leI, ite_f, hbit, if_true, pk_mul, nI_add, nI_n0, false_or, nI_clamp, odC_eq, nI_1, sumJ, Int64.add_assoc]
        rfl
    | false =>
      have hbit : ¬ ((nI B >>> (nI j &&& 31)) &&& (1 : Int32)) = (1 : Int32) := fun q => by rw [(nI_bit1 (B := B) (p := j) (by omega) (by omega)).mp q] at hb; cases hb
      unfold pX9_chanceAt_L17
      refine fqL_one (by omega) (fun rec2 => ?_)
      simp (disch := omega) only [pX9_chanceAt_L17b, z7, z0, nI_leI, ite_f, if_neg hbit, nI_1, sumB, hb, Bool.false_eq_true, if_false]
theorem chOfM_eq (k n : Nat) (σ : fqS) (p B : Nat) (hp : p < 16) (hn : n ≤ 16) (hN : fqI σ 0 1 = nI n) (hk : 16 < k) (hB : B < 2 ^ n) (h0 : B ≠ 0) : pX9_chanceOf k 0 σ (nI p) (nI B) = some (cOf (SM σ) B p) := by
  unfold pX9_chanceOf pX9_chanceOf_L5
  refine fqL_go (fun j => (sumJ (fun l => SM σ p l * cAt (SM σ) B l) j, nI j)) 7 rfl (by omega) ?_ ?_
  · intro rec
    simp (disch := omega) only [pX9_chanceOf_L5b, z7, nI_leI, ite_t]
    rfl
  · intro j hj rec
    simp (disch := omega) only [pX9_chanceOf_L5b, z7, nI_leI, nI_n0, false_or, nI_clamp, nI_1, nI_add, pk_mul, ite_f, sumJ, chAtM_eq k n σ j B hj hn hN hk hB h0, Option.bind_some]
    rfl
theorem teamM_eq (k n : Nat) (σ : fqS) (F B : Nat) (hn : n ≤ 16) (hN : fqI σ 0 1 = nI n) (hk : 16 < k) (hF : F < 2 ^ n) (h1 : F ≠ 0) (hB : B < 2 ^ n) (h0 : B ≠ 0) : pX9_teamChance k 0 σ (nI F) (nI B) = some (tCh (SM σ) F B) := by
  have h16 := p2n hn
  have hp := pop_pos hn hF h1
  have hp2 := pop_le F
  unfold pX9_teamChance pX9_teamChance_L5
  refine fqL_go (fun j => (sumB F (cOf (SM σ) B) j, nI j)) n rfl (by omega) ?_ ?_
  · intro rec
    simp (disch := omega) only [pX9_teamChance_L5b, hN, nI_leI, ite_t, onesM_eq, Option.bind_some, nI_l]
    rw [show (0 : Int64) = lN 0 from rfl, if_neg (by rw [lN_eq (by omega) (by omega)]; omega), sumB_16 _ hn hF]
    rfl
  · intro j hj rec
    cases hb : F.testBit j with
    | true =>
      have hbit := (nI_bit1 (B := F) (p := j) (by omega) (by omega)).mpr hb
      simp (disch := omega) only [pX9_teamChance_L5b, hN, nI_leI, ite_f, hbit, if_true, chOfM_eq k n σ j B (by omega) hn hN hk hB h0, Option.bind_some, nI_1, sumB, hb]
    | false =>
      have hbit : ¬ ((nI F >>> (nI j &&& 31)) &&& (1 : Int32)) = (1 : Int32) := fun q => by rw [(nI_bit1 (B := F) (p := j) (by omega) (by omega)).mp q] at hb; cases hb
      simp (disch := omega) only [pX9_teamChance_L5b, hN, nI_leI, ite_f, if_neg hbit, nI_1, sumB, hb, Bool.false_eq_true, if_false, Int64.add_zero]
/-- the tables of the two at one time -/
theorem shares_both {t n : Nat} {sx sm sm' : fqS} (hR : Rel t n sx sm) (h : ∀ i, i < 112 → fqJ sm' 14 i = fqJ sm 3 i) : ∀ p, p < n → ∀ l, l < 7 → SM sm' p l = SX sx p l := by
  intro p hp l hl
  have hn := hR.1.1
  obtain ⟨_, ⟨sh, s1, s2⟩, _⟩ := hR.2.1 p hp
  unfold SM SX
  rw [h _ (by omega), (s2 l hl).2, (s2 l hl).1]
theorem eq14M {σ τ : fqS} (h : eqW (fun c _ => c = 14) σ τ) : eqM σ τ := h.mono (fun c k h => by unfold scM; omega)
theorem st_chance (K : Nat) (hK : 112 < K) : lwS_chance Rel K := by
  intro t n sx sm x1 x2 ht hR
  obtain ⟨hn, hNx, hNm⟩ := hR.1
  have h16 := p2n hn
  rcases pk_ix x1 (n := n) (by omega) with h | h | ⟨p, hp, rfl⟩
  · refine both_bad (bnd_1 (K := K) hR) ?_ ?_
    · simp only [pX8_chance, atX_out hNx (Or.inl h), Option.bind_some, fqM_none, fqM_some, fqB2_some, fqN_eq, c10, c00, if_true, if_false]
    · simp only [pX9_chance, isPl_out hNm hn (Or.inl h), Option.bind_some, fqM_none, fqM_some, fqB2_some, fqN_eq, c10, c00, if_true, if_false]
  · refine both_bad (bnd_1 (K := K) hR) ?_ ?_
    · simp only [pX8_chance, atX_out hNx (Or.inr h), Option.bind_some, fqM_none, fqM_some, fqB2_some, fqN_eq, c10, c00, if_true, if_false]
    · simp only [pX9_chance, isPl_out hNm hn (Or.inr h), Option.bind_some, fqM_none, fqM_some, fqB2_some, fqN_eq, c10, c00, if_true, if_false]
  have bad2 : (x2 < 0 ∨ nI n ≤ x2) → ∃ (r : Int64) (sx' sm' : fqS), pX8_chance K n sx (nI p) x2 = some (r, sx') ∧ pX9_chance K 0 sm (nI p) x2 = some (r, sm') ∧ Rel (t + 1) n sx' sm' := by
    intro h
    refine both_bad (bnd_1 (K := K) hR) ?_ ?_
    · simp only [pX8_chance, atX_in hNx hn hp, atX_out hNx h, Option.bind_some, fqM_none, fqM_some, fqB2_some, fqN_eq, c10, c00, if_true, if_false, if_pos hp]
    · simp only [pX9_chance, isPl_in hNm hn hp, isPl_out hNm hn h, Option.bind_some, fqM_none, fqM_some, fqB2_some, fqN_eq, c10, c00, if_true, if_false]
  rcases pk_ix x2 (n := n) (by omega) with h | h | ⟨q, hq, rfl⟩
  · exact bad2 (Or.inl h)
  · exact bad2 (Or.inr h)
  by_cases e : p = q
  · subst e
    refine both_bad (bnd_1 (K := K) hR) ?_ ?_
    · simp only [pX8_chance, atX_in hNx hn hp, Option.bind_some, fqM_none, fqM_some, fqB2_some, fqN_eq, c10, c00, if_true, if_false, if_pos hp]
    · simp only [pX9_chance, isPl_in hNm hn hp, Option.bind_some, fqM_none, fqM_some, fqB2_some, fqN_eq, c10, c00, if_true, if_false]
  have hne : ¬ nI p = nI q := by rw [nI_eq (by omega) (by omega)]; exact e
  obtain ⟨τ, t1, t2, t3⟩ := layAside_eq K sm hK
  have hB : 2 ^ q < 2 ^ n := Nat.pow_lt_pow_right (by omega) hq
  have hB0 : 2 ^ q ≠ 0 := by
    have := Nat.two_pow_pos q
    omega
  have hNt : fqI τ 0 1 = nI n := by rw [t2.I (by omega)]; exact hNm
  refine ⟨cOf (SX sx) (2 ^ q) p, sx, τ, ?_, ?_, Rel_up (Rel_eq (eqW.rf _) (eq14M t2) hR)⟩
  · simp (disch := omega) only [pX8_chance, atX_in hNx hn hp, atX_in hNx hn hq, Option.bind_some, fqM_none, fqM_some, fqB2_some, fqN_eq, c10, c00, if_true, if_false, if_pos hp, if_pos hq, if_neg hne, bitOf_eq, chOfX_eq K n sx p (2 ^ q) hn hNx (by omega) hB hB0]
  · simp (disch := omega) only [pX9_chance, isPl_in hNm hn hp, isPl_in hNm hn hq, Option.bind_some, fqM_none, fqM_some, fqB2_some, fqN_eq, c10, c00, if_true, if_false, if_neg hne, t1, nI_one, chOfM_eq K n τ p (2 ^ q) (by omega) hn hNt (by omega) hB hB0]
    rw [cOf_congr hB (shares_both hR t3) hp]
theorem atP_out {k n : Nat} {σ : fqS} {x : Int32} (h : x < 0 ∨ nI 5 ≤ x) : pX2_at k n σ x = some none := by
  unfold pX2_at
  by_cases h0 : x < 0
  · rw [if_pos h0]
  · rw [if_neg h0, if_pos (show (5 : Int32) ≤ x from h.resolve_left h0)]
theorem atP_in {k n : Nat} {σ : fqS} {m : Nat} (h : m < 5) : pX2_at k n σ (nI m) = some (some m) := by
  unfold pX2_at
  simp (disch := omega) only [z1, z2, z3, z4, z5, z6, z7, z8, z10, z16, z20, z112, z175, z1023, nI_leI, nI_ltI, nI_eq, nI_clamp, nI_add, nI_n0, nI_e0, nI_p0, nI_l0, nI_g0, false_or, if_true, if_false, ite_t, ite_f]
theorem isPM_out {k : Nat} {σ : fqS} {x : Int32} (h : x < 0 ∨ nI 5 ≤ x) : pX9_isPlaceOfMatch k 0 σ x = some 0 := by
  rw [isPlaceM_eq, if_neg]
  rintro ⟨h1, h2⟩
  rcases h with h | h
  · exact absurd h (Int32.not_lt.mpr h1)
  · exact absurd (Int32.le_trans h h2) (by decide)
theorem isPM_in {k : Nat} {σ : fqS} {m : Nat} (h : m < 5) : pX9_isPlaceOfMatch k 0 σ (nI m) = some 1 := by
  rw [isPlaceM_eq, if_pos]
  exact ⟨nI_pos' (by omega), nI_le (b := 4) (by omega) (by omega)⟩
theorem Rmi_f0 {n t : Nat} {sx sm : fqS} {m f s d k : Nat} (h : Rmi n t sx sm m f s d k) : f ≠ 0 ∧ s ≠ 0 := by
  obtain ⟨_, _, _, _, _, ⟨p, a, _⟩, ⟨q, b, _⟩, _⟩ := h
  refine ⟨fun e => ?_, fun e => ?_⟩
  · rw [e, Nat.zero_testBit] at a; cases a
  · rw [e, Nat.zero_testBit] at b; cases b
theorem st_match (K : Nat) (hK : 112 < K) : lwS_match Rel K := by
  intro t n sx sm x1 x2 ht hR
  obtain ⟨hn, hNx, hNm⟩ := hR.1
  have h16 := p2n hn
  rcases pk_ix x1 (n := 5) (by omega) with h | h | ⟨m, hm, rfl⟩
  · refine both_bad (bnd_1 (K := K) hR) ?_ ?_
    · simp only [pX8_match, atP_out (Or.inl h), Option.bind_some, fqM_none, fqM_some, fqB2_some, fqN_eq, c10, c00, if_true, if_false]
    · simp only [pX9_match, isPM_out (Or.inl h), Option.bind_some, fqM_none, fqM_some, fqB2_some, fqN_eq, c10, c00, if_true, if_false]
  · refine both_bad (bnd_1 (K := K) hR) ?_ ?_
    · simp only [pX8_match, atP_out (Or.inr h), Option.bind_some, fqM_none, fqM_some, fqB2_some, fqN_eq, c10, c00, if_true, if_false]
    · simp only [pX9_match, isPM_out (Or.inr h), Option.bind_some, fqM_none, fqM_some, fqB2_some, fqN_eq, c10, c00, if_true, if_false]
  have b1 := inM32 K 0 sm x2 0 4 (A := 0) (C := 4) rfl rfl
  by_cases h1 : ¬ (0 ≤ x2 ∧ x2 ≤ 4)
  · rw [if_neg h1] at b1
    refine both_bad (bnd_1 (K := K) hR) ?_ ?_
    · by_cases h : x2 < 0
      · simp only [pX8_match, atP_in hm, Option.bind_some, fqM_none, fqM_some, fqB2_some, fqN_eq, c10, c00, if_true, if_false, if_pos hm, if_pos h]
      · simp only [pX8_match, atP_in hm, Option.bind_some, fqM_none, fqM_some, fqB2_some, fqN_eq, c10, c00, if_true, if_false, if_pos hm, if_neg h, if_neg (fun q => h1 ⟨Int32.not_lt.mp h, q⟩)]
    · simp only [pX9_match, isPM_in hm, b1, Option.bind_some, fqM_none, fqM_some, fqB2_some, fqN_eq, c10, c00, if_true, if_false]
  replace h1 := Classical.not_not.mp h1
  rw [if_pos h1] at b1
  have a1 : ¬ x2 < 0 := Int32.not_lt.mpr h1.1
  rcases hR.2.2.2.2.2.2.2.1 m hm with ⟨g1, g2, g3, g4⟩ | ⟨f, s, d, k, hmi⟩
  · refine both_bad (bnd_2 (K := K) hR) ?_ ?_
    · simp (disch := omega) only [pX8_match, pX1_goesOn, atP_in hm, Option.bind_some, fqM_none, fqM_some, fqB2_some, fqN_eq, c10, c00, if_true, if_false, if_pos hm, if_neg a1, if_pos h1.2, g2, nI_0]
    · simp (disch := omega) only [pX9_match, isPM_in hm, b1, Option.bind_some, fqM_none, fqM_some, fqB2_some, fqN_eq, c10, c00, if_true, if_false, nI_leI, nI_ltI, nI_eq, nI_clamp, nI_add, nI_n0, nI_e0, nI_p0, nI_l0, nI_g0, false_or, if_true, if_false, ite_t, ite_f, g1]
  obtain ⟨f0, s0⟩ := Rmi_f0 hmi
  obtain ⟨g1, g2, g3, g4, g5, g6, g7, g8, g9, g10, g11, g12, g13, g14, g15, g16⟩ := hmi
  have U := Rel_up hR
  have hg : pX1_goesOn K n sx m = some 1 := by
    unfold pX1_goesOn
    rw [g9, if_neg (by rw [nI_e0 (by omega)]; exact f0)]
  obtain ⟨j, hj, rfl⟩ := rng_nI (b := 4) (by omega) h1
  match j, hj with
  | 0, _ =>
    refine ⟨Int32.toInt64 (nI f), sx, sm, ?_, ?_, U⟩
    · simp (disch := omega) only [pX8_match, atP_in hm, Option.bind_some, fqM_none, fqM_some, fqB2_some, fqN_eq, c10, c00, if_true, if_false, if_pos hm, if_neg a1, if_pos h1.2, hg, z4, nI_leI, nI_ltI, nI_eq, nI_clamp, nI_add, nI_n0, nI_e0, nI_p0, nI_l0, nI_g0, false_or, if_true, if_false, ite_t, ite_f, g9]
    · simp (disch := omega) only [pX9_match, isPM_in hm, b1, Option.bind_some, fqM_none, fqM_some, fqB2_some, fqN_eq, c10, c00, if_true, if_false, nI_leI, nI_ltI, nI_eq, nI_clamp, nI_add, nI_n0, nI_e0, nI_p0, nI_l0, nI_g0, false_or, if_true, if_false, ite_t, ite_f, z4, g1, g10]
  | 1, _ =>
    refine ⟨Int32.toInt64 (nI s), sx, sm, ?_, ?_, U⟩
    · simp (disch := omega) only [pX8_match, atP_in hm, Option.bind_some, fqM_none, fqM_some, fqB2_some, fqN_eq, c10, c00, if_true, if_false, if_pos hm, if_neg a1, if_pos h1.2, hg, z1, z2, z3, z4, z5, z6, z7, z8, z10, z16, z20, z112, z175, z1023, nI_leI, nI_ltI, nI_eq, nI_clamp, nI_add, nI_n0, nI_e0, nI_p0, nI_l0, nI_g0, false_or, if_true, if_false, ite_t, ite_f, g11]
    · simp (disch := omega) only [pX9_match, isPM_in hm, b1, Option.bind_some, fqM_none, fqM_some, fqB2_some, fqN_eq, c10, c00, if_true, if_false, nI_leI, nI_ltI, nI_eq, nI_clamp, nI_add, nI_n0, nI_e0, nI_p0, nI_l0, nI_g0, false_or, if_true, if_false, ite_t, ite_f, z1, z2, z3, z4, z5, z6, z7, z8, z10, z16, z20, z112, z175, z1023, g1, g12]
  | 2, _ =>
    refine ⟨Int32.toInt64 (nI d), sx, sm, ?_, ?_, U⟩
    · simp (disch := omega) only [pX8_match, atP_in hm, Option.bind_some, fqM_none, fqM_some, fqB2_some, fqN_eq, c10, c00, if_true, if_false, if_pos hm, if_neg a1, if_pos h1.2, hg, z1, z2, z3, z4, z5, z6, z7, z8, z10, z16, z20, z112, z175, z1023, nI_leI, nI_ltI, nI_eq, nI_clamp, nI_add, nI_n0, nI_e0, nI_p0, nI_l0, nI_g0, false_or, if_true, if_false, ite_t, ite_f, g13]
    · simp (disch := omega) only [pX9_match, isPM_in hm, b1, Option.bind_some, fqM_none, fqM_some, fqB2_some, fqN_eq, c10, c00, if_true, if_false, nI_leI, nI_ltI, nI_eq, nI_clamp, nI_add, nI_n0, nI_e0, nI_p0, nI_l0, nI_g0, false_or, if_true, if_false, ite_t, ite_f, z1, z2, z3, z4, z5, z6, z7, z8, z10, z16, z20, z112, z175, z1023, g1, g14]
  | 3, _ =>
    have g16' : Int32.toInt64 (fqI sm 12 m) = lN k := by rw [g16, nI_l (by omega)]
    refine ⟨lN k, sx, sm, ?_, ?_, U⟩
    · simp (disch := omega) only [pX8_match, atP_in hm, Option.bind_some, fqM_none, fqM_some, fqB2_some, fqN_eq, c10, c00, if_true, if_false, if_pos hm, if_neg a1, if_pos h1.2, hg, z1, z2, z3, z4, z5, z6, z7, z8, z10, z16, z20, z112, z175, z1023, nI_leI, nI_ltI, nI_eq, nI_clamp, nI_add, nI_n0, nI_e0, nI_p0, nI_l0, nI_g0, false_or, if_true, if_false, ite_t, ite_f, g15]
    · simp (disch := omega) only [pX9_match, isPM_in hm, b1, Option.bind_some, fqM_none, fqM_some, fqB2_some, fqN_eq, c10, c00, if_true, if_false, nI_leI, nI_ltI, nI_eq, nI_clamp, nI_add, nI_n0, nI_e0, nI_p0, nI_l0, nI_g0, false_or, if_true, if_false, ite_t, ite_f, z1, z2, z3, z4, z5, z6, z7, z8, z10, z16, z20, z112, z175, z1023, g1, g16']
  | 4, _ =>
    obtain ⟨τ, t1, t2, t3⟩ := layAside_eq K sm hK
    have hNt : fqI τ 0 1 = nI n := by rw [t2.I (by omega)]; exact hNm
    have e9 : fqI τ 9 m = nI f := by rw [t2.I (by omega)]; exact g10
    have e10 : fqI τ 10 m = nI s := by rw [t2.I (by omega)]; exact g12
    refine ⟨tCh (SX sx) f s, sx, τ, ?_, ?_, Rel_up (Rel_eq (eqW.rf _) (eq14M t2) hR)⟩
    · simp (disch := omega) only [pX8_match, atP_in hm, Option.bind_some, fqM_none, fqM_some, fqB2_some, fqN_eq, c10, c00, if_true, if_false, if_pos hm, if_neg a1, if_pos h1.2, hg, z1, z2, z3, z4, z5, z6, z7, z8, z10, z16, z20, z112, z175, z1023, nI_leI, nI_ltI, nI_eq, nI_clamp, nI_add, nI_n0, nI_e0, nI_p0, nI_l0, nI_g0, false_or, if_true, if_false, ite_t, ite_f, g9, g11, teamX_eq K n sx f s hn hNx (by omega) g2 f0 g3 s0]
    · simp (disch := omega) only [pX9_match, isPM_in hm, b1, Option.bind_some, fqM_none, fqM_some, fqB2_some, fqN_eq, c10, c00, if_true, if_false, nI_leI, nI_ltI, nI_eq, nI_clamp, nI_add, nI_n0, nI_e0, nI_p0, nI_l0, nI_g0, false_or, if_true, if_false, ite_t, ite_f, z1, z2, z3, z4, z5, z6, z7, z8, z10, z16, z20, z112, z175, z1023, g1, t1, e9, e10, teamM_eq K n τ f s hn hNt (by omega) g2 f0 g3 s0]
      rw [tCh_congr g2 g3 (shares_both hR t3)]
