/-! one result: the two -/
def accN (c : Nat → Bool) : Nat → Nat
  | 0 => 0
  | j + 1 => if c j then accN c j ||| 2 ^ j else accN c j
theorem accN_lt (c : Nat → Bool) : ∀ j, accN c j < 2 ^ j
  | 0 => by show 0 < 1; omega
  | j + 1 => by
    have ih := accN_lt c j
    have e : 2 ^ (j + 1) = 2 ^ j * 2 := Nat.pow_succ ..
    rw [accN]
    split
    · exact or_lt (by omega) (by have := Nat.two_pow_pos j; omega)
    · omega
theorem accN_bit (c : Nat → Bool) : ∀ (j i : Nat), (accN c j).testBit i = (decide (i < j) && c i)
  | 0, i => by rw [accN, Nat.zero_testBit]; simp
  | j + 1, i => by
    have ih := accN_bit c j i
    rw [accN]
    cases e : c j with
    | true =>
      rw [if_pos rfl, Nat.testBit_or, ih, bit_2p]
      by_cases q : j = i
      · subst q; simp [e]
      · rcases Nat.lt_or_ge i j with h | h
        · simp [q, h, show i < j + 1 by omega]
        · simp [q, show ¬ i < j by omega, show ¬ i < j + 1 by omega]
    | false =>
      rw [if_neg (by decide), ih]
      by_cases q : j = i
      · subst q; simp [e]
      · rcases Nat.lt_or_ge i j with h | h
        · simp [h, show i < j + 1 by omega]
        · simp [show ¬ i < j by omega, show ¬ i < j + 1 by omega]
theorem accN_congr {c d : Nat → Bool} : ∀ {n : Nat}, (∀ i, i < n → c i = d i) → accN c n = accN d n
  | 0, _ => rfl
  | n + 1, h => by rw [accN, accN, accN_congr (fun i hi => h i (by omega)), h n (by omega)]
theorem accN_stop {c : Nat → Bool} {n : Nat} (h : ∀ i, n ≤ i → c i = false) : ∀ m, accN c (n + m) = accN c n
  | 0 => rfl
  | m + 1 => by
    show accN c (n + m + 1) = _
    rw [accN, h (n + m) (by omega), accN_stop h m]
    rfl
theorem accN_self {B n : Nat} (h : B < 2 ^ n) : accN (fun i => B.testBit i) n = B := by
  apply Nat.eq_of_testBit_eq
  intro i
  rw [accN_bit]
  rcases Nat.lt_or_ge i n with q | q
  · simp [q]
  · rw [bit_lt h q]; simp
def cX (σ : fqS) (B p : Nat) : Bool := B.testBit p && decide (¬ fqI σ (26 + 4 * p) 0 = 2)
def cM (σ : fqS) (B p : Nat) : Bool := B.testBit p && decide (¬ fqI σ 2 p = 2)
theorem undX_eq (k n : Nat) (σ : fqS) (B : Nat) (hn : n ≤ 16) (hN : fqI σ 1 2 = nI n) (hk : 16 < k) (hB : B < 2 ^ n) : pX6_undoubted k n σ (nI B) = some (nI (accN (cX σ B) n)) := by
  have h16 := p2n hn
  have e16 : accN (cX σ B) n = accN (cX σ B) 16 := by
    have e := accN_stop (c := cX σ B) (n := n) (fun i hi => by unfold cX; rw [bit_lt hB hi]; rfl) (16 - n)
    rw [show n + (16 - n) = 16 by omega] at e
    exact e.symm
  rw [e16]
  unfold pX6_undoubted pX6_undoubted_L4
  refine fqL_go (fun j => (nI (accN (cX σ B) j), nI j)) 16 rfl hk ?_ ?_
  · intro rec
    simp (disch := omega) only [pX6_undoubted_L4b, z16, nI_leI, ite_t]
  · intro j hj rec
    have ha := atX_i (k := k) hN hn hj
    by_cases hjn : j < n
    · have hrow : fqRow n j = some j := by unfold fqRow; rw [if_pos hjn]
      cases hb : B.testBit j with
      | true =>
        by_cases hd : fqI σ (26 + 4 * j) 0 = 2
        · have hc : cX σ B j = false := by unfold cX; simp [hb, hd]
          simp (disch := omega) only [pX6_undoubted_L4b, ha, hrow, Option.bind_some, fqM_none, fqM_some, fqB2_some, fqN_eq, c10, c00, if_true, if_false, z16, nI_leI, nI_ltI, nI_eq, nI_clamp, nI_add, nI_n0, nI_e0, nI_p0, nI_l0, nI_g0, false_or, if_true, if_false, ite_t, ite_f, hasBit_t (B := B) (by omega) (by omega) hb, if_pos hd, nI_1, accN, hc, Bool.false_eq_true]
        · have hc : cX σ B j = true := by unfold cX; simp [hb, hd]
          simp (disch := omega) only [pX6_undoubted_L4b, ha, hrow, Option.bind_some, fqM_none, fqM_some, fqB2_some, fqN_eq, c10, c00, if_true, if_false, z16, nI_leI, nI_ltI, nI_eq, nI_clamp, nI_add, nI_n0, nI_e0, nI_p0, nI_l0, nI_g0, false_or, if_true, if_false, ite_t, ite_f, hasBit_t (B := B) (by omega) (by omega) hb, if_neg hd, nI_1, accN, hc, bitOf_eq, nI_or]
      | false =>
        have hc : cX σ B j = false := by unfold cX; simp [hb]
        simp (disch := omega) only [pX6_undoubted_L4b, ha, hrow, Option.bind_some, fqM_none, fqM_some, fqB2_some, fqN_eq, c10, c00, if_true, if_false, z16, nI_leI, nI_ltI, nI_eq, nI_clamp, nI_add, nI_n0, nI_e0, nI_p0, nI_l0, nI_g0, false_or, if_true, if_false, ite_t, ite_f, hasBit_f (B := B) (by omega) (by omega) hb, nI_1, accN, hc, Bool.false_eq_true]
    · have hrow : fqRow n j = none := by unfold fqRow; rw [if_neg hjn]
      have hb := bit_lt hB (show n ≤ j by omega)
      have hc : cX σ B j = false := by unfold cX; simp [hb]
      simp (disch := omega) only [pX6_undoubted_L4b, ha, hrow, Option.bind_some, fqM_none, fqM_some, fqB2_some, fqN_eq, c10, c00, if_true, if_false, z16, nI_leI, nI_ltI, nI_eq, nI_clamp, nI_add, nI_n0, nI_e0, nI_p0, nI_l0, nI_g0, false_or, if_true, if_false, ite_t, ite_f, nI_1, accN, hc, Bool.false_eq_true]
theorem undM_eq (k n : Nat) (σ : fqS) (B : Nat) (hn : n ≤ 16) (hN : fqI σ 0 1 = nI n) (hk : 16 < k) (hB : B < 2 ^ n) : pX9_undoubted k 0 σ (nI B) = some (nI (accN (cM σ B) n)) := by
  have h16 := p2n hn
  unfold pX9_undoubted pX9_undoubted_L4
  refine fqL_go (fun j => (nI (accN (cM σ B) j), nI j)) n rfl (by omega) ?_ ?_
  · intro rec
    simp (disch := omega) only [pX9_undoubted_L4b, hN, nI_leI, ite_t]
  · intro j hj rec
    cases hb : B.testBit j with
    | true =>
      have hbit := (nI_bit1 (B := B) (p := j) (by omega) (by omega)).mpr hb
      by_cases hd : fqI σ 2 j = 2
      · have hc : cM σ B j = false := by unfold cM; simp [hb, hd]
        simp (disch := omega) only [pX9_undoubted_L4b, hN, nI_leI, nI_ltI, nI_eq, nI_clamp, nI_add, nI_n0, nI_e0, nI_p0, nI_l0, nI_g0, false_or, if_true, if_false, ite_t, ite_f, hbit, if_pos hd, nI_1, accN, hc, Bool.false_eq_true, or_z]
      · have hc : cM σ B j = true := by unfold cM; simp [hb, hd]
        simp (disch := omega) only [pX9_undoubted_L4b, hN, nI_leI, nI_ltI, nI_eq, nI_clamp, nI_add, nI_n0, nI_e0, nI_p0, nI_l0, nI_g0, false_or, if_true, if_false, ite_t, ite_f, hbit, if_neg hd, nI_1, accN, hc, nI_one, nI_or]
    | false =>
      have hbit : ¬ ((nI B >>> (nI j &&& 31)) &&& (1 : Int32)) = (1 : Int32) := fun q => by rw [(nI_bit1 (B := B) (p := j) (by omega) (by omega)).mp q] at hb; cases hb
      have hc : cM σ B j = false := by unfold cM; simp [hb]
      simp (disch := omega) only [pX9_undoubted_L4b, hN, nI_leI, nI_ltI, nI_eq, nI_clamp, nI_add, nI_n0, nI_e0, nI_p0, nI_l0, nI_g0, false_or, if_true, if_false, ite_t, ite_f, if_neg hbit, nI_1, accN, hc, Bool.false_eq_true, or_z]
def upK (kp : Nat) : Nat := if kp < 8 then kp + 1 else 8
def sv (f : Nat → Int64) (kp : Nat) (v : Int64) (i : Nat) : Int64 := if kp < 8 then (if i = kp then v else f i) else (if i = 7 then v else f (i + 1))
theorem keepX_eq (k n : Nat) (σ : fqS) (p kp : Nat) (v : Int64) (hk : 8 < k) (hkp : kp ≤ 8) (hc : fqI σ (26 + 4 * p) 4 = nI kp) : ∃ τ, pX5_keepSurprise k n σ p v = some τ ∧ eqW (fun c j => (c = 26 + 4 * p ∧ j = 4) ∨ c = 26 + 4 * p + 3) σ τ ∧ fqI τ (26 + 4 * p) 4 = nI (upK kp) ∧ ∀ i, i < upK kp → fqJ τ (26 + 4 * p + 3) i = sv (fun i => fqJ σ (26 + 4 * p + 3) i) kp v i := by
  by_cases h8 : kp < 8
  · refine ⟨fqPI (fqPJ σ (26 + 4 * p + 3) kp v) (26 + 4 * p) 4 (nI (kp + 1)), ?_, ?_, ?_, ?_⟩
    · simp (disch := omega) only [pX5_keepSurprise, z8, hc, nI_leI, nI_ltI, nI_eq, nI_clamp, nI_add, nI_n0, nI_e0, nI_p0, nI_l0, nI_g0, false_or, if_true, if_false, ite_t, ite_f, fqN_eq, nI_1, fqI_PJ]
    · exact (eqW_PJ (S := fun c j => (c = 26 + 4 * p ∧ j = 4) ∨ c = 26 + 4 * p + 3) (Or.inr rfl)).tr (eqW_PI (Or.inl ⟨rfl, rfl⟩))
    · rw [fqI_s]; unfold upK; rw [if_pos h8]
    · intro i hi
      rw [fqJ_PI]
      unfold sv
      rw [if_pos h8]
      by_cases e : i = kp
      · rw [if_pos e, e, fqJ_s]
      · rw [if_neg e, fqJ_n _ _ _ _ _ _ (by omega)]
  · have e8 : kp = 8 := by omega
    subst e8
    have loop : ∃ τ, pX5_keepSurprise_L14 k n p v (1, σ) = some τ ∧ eqW (fun c j => (c = 26 + 4 * p ∧ j = 4) ∨ c = 26 + 4 * p + 3) σ τ ∧ fqI τ (26 + 4 * p) 4 = nI 8 ∧ ∀ i, i < 8 → fqJ τ (26 + 4 * p + 3) i = if i = 7 then v else fqJ σ (26 + 4 * p + 3) (i + 1) := by
      unfold pX5_keepSurprise_L14
      refine fqL_ex (fun τ => τ) _ (fun j s => s.1 = nI (j + 1) ∧ eqW (fun c j => c = 26 + 4 * p + 3) σ s.2 ∧ (∀ i, i < j → fqJ s.2 (26 + 4 * p + 3) i = fqJ σ (26 + 4 * p + 3) (i + 1)) ∧ ∀ i, j ≤ i → fqJ s.2 (26 + 4 * p + 3) i = fqJ σ (26 + 4 * p + 3) i) 7 (by omega) ⟨rfl, eqW.rf _, fun i hi => absurd hi (by omega), fun i _ => rfl⟩ ?_ ?_
      · rintro j ⟨x, τ⟩ hj ⟨rfl, hw, h1, h2⟩
        have v1 : fqJ τ (26 + 4 * p + 3) (j + 1) = fqJ σ (26 + 4 * p + 3) (j + 1) := h2 _ (by omega)
        refine ⟨(nI (j + 1 + 1), fqPJ τ (26 + 4 * p + 3) j (fqJ σ (26 + 4 * p + 3) (j + 1))), ⟨rfl, hw.tr (eqW_PJ (S := fun c j => c = 26 + 4 * p + 3) rfl), fun i hi => ?_, fun i hi => ?_⟩, fun rec => ?_⟩
        · by_cases e : i = j
          · subst e; exact fqJ_s _ _ _ _
          · rw [fqJ_n _ _ _ _ _ _ (by omega)]; exact h1 i (by omega)
        · rw [fqJ_n _ _ _ _ _ _ (by omega)]; exact h2 i (by omega)
        · simp (disch := omega) only [pX5_keepSurprise_L14b, z8, z1, pk_sub, Nat.add_sub_cancel, nI_leI, nI_n0, false_or, nI_clamp, nI_add, ite_f, v1, fqN_eq]
      · rintro ⟨x, τ⟩ ⟨rfl, hw, h1, h2⟩
        refine ⟨fqPI (fqPJ (fqPI τ (26 + 4 * p) 4 (nI 7)) (26 + 4 * p + 3) 7 v) (26 + 4 * p) 4 (nI 8), ⟨?_, fqI_s _ _ _ _, fun i hi => ?_⟩, fun rec => ?_⟩
        · exact (((hw.mono (fun c j h => Or.inr h)).tr (eqW_PI (S := fun c j => (c = 26 + 4 * p ∧ j = 4) ∨ c = 26 + 4 * p + 3) (Or.inl ⟨rfl, rfl⟩))).tr (eqW_PJ (S := fun c j => (c = 26 + 4 * p ∧ j = 4) ∨ c = 26 + 4 * p + 3) (Or.inr rfl))).tr (eqW_PI (Or.inl ⟨rfl, rfl⟩))
        · rw [fqJ_PI]
          by_cases e : i = 7
          · rw [if_pos e, e, fqJ_s]
          · rw [if_neg e, fqJ_n _ _ _ _ _ _ (by omega), fqJ_PI]; exact h1 i (by omega)
        · simp (disch := omega) only [pX5_keepSurprise_L14b, z8, z1, pk_sub, nI_leI, ite_t, fqN_eq, fqI_s, fqI_PJ, nI_n0, false_or, nI_clamp, ite_f, nI_add]
    obtain ⟨τ, l1, l2, l3, l4⟩ := loop
    refine ⟨τ, ?_, l2, l3, fun i hi => l4 i hi⟩
    simp (disch := omega) only [pX5_keepSurprise, z8, hc, nI_ltI, ite_f]
    exact l1
theorem keepM_eq (k : Nat) (σ : fqS) (p kp : Nat) (v : Int64) (hp : p < 16) (hk : 8 < k) (hkp : kp ≤ 8) (hc : fqI σ 5 p = nI kp) : ∃ τ, pX9_keepSurprise k 0 σ (nI p) v = some τ ∧ eqW (fun c j => (c = 5 ∧ j = p) ∨ (c = 4 ∧ 8 * p ≤ j ∧ j < 8 * p + 8)) σ τ ∧ fqI τ 5 p = nI (upK kp) ∧ ∀ i, i < upK kp → fqJ τ 4 (8 * p + i) = sv (fun i => fqJ σ 4 (8 * p + i)) kp v i := by
  by_cases h8 : kp < 8
  · refine ⟨fqPI (fqPJ σ 4 (8 * p + kp) v) 5 p (nI (kp + 1)), ?_, ?_, ?_, ?_⟩
    · simp (disch := omega) only [pX9_keepSurprise, z8, hc, nI_leI, nI_ltI, nI_eq, nI_clamp, nI_add, nI_n0, nI_e0, nI_p0, nI_l0, nI_g0, false_or, if_true, if_false, ite_t, ite_f, pk_mul, fqN_eq, nI_1, fqI_PJ]
    · exact (eqW_PJ (S := fun c j => (c = 5 ∧ j = p) ∨ (c = 4 ∧ 8 * p ≤ j ∧ j < 8 * p + 8)) (Or.inr ⟨rfl, by omega, by omega⟩)).tr (eqW_PI (Or.inl ⟨rfl, rfl⟩))
    · rw [fqI_s]; unfold upK; rw [if_pos h8]
    · intro i hi
      rw [fqJ_PI]
      unfold sv
      rw [if_pos h8]
      by_cases e : i = kp
      · rw [if_pos e, e, fqJ_s]
      · rw [if_neg e, fqJ_n _ _ _ _ _ _ (by omega)]
  · have e8 : kp = 8 := by omega
    subst e8
    have loop : ∃ τ, pX9_keepSurprise_L14 k 0 (nI p) v (1, σ) = some τ ∧ eqW (fun c j => (c = 5 ∧ j = p) ∨ (c = 4 ∧ 8 * p ≤ j ∧ j < 8 * p + 8)) σ τ ∧ fqI τ 5 p = nI 8 ∧ ∀ i, i < 8 → fqJ τ 4 (8 * p + i) = if i = 7 then v else fqJ σ 4 (8 * p + (i + 1)) := by
      unfold pX9_keepSurprise_L14
      refine fqL_ex (fun τ => τ) _ (fun j s => s.1 = nI (j + 1) ∧ eqW (fun c j => c = 4 ∧ 8 * p ≤ j ∧ j < 8 * p + 8) σ s.2 ∧ (∀ i, i < j → fqJ s.2 4 (8 * p + i) = fqJ σ 4 (8 * p + (i + 1))) ∧ ∀ i, j ≤ i → fqJ s.2 4 (8 * p + i) = fqJ σ 4 (8 * p + i)) 7 (by omega) ⟨rfl, eqW.rf _, fun i hi => absurd hi (by omega), fun i _ => rfl⟩ ?_ ?_
      · rintro j ⟨x, τ⟩ hj ⟨rfl, hw, h1, h2⟩
        have v1 : fqJ τ 4 (8 * p + (j + 1)) = fqJ σ 4 (8 * p + (j + 1)) := h2 _ (by omega)
        refine ⟨(nI (j + 1 + 1), fqPJ τ 4 (8 * p + j) (fqJ σ 4 (8 * p + (j + 1)))), ⟨rfl, hw.tr (eqW_PJ (S := fun c j => c = 4 ∧ 8 * p ≤ j ∧ j < 8 * p + 8) ⟨rfl, by omega, by omega⟩), fun i hi => ?_, fun i hi => ?_⟩, fun rec => ?_⟩
        · by_cases e : i = j
          · subst e; exact fqJ_s _ _ _ _
          · rw [fqJ_n _ _ _ _ _ _ (by omega)]; exact h1 i (by omega)
        · rw [fqJ_n _ _ _ _ _ _ (by omega)]; exact h2 i (by omega)
        · have e1 : nI (8 * p + (j + 1)) - nI 1 = nI (8 * p + j) := by rw [pk_sub (by omega)]; congr 1
          simp (disch := omega) only [pX9_keepSurprise_L14b, z8, z1, pk_mul, nI_add, e1, nI_leI, nI_n0, false_or, nI_clamp, ite_f, v1, fqN_eq]
      · rintro ⟨x, τ⟩ ⟨rfl, hw, h1, h2⟩
        have hc2 : fqI τ 5 p = nI 8 := by rw [hw.I (by omega)]; exact hc
        refine ⟨fqPI (fqPJ (fqPI τ 5 p (nI 7)) 4 (8 * p + 7) v) 5 p (nI 8), ⟨?_, fqI_s _ _ _ _, fun i hi => ?_⟩, fun rec => ?_⟩
        · exact (((hw.mono (fun c j h => Or.inr h)).tr (eqW_PI (S := fun c j => (c = 5 ∧ j = p) ∨ (c = 4 ∧ 8 * p ≤ j ∧ j < 8 * p + 8)) (Or.inl ⟨rfl, rfl⟩))).tr (eqW_PJ (S := fun c j => (c = 5 ∧ j = p) ∨ (c = 4 ∧ 8 * p ≤ j ∧ j < 8 * p + 8)) (Or.inr ⟨rfl, by omega, by omega⟩))).tr (eqW_PI (Or.inl ⟨rfl, rfl⟩))
        · rw [fqJ_PI]
          by_cases e : i = 7
          · rw [if_pos e, e, fqJ_s]
          · rw [if_neg e, fqJ_n _ _ _ _ _ _ (by omega), fqJ_PI]; exact h1 i (by omega)
        · have e1 : nI 8 - nI 1 = nI 7 := rfl
          simp (disch := omega) only [pX9_keepSurprise_L14b, z8, z1, hc2, e1, pk_mul, nI_leI, ite_t, fqN_eq, fqI_s, fqI_PJ, nI_n0, false_or, nI_clamp, ite_f, nI_add]
    obtain ⟨τ, l1, l2, l3, l4⟩ := loop
    refine ⟨τ, ?_, l2, l3, fun i hi => l4 i hi⟩
    simp (disch := omega) only [pX9_keepSurprise, z8, hc, nI_n0, false_or, nI_clamp, ite_f, if_true]
    exact l1
