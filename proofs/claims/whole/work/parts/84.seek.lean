/-! the least uneven pairing: the class's way -/
def dif (a b : Nat) : Nat := (a - b) + (b - a)
theorem lsub_T {a b : Nat} (ha : a < 2 ^ 31) (hb : b < 2 ^ 31) : (lN a - lN b).toInt = (a : Int) - b := by
  rw [Int64.toInt_sub, lN_toInt ha, lN_toInt hb]
  exact Int.bmod_eq_of_le (by omega) (by omega)
theorem difX {x y : Nat} (hx : x < 2 ^ 31) (hy : y < 2 ^ 31) : (if 0 < lN x - lN y then lN x - lN y else -(lN x - lN y)) = lN (dif x y) := by
  unfold dif
  have e : ((0 : Int64) < lN x - lN y) ↔ y < x := by
    rw [Int64.lt_iff_toInt_lt, lsub_T hx hy]
    show (0 : Int) < _ ↔ _
    omega
  by_cases h : y < x
  · rw [if_pos (e.mpr h), lN_sub (by omega)]
    congr 1; omega
  · rw [if_neg (fun q => h (e.mp q)), Int64.neg_sub, lN_sub (by omega)]
    congr 1; omega
theorem take_snoc {α : Type} : ∀ (L : List α) (j : Nat) (b : α), L[j]? = some b → L.take (j + 1) = L.take j ++ [b]
  | [], j, b, h => by simp at h
  | a :: L, 0, b, h => by
    have e : a = b := by simpa using h
    subst e
    simp
  | a :: L, j + 1, b, h => by
    have ih := take_snoc L j b (by simpa using h)
    rw [List.take_succ_cons, ih, List.take_succ_cons]
    rfl
def sXS (c k : Nat) : Prop := c = 10 ∧ (k = 3 ∨ k = 4 ∨ k = 5)
def stX (D : Nat → Nat → Nat) (s : Option (Nat × Nat)) (σ τ : fqS) : Prop := eqW sXS σ τ ∧ (s = none → fqI τ 10 3 = 0) ∧ ∀ c, s = some c → 0 < c.1 ∧ c.1 < 2 ^ 31 ∧ fqI τ 10 3 = nI c.1 ∧ fqI τ 10 4 = nI c.2 ∧ fqJ τ 10 5 = lN (D c.1 c.2)
theorem TmX_fr {S : Nat → Nat → Prop} {TL : List Nat} {mn : Nat → Nat} {σ τ : fqS} (h : TmX TL mn σ) (e : eqW S σ τ) (a : ¬ S 10 2 ∧ ∀ k, ¬ S 11 k ∧ ¬ S 12 k) : TmX TL mn τ :=
  ⟨by rw [e.I a.1]; exact h.1, fun i x hx => ⟨by rw [e.I (a.2 i).1]; exact (h.2 i x hx).1, by rw [e.J (a.2 i).2]; exact (h.2 i x hx).2⟩⟩
theorem seekSecond_eq {K n i a : Nat} {TL : List Nat} {mn : Nat → Nat} {s : Option (Nat × Nat)} {σ τ : fqS} (hK : 1024 < K) (hTL : TL.length ≤ 175) (hin : ∀ x, x ∈ TL → 0 < x ∧ x < 1024) (hmn : ∀ x, mn x < 2 ^ 31) (hT : TmX TL mn σ) (hi : TL[i]? = some a) (hs : stX (fun x y => dif (mn x) (mn y)) s σ τ) : ∃ τ', pX3_seekSecond K n τ (nI i) = some τ' ∧ stX (fun x y => dif (mn x) (mn y)) (bst1 (fun x y => dif (mn x) (mn y)) (fun x y => decide (x &&& y = 0)) a TL s) σ τ' := by
  have hil : i < TL.length := by
    rcases Nat.lt_or_ge i TL.length with h | h
    · exact h
    · rw [List.getElem?_eq_none h] at hi; cases hi
  obtain ⟨a0, a1⟩ := hin a (List.mem_of_getElem? hi)
  have hma := hmn a
  unfold pX3_seekSecond
  rw [ite_f (nI_pos (by omega)), ite_f (by rw [z175, nI_leI (by omega) (by omega)]; omega), ite_t (by rw [z175, nI_ltI (by omega) (by omega)]; omega)]
  unfold pX3_seekSecond_L25
  obtain ⟨τ', h1, h2⟩ := fqL_ex (f := fun τ : fqS => τ) (body := fun rec (s : (Int32 × fqS)) => pX3_seekSecond_L25b K n (nI i) rec s.1 s.2)
    (fun τ' => stX (fun x y => dif (mn x) (mn y)) (bst1 (fun x y => dif (mn x) (mn y)) (fun x y => decide (x &&& y = 0)) a TL s) σ τ')
    (fun j z => z.1 = nI j ∧ stX (fun x y => dif (mn x) (mn y)) (bst1 (fun x y => dif (mn x) (mn y)) (fun x y => decide (x &&& y = 0)) a (TL.take j) s) σ z.2) TL.length (k := K) (s := (0, τ)) (by omega)
    ⟨rfl, by rw [List.take_zero]; exact hs⟩
    (by
      rintro j ⟨x, υ⟩ hj ⟨rfl, hst⟩
      obtain ⟨b, hb⟩ : ∃ b, TL[j]? = some b := ⟨TL[j], List.getElem?_eq_getElem hj⟩
      rw [take_snoc TL j b hb, bst1_snoc]
      generalize bst1 (fun x y => dif (mn x) (mn y)) (fun x y => decide (x &&& y = 0)) a (TL.take j) s = o at hst ⊢
      obtain ⟨q1, q2, q3⟩ := hst
      obtain ⟨t1, t2⟩ := TmX_fr hT q1 ⟨by unfold sXS; omega, fun k => by unfold sXS; omega⟩
      obtain ⟨u1, u2⟩ := t2 i a hi
      obtain ⟨v1, v2⟩ := t2 j b hb
      have hmb := hmn b
      have hand : a &&& b ≤ a := Nat.and_le_left
      have hd := difX hma hmb
      have hdl : dif (mn a) (mn b) < 2 ^ 31 := by unfold dif; omega
      by_cases hab : a &&& b = 0
      · have hset : stX (fun x y => dif (mn x) (mn y)) (some (a, b)) σ (fqPJ (fqPI (fqPI υ 10 3 (nI a)) 10 4 (nI b)) 10 5 (lN (dif (mn a) (mn b)))) := by
          refine ⟨((q1.tr (eqW_PI (by unfold sXS; omega))).tr (eqW_PI (by unfold sXS; omega))).tr (eqW_PJ (by unfold sXS; omega)), fun z => by (cases z), fun c hc => ?_⟩
          cases hc
          refine ⟨a0, by show a < _; omega, ?_, ?_, fqJ_s _ _ _ _⟩
          · rw [fqI_PJ, fqI_n _ _ _ _ _ _ (by omega), fqI_s]
          · rw [fqI_PJ, fqI_s]
        have w1 : fqI (fqPI υ 10 3 (nI a)) 11 j = nI b := by rw [fqI_n _ _ _ _ _ _ (by omega)]; exact v1
        rw [if_pos (show decide (a &&& b = 0) = true by simp [hab])]
        cases o with
        | none =>
          refine ⟨(nI (j + 1), fqPJ (fqPI (fqPI υ 10 3 (nI a)) 10 4 (nI b)) 10 5 (lN (dif (mn a) (mn b)))), ⟨rfl, hset⟩, fun rec => ?_⟩
          have f0 := q2 rfl
          show pX3_seekSecond_L25b K n (nI i) rec (nI j) υ = _
          simp (disch := omega) only [pX3_seekSecond_L25b, t1, z175, nI_leI, ite_f, nI_n0, false_or, nI_clamp, u1, v1, nI_and, hab, nI_0, if_true, f0, fqN_eq, w1, u2, v2, hd, nI_1]
        | some c =>
          obtain ⟨c0, c1, c2, c3, c4⟩ := q3 c rfl
          have f0 : ¬ nI c.1 = 0 := nI_ne0 c0 c1
          have hdc : dif (mn c.1) (mn c.2) < 2 ^ 31 := by have := hmn c.1; have := hmn c.2; unfold dif; omega
          show ∃ s' : Int32 × fqS, (s'.1 = nI (j + 1) ∧ stX _ (if dif (mn a) (mn b) < dif (mn c.1) (mn c.2) then some (a, b) else some c) σ s'.2) ∧ _
          by_cases hlt : dif (mn a) (mn b) < dif (mn c.1) (mn c.2)
          · rw [if_pos hlt]
            refine ⟨(nI (j + 1), fqPJ (fqPI (fqPI υ 10 3 (nI a)) 10 4 (nI b)) 10 5 (lN (dif (mn a) (mn b)))), ⟨rfl, hset⟩, fun rec => ?_⟩
            have hle : ¬ lN (dif (mn c.1) (mn c.2)) ≤ lN (dif (mn a) (mn b)) := by rw [lN_le hdc hdl]; omega
            show pX3_seekSecond_L25b K n (nI i) rec (nI j) υ = _
            simp (disch := omega) only [pX3_seekSecond_L25b, t1, z175, nI_leI, ite_f, nI_n0, false_or, nI_clamp, u1, v1, nI_and, hab, nI_0, if_true, c2, if_neg f0, c4, fqN_eq, w1, u2, v2, hd, if_neg hle, nI_1]
          · rw [if_neg hlt]
            refine ⟨(nI (j + 1), υ), ⟨rfl, q1, q2, q3⟩, fun rec => ?_⟩
            have hle : lN (dif (mn c.1) (mn c.2)) ≤ lN (dif (mn a) (mn b)) := by rw [lN_le hdc hdl]; omega
            show pX3_seekSecond_L25b K n (nI i) rec (nI j) υ = _
            simp (disch := omega) only [pX3_seekSecond_L25b, t1, z175, nI_leI, ite_f, nI_n0, false_or, nI_clamp, u1, v1, nI_and, hab, nI_0, if_true, c2, if_neg f0, c4, fqN_eq, u2, v2, hd, if_pos hle, nI_1]
      · rw [if_neg (show ¬ decide (a &&& b = 0) = true by simp [hab])]
        refine ⟨(nI (j + 1), υ), ⟨rfl, q1, q2, q3⟩, fun rec => ?_⟩
        have f0 : ¬ nI (a &&& b) = 0 := by rw [nI_e0 (by omega)]; exact hab
        show pX3_seekSecond_L25b K n (nI i) rec (nI j) υ = _
        simp (disch := omega) only [pX3_seekSecond_L25b, t1, z175, nI_leI, ite_f, nI_n0, false_or, nI_clamp, u1, v1, nI_and, if_neg f0, nI_1])
    (by
      rintro ⟨x, υ⟩ ⟨rfl, hst⟩
      rw [List.take_length] at hst
      obtain ⟨t1, t2⟩ := TmX_fr hT hst.1 ⟨by unfold sXS; omega, fun k => by unfold sXS; omega⟩
      refine ⟨υ, hst, fun rec => ?_⟩
      show pX3_seekSecond_L25b K n (nI i) rec (nI TL.length) υ = _
      simp (disch := omega) only [pX3_seekSecond_L25b, t1, nI_leI, ite_t])
  exact ⟨τ', h1, h2⟩
theorem seek_eq {K n r : Nat} {TL : List Nat} {mn : Nat → Nat} {σ : fqS} (hK : 1024 < K) (hr : r < 10) (hTL : TL.length ≤ 175) (hin : ∀ x, x ∈ TL → 0 < x ∧ x < 1024) (hmn : ∀ x, mn x < 2 ^ 31) (hT : TmX TL mn σ) : ∃ τ, pX3_seek K n σ (nI r) = some ((if bst2 (fun x y => dif (mn x) (mn y)) (fun x => x.testBit r) (fun x y => decide (x &&& y = 0)) TL TL none = none then 0 else 1), τ) ∧ stX (fun x y => dif (mn x) (mn y)) (bst2 (fun x y => dif (mn x) (mn y)) (fun x => x.testBit r) (fun x y => decide (x &&& y = 0)) TL TL none) σ τ := by
  unfold pX3_seek pX3_seek_L17
  simp only [fqN_eq]
  obtain ⟨τ, h1, h2⟩ := fqL_ex (f := fun τ : fqS => ((if bst2 (fun x y => dif (mn x) (mn y)) (fun x => x.testBit r) (fun x y => decide (x &&& y = 0)) TL TL none = none then (0 : Int32) else 1), τ)) (body := fun rec (s : (Int32 × fqS)) => pX3_seek_L17b K n (nI r) rec s.1 s.2)
    (fun τ => stX (fun x y => dif (mn x) (mn y)) (bst2 (fun x y => dif (mn x) (mn y)) (fun x => x.testBit r) (fun x y => decide (x &&& y = 0)) TL TL none) σ τ)
    (fun j z => z.1 = nI j ∧ stX (fun x y => dif (mn x) (mn y)) (bst2 (fun x y => dif (mn x) (mn y)) (fun x => x.testBit r) (fun x y => decide (x &&& y = 0)) TL (TL.take j) none) σ z.2) TL.length (k := K) (s := (0, fqPJ (fqPI (fqPI σ 10 3 0) 10 4 0) 10 5 0)) (by omega)
    ⟨rfl, by
      rw [List.take_zero]
      refine ⟨((eqW_PI (by unfold sXS; omega)).tr (eqW_PI (by unfold sXS; omega))).tr (eqW_PJ (by unfold sXS; omega)), fun _ => ?_, fun c hc => by (cases hc)⟩
      show fqI (fqPJ (fqPI (fqPI σ 10 3 0) 10 4 0) 10 5 0) 10 3 = 0
      rw [fqI_PJ, fqI_n _ _ _ _ _ _ (by omega), fqI_s]⟩
    (by
      rintro j ⟨x, υ⟩ hj ⟨rfl, hst⟩
      obtain ⟨b, hb⟩ : ∃ b, TL[j]? = some b := ⟨TL[j], List.getElem?_eq_getElem hj⟩
      obtain ⟨b0, b1⟩ := hin b (List.mem_of_getElem? hb)
      rw [take_snoc TL j b hb, bst2_snoc]
      generalize bst2 (fun x y => dif (mn x) (mn y)) (fun x => x.testBit r) (fun x y => decide (x &&& y = 0)) TL (TL.take j) none = o at hst ⊢
      obtain ⟨t1, t2⟩ := TmX_fr hT hst.1 ⟨by unfold sXS; omega, fun k => by unfold sXS; omega⟩
      obtain ⟨v1, v2⟩ := t2 j b hb
      cases hbit : b.testBit r with
      | true =>
        obtain ⟨υ', e1, e2⟩ := seekSecond_eq (K := K) (n := n) hK hTL hin hmn hT hb hst
        rw [if_pos rfl]
        refine ⟨(nI (j + 1), υ'), ⟨rfl, e2⟩, fun rec => ?_⟩
        show pX3_seek_L17b K n (nI r) rec (nI j) υ = _
        simp (disch := omega) only [pX3_seek_L17b, t1, z175, nI_leI, ite_f, nI_n0, false_or, nI_clamp, v1, hasBit_t (B := b) (p := r) (by omega) (by omega) hbit, Option.bind_some, c10, if_false, e1, nI_1]
      | false =>
        rw [if_neg (by decide)]
        refine ⟨(nI (j + 1), υ), ⟨rfl, hst⟩, fun rec => ?_⟩
        show pX3_seek_L17b K n (nI r) rec (nI j) υ = _
        simp (disch := omega) only [pX3_seek_L17b, t1, z175, nI_leI, ite_f, nI_n0, false_or, nI_clamp, v1, hasBit_f (B := b) (p := r) (by omega) (by omega) hbit, Option.bind_some, if_true, nI_1])
    (by
      rintro ⟨x, υ⟩ ⟨rfl, hst⟩
      rw [List.take_length] at hst
      obtain ⟨t1, t2⟩ := TmX_fr hT hst.1 ⟨by unfold sXS; omega, fun k => by unfold sXS; omega⟩
      refine ⟨υ, hst, fun rec => ?_⟩
      show pX3_seek_L17b K n (nI r) rec (nI TL.length) υ = _
      generalize bst2 (fun x y => dif (mn x) (mn y)) (fun x => x.testBit r) (fun x y => decide (x &&& y = 0)) TL TL none = o at hst ⊢
      cases o with
      | none =>
        have f0 := hst.2.1 rfl
        simp (disch := omega) only [pX3_seek_L17b, t1, nI_leI, ite_t, f0, if_true]
      | some c =>
        obtain ⟨c0, c1, c2, c3, c4⟩ := hst.2.2 c rfl
        have f0 : ¬ nI c.1 = 0 := nI_ne0 c0 c1
        rw [if_neg (by simp)]
        simp (disch := omega) only [pX3_seek_L17b, t1, nI_leI, ite_t, c2, if_neg f0])
  exact ⟨τ, h1, h2⟩
