/-! the least uneven pairing: the reference's way -/
theorem nI_in' {c N : Nat} (h : c < N) (hN : N < 2 ^ 31) : ¬ (nI c < 0 ∨ N ≤ c) := fun q => q.elim (nI_pos (by omega)) (fun z => by omega)
theorem playersOf_eq {K N w s : Nat} {qb qs : Nat → Nat} {σ : fqS} (hK : 16 < K) (hw : w ≤ 10) (hm : Qm w qb qs σ) (hs : s < 2 ^ 31) : pX9_playersOf K N σ (nI s) = some (nI (plB qb s w)) := by
  unfold pX9_playersOf pX9_playersOf_L4
  refine fqL_go (fun j => (nI (plB qb s j), nI j)) w rfl (by omega) ?_ ?_
  · intro rec
    show pX9_playersOf_L4b K N σ (nI s) rec (nI (plB qb s w)) (nI w) = _
    simp (disch := omega) only [pX9_playersOf_L4b, hm.1, nI_leI, ite_t]
  · intro j hj rec
    show pX9_playersOf_L4b K N σ (nI s) rec (nI (plB qb s j)) (nI j) = rec (nI (plB qb s (j + 1)), nI (j + 1))
    have e := nI_bit1 (B := s) (p := j) hs (by omega)
    rw [plB]
    unfold pX9_playersOf_L4b
    rw [hm.1, ite_f (by rw [nI_leI (by omega) (by omega)]; omega)]
    cases hb : s.testBit j with
    | true =>
      rw [ite_t (e.mpr hb), if_pos rfl]
      simp (disch := omega) only [nI_leI, nI_ltI, nI_eq, nI_clamp, nI_add, nI_n0, nI_e0, nI_p0, nI_l0, nI_g0, false_or, if_true, if_false, ite_t, ite_f, (hm.2 j hj).1, nI_or, nI_1]
    | false =>
      rw [ite_f (fun q => by rw [e.mp q] at hb; cases hb), if_neg (by decide), or_z, nI_1]
def RowM (n w T : Nat) (qb qs : Nat → Nat) (sh : Nat → Nat → Nat) (σ : fqS) : Prop := fqI σ 0 1 = nI n ∧ fqI σ 0 6 = nI T ∧ Qm w qb qs σ ∧ ∀ p, p < n → ∀ l, l < 7 → fqJ σ 3 (7 * p + l) = lN (sh p l)
theorem RowM_fr {S : Nat → Nat → Prop} {n w T : Nat} {qb qs : Nat → Nat} {sh : Nat → Nat → Nat} {σ τ : fqS} (h : RowM n w T qb qs sh σ) (e : eqW S σ τ) (a1 : ¬ S 0 1) (a2 : ¬ S 0 6) (a3 : ¬ S 0 11 ∧ ∀ k, ¬ S 6 k ∧ ¬ S 7 k) (a4 : ∀ l, ¬ S 3 l) : RowM n w T qb qs sh τ :=
  ⟨by rw [e.I a1]; exact h.1, by rw [e.I a2]; exact h.2.1, Qm_fr h.2.2.1 e a3, fun p hp l hl => by rw [e.J (a4 _)]; exact h.2.2.2 p hp l hl⟩
def SetM (n w : Nat) (qb : Nat → Nat) (sh : Nat → Nat → Nat) (σ : fqS) : Prop := ∀ s, s < 2 ^ w → fqI σ 15 s = nI (pop (plB qb s w)) ∧ fqJ σ 16 s = lN (mnB (mnP sh) (plB qb s w) n)
def lMS (c _k : Nat) : Prop := c = 15 ∨ c = 16
theorem laySets_eq {K n w T : Nat} {qb qs : Nat → Nat} {sh : Nat → Nat → Nat} {σ : fqS} (hK : 1024 < K) (hO : OkQ n w T qb) (hM : RowM n w T qb qs sh σ) : ∃ τ, pX9_laySets K 0 σ = some τ ∧ SetM n w qb sh τ ∧ eqW lMS σ τ := by
  obtain ⟨hn, hw, hT, hT3, h1, h2⟩ := hO
  have h16 := p2n hn
  have hw2 := p10 hw
  have hfr : ∀ {τ}, eqW lMS σ τ → RowM n w T qb qs sh τ := fun e => RowM_fr hM e (by unfold lMS; omega) (by unfold lMS; omega) ⟨by unfold lMS; omega, fun k => by unfold lMS; omega⟩ (fun l => by unfold lMS; omega)
  unfold pX9_laySets pX9_laySets_L2
  obtain ⟨τ, a, b⟩ := fqL_ex (f := fun τ : fqS => τ) (body := fun rec (s : (Int32 × fqS)) => pX9_laySets_L2b K 0 rec s.1 s.2)
    (fun τ => SetM n w qb sh τ ∧ eqW lMS σ τ)
    (fun j z => z.1 = nI j ∧ eqW lMS σ z.2 ∧ ∀ s, s < j → fqI z.2 15 s = nI (pop (plB qb s w)) ∧ fqJ z.2 16 s = lN (mnB (mnP sh) (plB qb s w) n)) (2 ^ w) (k := K) (s := (0, σ)) (by omega)
    ⟨rfl, eqW.rf _, fun s hs => absurd hs (by omega)⟩
    (by
      rintro j ⟨x, υ⟩ hj ⟨rfl, q1, q2⟩
      obtain ⟨r1, r2, r3, r4⟩ := hfr q1
      have hB := plB_lt (qb := qb) (s := j) (fun k hk => (h1 k hk).2)
      have c3 := playersOf_eq (K := K) (N := 0) (s := j) (by omega) hw r3 (by omega)
      have c4 := onesM_eq K υ (plB qb j w) (by omega) (by omega)
      generalize hBB : plB qb j w = B at hB c3 c4
      obtain ⟨z, ⟨z1, z2, z3⟩, z4⟩ := fqL_nest (body := fun (r : (Int32 × fqS) → Option fqS) rec (s : (Int32 × fqS)) => pX9_laySets_L37b K 0 (nI j) (nI B) r rec s.1 s.2) (fun (z : Int32 × fqS) => z.1 = nI (j + 1) ∧ eqW (fun c k => c = 16 ∧ k = j) (fqPJ (fqPI υ 15 j (nI (pop B))) 16 j 0) z.2 ∧ fqJ z.2 16 j = lN (mnB (mnP sh) B n))
        (fun i (z : Int32 × fqS) => z.1 = nI i ∧ eqW (fun c k => c = 16 ∧ k = j) (fqPJ (fqPI υ 15 j (nI (pop B))) 16 j 0) z.2 ∧ fqJ z.2 16 j = lN (mnB (mnP sh) B i)) n (k := K) (s := (0, fqPJ (fqPI υ 15 j (nI (pop B))) 16 j 0)) (by omega) ⟨rfl, eqW.rf _, fqJ_s _ _ _ _⟩
        (by
          rintro i ⟨y, ω⟩ hi ⟨rfl, i1, i2⟩
          have n1 : fqI ω 0 1 = nI n := by rw [i1.I (by omega), fqI_PJ, fqI_n _ _ _ _ _ _ (by omega)]; exact r1
          have n4 : pX9_meanOf K 0 ω (nI i) = some (lN (mnP sh i)) := ownM (by omega) (by omega) (fun l hl => by rw [i1.J (by omega), fqJ_n _ _ _ _ _ _ (by omega), fqJ_PI]; exact r4 i hi l hl)
          have eb := nI_bit1 (B := B) (p := i) (by omega) (by omega)
          have lbl : ¬ (nI j < 0 ∨ 1024 ≤ Int32.toNatClampNeg (nI j)) := nI_in (by omega) (by omega)
          refine ⟨(nI (i + 1), fqPJ ω 16 j (lN (mnB (mnP sh) B (i + 1)))), ⟨rfl, i1.tr (eqW_PJ ⟨rfl, rfl⟩), fqJ_s _ _ _ _⟩, fun r rec => ?_⟩
          show pX9_laySets_L37b K 0 (nI j) (nI B) r rec (nI i) ω = _
          unfold pX9_laySets_L37b
          rw [n1, ite_f (by rw [nI_leI (by omega) (by omega)]; omega), ite_f lbl, nI_clamp (by omega), i2, mnB]
          cases hb : B.testBit i with
          | true => rw [ite_t (eb.mpr hb), n4, Option.bind_some, fqN_eq, if_pos rfl, lN_add, nI_1]
          | false => rw [ite_f (fun q => by rw [eb.mp q] at hb; cases hb), fqN_eq, if_neg (by decide), Int64.add_zero, nI_1])
        (by
          rintro ⟨y, ω⟩ ⟨rfl, i1, i2⟩
          have n1 : fqI ω 0 1 = nI n := by rw [i1.I (by omega), fqI_PJ, fqI_n _ _ _ _ _ _ (by omega)]; exact r1
          refine ⟨(nI (j + 1), ω), ⟨rfl, i1, i2⟩, fun r rec => ?_⟩
          show pX9_laySets_L37b K 0 (nI j) (nI B) r rec (nI n) ω = _
          unfold pX9_laySets_L37b
          rw [n1, ite_t (by rw [nI_leI (by omega) (by omega)]; omega), nI_1])
      obtain ⟨y, ω⟩ := z
      have z1' : y = nI (j + 1) := z1
      subst z1'
      refine ⟨(nI (j + 1), ω), ⟨rfl, ?_, fun s hs => ?_⟩, fun rec => ?_⟩
      · exact ((q1.tr (eqW_PI (Or.inl rfl))).tr (eqW_PJ (Or.inr rfl))).tr (z2.mono (fun c k h => Or.inr h.1))
      · by_cases e : s = j
        · subst e
          rw [hBB]
          refine ⟨?_, z3⟩
          show fqI ω 15 s = _
          rw [z2.I (by omega), fqI_PJ, fqI_s]
        · obtain ⟨g1, g2⟩ := q2 s (by omega)
          refine ⟨?_, ?_⟩
          · show fqI ω 15 s = _
            rw [z2.I (by omega), fqI_PJ, fqI_n _ _ _ _ _ _ (by omega)]; exact g1
          · show fqJ ω 16 s = _
            rw [z2.J (by omega), fqJ_n _ _ _ _ _ _ (by omega), fqJ_PI]; exact g2
      · have lbl : ¬ (nI j < 0 ∨ 1024 ≤ Int32.toNatClampNeg (nI j)) := nI_in (by omega) (by omega)
        show pX9_laySets_L2b K 0 rec (nI j) υ = _
        unfold pX9_laySets_L2b
        rw [r3.1, nI_one (by omega), ite_f (by rw [nI_leI (by omega) (by omega)]; omega), c3, Option.bind_some, c4, Option.bind_some, ite_f lbl, fqN_eq, fqN_eq, nI_clamp (by omega)]
        exact z4 rec)
    (by
      rintro ⟨x, υ⟩ ⟨rfl, q1, q2⟩
      obtain ⟨r1, r2, r3, r4⟩ := hfr q1
      refine ⟨υ, ⟨q2, q1⟩, fun rec => ?_⟩
      show pX9_laySets_L2b K 0 rec (nI (2 ^ w)) υ = _
      unfold pX9_laySets_L2b
      rw [r3.1, nI_one (by omega), ite_t (by rw [nI_leI (by omega) (by omega)]; omega)])
  exact ⟨τ, a, b⟩
def mMS (c k : Nat) : Prop := c = 0 ∧ (k = 26 ∨ k = 27 ∨ k = 28)
def stM (D : Nat → Nat → Nat) (s : Option (Nat × Nat)) (σ τ : fqS) : Prop := eqW mMS σ τ ∧ (s = none → fqI τ 0 26 = -1) ∧ ∀ c, s = some c → c.1 < 2 ^ 31 ∧ fqI τ 0 26 = nI c.1 ∧ fqI τ 0 27 = nI c.2 ∧ fqJ τ 0 28 = lN (D c.1 c.2)
theorem difM {α : Sort _} {x y : Nat} (hx : x < 2 ^ 31) (hy : y < 2 ^ 31) (f : Int64 → α) : (if lN y ≤ lN x then f (lN x - lN y) else f (lN y - lN x)) = f (lN (dif x y)) := by
  unfold dif
  by_cases h : y ≤ x
  · rw [if_pos (by rw [lN_le hy hx]; exact h), lN_sub h]
    congr 2; omega
  · rw [if_neg (by rw [lN_le hy hx]; exact h), lN_sub (by omega)]
    congr 2; omega
/-- a pairing's two places of players, and the way that they differ -/
abbrev dS (n w : Nat) (qb : Nat → Nat) (sh : Nat → Nat → Nat) (x y : Nat) : Nat := dif (mnB (mnP sh) (plB qb x w) n) (mnB (mnP sh) (plB qb y w) n)
abbrev pR (w T F k : Nat) (qb : Nat → Nat) (x : Nat) : Bool := decide (adn x F = 0) && (x.testBit k && decide (pop (plB qb x w) = T))
abbrev qR (w T F : Nat) (qb : Nat → Nat) (x y : Nat) : Bool := decide (adn y F = 0) && (decide (x &&& y = 0) && decide (pop (plB qb y w) = T))
theorem find_in {K n w T F k a : Nat} {qb qs : Nat → Nat} {sh : Nat → Nat → Nat} {s : Option (Nat × Nat)} {σ τ : fqS} (hK : 1024 < K) (hF : F < 2 ^ 31) (hO : OkQ n w T qb) (hM : RowM n w T qb qs sh σ) (hS : SetM n w qb sh σ) (hmn : ∀ x, mnB (mnP sh) x n < 2 ^ 31) (ha : a < 2 ^ w) (hs : stM (dS n w qb sh) s σ τ) : ∃ τ', stM (dS n w qb sh) (bst1 (dS n w qb sh) (qR w T F qb) a (List.range (2 ^ w)) s) σ τ' ∧ ∀ r, pX9_findPairing_L50 K 0 (nI k) (nI F) (nI a) r (0, τ) = r (nI (a + 1), τ') := by
  obtain ⟨hn, hw, hT, hT3, h1, h2⟩ := hO
  have h16 := p2n hn
  have hw2 := p10 hw
  have hfr : ∀ {τ}, eqW mMS σ τ → RowM n w T qb qs sh τ := fun e => RowM_fr hM e (by unfold mMS; omega) (by unfold mMS; omega) ⟨by unfold mMS; omega, fun k => by unfold mMS; omega⟩ (fun l => by unfold mMS; omega)
  obtain ⟨z, ⟨z1, z2⟩, z3⟩ := fqL_nest (body := fun (r : (Int32 × fqS) → Option (Int32 × fqS)) rec (s : (Int32 × fqS)) => pX9_findPairing_L50b K 0 (nI k) (nI F) (nI a) r rec s.1 s.2) (fun (z : Int32 × fqS) => z.1 = nI (a + 1) ∧ stM (dS n w qb sh) (bst1 (dS n w qb sh) (qR w T F qb) a (List.range (2 ^ w)) s) σ z.2)
    (fun j (z : Int32 × fqS) => z.1 = nI j ∧ stM (dS n w qb sh) (bst1 (dS n w qb sh) (qR w T F qb) a (List.range j) s) σ z.2) (2 ^ w) (k := K) (s := (0, τ)) (by omega) ⟨rfl, hs⟩
    (by
      rintro b ⟨x, υ⟩ hb ⟨rfl, hst⟩
      rw [List.range_succ, bst1_snoc]
      generalize bst1 (dS n w qb sh) (qR w T F qb) a (List.range b) s = o at hst ⊢
      obtain ⟨q1, q2, q3⟩ := hst
      obtain ⟨r1, r2, r3, r4⟩ := hfr q1
      have sa : fqJ υ 16 a = lN (mnB (mnP sh) (plB qb a w) n) := by rw [q1.J (by unfold mMS; omega)]; exact (hS a ha).2
      have sb : fqJ υ 16 b = lN (mnB (mnP sh) (plB qb b w) n) := by rw [q1.J (by unfold mMS; omega)]; exact (hS b hb).2
      have sb2 : fqI υ 15 b = nI (pop (plB qb b w)) := by rw [q1.I (by unfold mMS; omega)]; exact (hS b hb).1
      have hpl := pop_le (plB qb b w)
      have hA : adn b F ≤ b := Nat.and_le_left
      have hand : a &&& b ≤ a := Nat.and_le_left
      have lbb : ¬ (nI b < 0 ∨ 1024 ≤ Int32.toNatClampNeg (nI b)) := nI_in (by omega) (by omega)
      have lba : ¬ (nI a < 0 ∨ 1024 ≤ Int32.toNatClampNeg (nI a)) := nI_in (by omega) (by omega)
      have hma := hmn (plB qb a w)
      have hmb := hmn (plB qb b w)
      by_cases hq : adn b F = 0 ∧ a &&& b = 0 ∧ pop (plB qb b w) = T
      · obtain ⟨e1, e2, e3⟩ := hq
        have hdl : dS n w qb sh a b < 2 ^ 31 := by unfold dS dif; omega
        rw [if_pos (by simp [e1, e2, e3])]
        have hgo : ∀ r rec, pX9_findPairing_L50b K 0 (nI k) (nI F) (nI a) r rec (nI b) υ = pX9_findPairing_J139 K 0 (nI k) (nI F) (nI a) (nI b) (lN (dS n w qb sh a b)) υ r rec := by
          intro r rec
          unfold pX9_findPairing_L50b
          rw [r3.1, nI_one (by omega), ite_f (by rw [nI_leI (by omega) (by omega)]; omega), nI_adn, ite_t (by rw [e1]; rfl), nI_and, ite_t (by rw [e2]; rfl), ite_f lbb, nI_clamp (by omega), nI_clamp (by omega), sb2, r2, ite_t (by rw [e3]), ite_f (nI_in' (show a < 1024 by omega) (by omega)), sa, sb]
          exact difM hma hmb (fun d => pX9_findPairing_J139 K 0 (nI k) (nI F) (nI a) (nI b) d υ r rec)
        have hset : stM (dS n w qb sh) (some (a, b)) σ (fqPJ (fqPI (fqPI υ 0 26 (nI a)) 0 27 (nI b)) 0 28 (lN (dS n w qb sh a b))) := by
          refine ⟨((q1.tr (eqW_PI (by unfold mMS; omega))).tr (eqW_PI (by unfold mMS; omega))).tr (eqW_PJ (by unfold mMS; omega)), fun z => by (cases z), fun c hc => ?_⟩
          cases hc
          refine ⟨by show a < _; omega, ?_, ?_, fqJ_s _ _ _ _⟩
          · rw [fqI_PJ, fqI_n _ _ _ _ _ _ (by omega), fqI_s]
          · rw [fqI_PJ, fqI_s]
        cases o with
        | none =>
          refine ⟨(nI (b + 1), fqPJ (fqPI (fqPI υ 0 26 (nI a)) 0 27 (nI b)) 0 28 (lN (dS n w qb sh a b))), ⟨rfl, hset⟩, fun r rec => (hgo r rec).trans ?_⟩
          have f0 := q2 rfl
          unfold pX9_findPairing_J139
          rw [f0, ite_t (by decide), fqN_eq, fqN_eq, fqN_eq, nI_1]
        | some c =>
          obtain ⟨c1, c2, c3, c4⟩ := q3 c rfl
          have hdc : dS n w qb sh c.1 c.2 < 2 ^ 31 := by have := hmn (plB qb c.1 w); have := hmn (plB qb c.2 w); unfold dS dif; omega
          show ∃ s' : Int32 × fqS, (s'.1 = nI (b + 1) ∧ stM _ (if dS n w qb sh a b < dS n w qb sh c.1 c.2 then some (a, b) else some c) σ s'.2) ∧ _
          by_cases hlt : dS n w qb sh a b < dS n w qb sh c.1 c.2
          · rw [if_pos hlt]
            refine ⟨(nI (b + 1), fqPJ (fqPI (fqPI υ 0 26 (nI a)) 0 27 (nI b)) 0 28 (lN (dS n w qb sh a b))), ⟨rfl, hset⟩, fun r rec => (hgo r rec).trans ?_⟩
            unfold pX9_findPairing_J139
            rw [c2, ite_f (nI_pos (by omega)), c4, ite_f (by rw [lN_le hdc hdl]; omega), fqN_eq, fqN_eq, fqN_eq, nI_1]
          · rw [if_neg hlt]
            refine ⟨(nI (b + 1), υ), ⟨rfl, q1, q2, q3⟩, fun r rec => (hgo r rec).trans ?_⟩
            unfold pX9_findPairing_J139
            rw [c2, ite_f (nI_pos (by omega)), c4, ite_t (by rw [lN_le hdc hdl]; omega), nI_1]
      · rw [if_neg (fun z => hq (by simpa using z))]
        refine ⟨(nI (b + 1), υ), ⟨rfl, q1, q2, q3⟩, fun r rec => ?_⟩
        show pX9_findPairing_L50b K 0 (nI k) (nI F) (nI a) r rec (nI b) υ = _
        unfold pX9_findPairing_L50b
        rw [r3.1, nI_one (by omega), ite_f (by rw [nI_leI (by omega) (by omega)]; omega), nI_adn, nI_and, nI_clamp (by omega), sb2, r2, nI_1]
        by_cases e1 : adn b F = 0
        · rw [ite_t (by rw [e1]; rfl)]
          by_cases e2 : a &&& b = 0
          · rw [ite_t (by rw [e2]; rfl), ite_f (nI_in' (show b < 1024 by omega) (by omega)), ite_f (by rw [nI_eq (by omega) (by omega)]; exact fun e3 => hq ⟨e1, e2, e3⟩)]
          · rw [ite_f (by rw [nI_e0 (by omega)]; exact e2)]
        · rw [ite_f (by rw [nI_e0 (by omega)]; exact e1)])
    (by
      rintro ⟨x, υ⟩ ⟨rfl, hst⟩
      obtain ⟨r1, r2, r3, r4⟩ := hfr hst.1
      refine ⟨(nI (a + 1), υ), ⟨rfl, hst⟩, fun r rec => ?_⟩
      show pX9_findPairing_L50b K 0 (nI k) (nI F) (nI a) r rec (nI (2 ^ w)) υ = _
      unfold pX9_findPairing_L50b
      rw [r3.1, nI_one (by omega), ite_t (by rw [nI_leI (by omega) (by omega)]; omega), nI_1])
  obtain ⟨x, τ'⟩ := z
  have z1' : x = nI (a + 1) := z1
  subst z1'
  exact ⟨τ', z2, z3⟩
theorem find_eq {K n w T F k : Nat} {qb qs : Nat → Nat} {sh : Nat → Nat → Nat} {σ : fqS} (hK : 1024 < K) (hF : F < 2 ^ 31) (hk : k < w) (hO : OkQ n w T qb) (hM : RowM n w T qb qs sh σ) (hS : SetM n w qb sh σ) (hmn : ∀ x, mnB (mnP sh) x n < 2 ^ 31) : ∃ τ, stM (dS n w qb sh) (bst2 (dS n w qb sh) (pR w T F k qb) (qR w T F qb) (List.range (2 ^ w)) (List.range (2 ^ w)) none) σ τ ∧ pX9_findPairing K 0 σ (nI k) (nI F) = (if (fqI τ 0 26) < 0 then some ((0 : Int32), τ) else ((pX9_boundOf K 0 τ (nI k)).bind (fun r6 => (if r6 < (fqJ τ 0 28) then some ((0 : Int32), τ) else some ((1 : Int32), τ))))) := by
  have hO' := hO
  obtain ⟨hn, hw, hT, hT3, h1, h2⟩ := hO'
  have h16 := p2n hn
  have hw2 := p10 hw
  have hfr : ∀ {τ}, eqW mMS σ τ → RowM n w T qb qs sh τ := fun e => RowM_fr hM e (by unfold mMS; omega) (by unfold mMS; omega) ⟨by unfold mMS; omega, fun k => by unfold mMS; omega⟩ (fun l => by unfold mMS; omega)
  obtain ⟨r, e, τ, p1, p2⟩ := fqL_inv0 (body := fun rec (s : (Int32 × fqS)) => pX9_findPairing_L7b K 0 (nI k) (nI F) rec s.1 s.2)
    (fun j (z : Int32 × fqS) => z.1 = nI j ∧ stM (dS n w qb sh) (bst2 (dS n w qb sh) (pR w T F k qb) (qR w T F qb) (List.range (2 ^ w)) (List.range j) none) σ z.2)
    (fun r => ∃ τ, stM (dS n w qb sh) (bst2 (dS n w qb sh) (pR w T F k qb) (qR w T F qb) (List.range (2 ^ w)) (List.range (2 ^ w)) none) σ τ ∧ r = (if (fqI τ 0 26) < 0 then some ((0 : Int32), τ) else ((pX9_boundOf K 0 τ (nI k)).bind (fun r6 => (if r6 < (fqJ τ 0 28) then some ((0 : Int32), τ) else some ((1 : Int32), τ))))))
    (2 ^ w) (k := K) (s := (0, fqPI σ 0 26 (-1))) (by omega) ⟨rfl, eqW_PI (by unfold mMS; omega), fun _ => fqI_s _ _ _ _, fun c hc => by (cases hc)⟩
    (by
      rintro a ⟨x, υ⟩ ha ⟨rfl, hst⟩
      rw [List.range_succ, bst2_snoc]
      generalize bst2 (dS n w qb sh) (pR w T F k qb) (qR w T F qb) (List.range (2 ^ w)) (List.range a) none = o at hst ⊢
      obtain ⟨r1, r2, r3, r4⟩ := hfr hst.1
      have sa2 : fqI υ 15 a = nI (pop (plB qb a w)) := by rw [hst.1.I (by unfold mMS; omega)]; exact (hS a ha).1
      have hpl := pop_le (plB qb a w)
      have hA : adn a F ≤ a := Nat.and_le_left
      have lba : ¬ (nI a < 0 ∨ 1024 ≤ Int32.toNatClampNeg (nI a)) := nI_in (by omega) (by omega)
      have eb := nI_bit1 (B := a) (p := k) (by omega) (by omega)
      by_cases hq : adn a F = 0 ∧ a.testBit k = true ∧ pop (plB qb a w) = T
      · obtain ⟨e1, e2, e3⟩ := hq
        rw [if_pos (by simp [e1, e2, e3])]
        obtain ⟨υ', f1, f2⟩ := find_in (k := k) hK hF hO hM hS hmn ha hst
        refine ⟨(nI (a + 1), υ'), ⟨rfl, f1⟩, fun rec => ?_⟩
        show pX9_findPairing_L7b K 0 (nI k) (nI F) rec (nI a) υ = _
        unfold pX9_findPairing_L7b
        rw [r3.1, nI_one (by omega), ite_f (by rw [nI_leI (by omega) (by omega)]; omega), nI_adn, ite_t (by rw [e1]; rfl), ite_t (eb.mpr e2), ite_f lba, nI_clamp (by omega), sa2, r2, ite_t (by rw [e3])]
        exact f2 rec
      · rw [if_neg (fun z => hq (by simpa using z))]
        refine ⟨(nI (a + 1), υ), ⟨rfl, hst⟩, fun rec => ?_⟩
        show pX9_findPairing_L7b K 0 (nI k) (nI F) rec (nI a) υ = _
        unfold pX9_findPairing_L7b
        rw [r3.1, nI_one (by omega), ite_f (by rw [nI_leI (by omega) (by omega)]; omega), nI_adn, nI_clamp (by omega), sa2, r2, nI_1]
        by_cases e1 : adn a F = 0
        · rw [ite_t (by rw [e1]; rfl)]
          by_cases e2 : a.testBit k = true
          · rw [ite_t (eb.mpr e2), ite_f (nI_in' (show a < 1024 by omega) (by omega)), ite_f (by rw [nI_eq (by omega) (by omega)]; exact fun e3 => hq ⟨e1, e2, e3⟩)]
          · rw [ite_f (fun q => e2 (eb.mp q))]
        · rw [ite_f (by rw [nI_e0 (by omega)]; exact e1)])
    (by
      rintro ⟨x, υ⟩ ⟨rfl, hst⟩
      obtain ⟨r1, r2, r3, r4⟩ := hfr hst.1
      refine ⟨_, ⟨υ, hst, rfl⟩, fun rec => ?_⟩
      show pX9_findPairing_L7b K 0 (nI k) (nI F) rec (nI (2 ^ w)) υ = _
      unfold pX9_findPairing_L7b
      rw [r3.1, nI_one (by omega), ite_t (by rw [nI_leI (by omega) (by omega)]; omega)])
  refine ⟨τ, p1, ?_⟩
  unfold pX9_findPairing pX9_findPairing_L7
  rw [fqN_eq]
  exact e.trans p2
