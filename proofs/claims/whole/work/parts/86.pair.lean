/-! the two ways find the same pairing -/
def RowF (w F : Nat) (qb qs qc qd : Nat → Nat) : Prop := ∀ k, k < w → F.testBit k = true → qc (rk F k) = qb k ∧ qd (rk F k) = qs k
def PB (n t q w T F : Nat) (qb qs qc qd : Nat → Nat) (sh : Nat → Nat → Nat) (σx σm : fqS) : Prop := RowX n q (rk F w) T qc qd sh σx ∧ RowM n w T qb qs sh σm ∧ SetM n w qb sh σm ∧ Rb σx σm ∧ Rt t σx σm
def PS (n t w T : Nat) (qb qs : Nat → Nat) (sh : Nat → Nat → Nat) : Prop := OkQ n w T qb ∧ t ≤ 512 ∧ (∀ k, k < w → qs k ≤ t) ∧ ∀ x, mnB (mnP sh) x n < 2 ^ 31
theorem PB_fr {S S' : Nat → Nat → Prop} {n t q w T F : Nat} {qb qs qc qd : Nat → Nat} {sh : Nat → Nat → Nat} {σx σm τx τm : fqS} (h : PB n t q w T F qb qs qc qd sh σx σm) (hx : eqW S σx τx) (hm : eqW S' σm τm) (a1 : ¬ S 1 2 ∧ ¬ S 0 10 ∧ ¬ S 0 12) (a3 : ¬ S q 2 ∧ ∀ k, ¬ S (q + 1) k ∧ ¬ S (q + 2) k) (a4 : ∀ p l, ¬ S (26 + 4 * p + 1) l) (a5 : ∀ k, ¬ S 23 k) (b1 : ¬ S' 0 1 ∧ ¬ S' 0 6 ∧ ¬ S' 0 7 ∧ ¬ S' 0 8 ∧ ¬ S' 0 9 ∧ ¬ S' 0 10 ∧ ¬ S' 0 11) (b2 : ∀ k, ¬ S' 6 k ∧ ¬ S' 7 k ∧ ¬ S' 3 k ∧ ¬ S' 15 k ∧ ¬ S' 16 k) : PB n t q w T F qb qs qc qd sh τx τm := by
  obtain ⟨h1, h2, h3, h4, h5⟩ := h
  exact ⟨RowX_fr h1 hx a1.1 a1.2.1 a3 a4, RowM_fr h2 hm b1.1 b1.2.1 ⟨b1.2.2.2.2.2.2, fun k => ⟨(b2 k).1, (b2 k).2.1⟩⟩ (fun l => (b2 l).2.2.1), fun s hs => ⟨by rw [hm.I (b2 s).2.2.2.1]; exact (h3 s hs).1, by rw [hm.J (b2 s).2.2.2.2]; exact (h3 s hs).2⟩, Rb_fr h4 hx hm a5 ⟨b1.2.2.1, b1.2.2.2.1, b1.2.2.2.2.1⟩, Rt_fr h5 hx hm a1.2.2 b1.2.2.2.2.2.1⟩
theorem OkQ_rk {n w T F : Nat} {qb qs qc qd : Nat → Nat} (h : OkQ n w T qb) (hr : RowF w F qb qs qc qd) : OkQ n (rk F w) T qc := by
  obtain ⟨hn, hw, hT, hT3, h1, h2⟩ := h
  have hle : rk F w ≤ w := cntB_le _ _
  refine ⟨hn, by omega, hT, hT3, fun i hi => ?_, fun i j hi hj hij => ?_⟩
  · obtain ⟨k, k1, k2, k3⟩ := cnt_surj (fun i => F.testBit i) w i hi
    have e := (hr k k1 k2).1
    rw [show rk F k = i from k3] at e
    rw [e]
    exact h1 k k1
  · obtain ⟨k, k1, k2, k3⟩ := cnt_surj (fun i => F.testBit i) w i hi
    obtain ⟨l, l1, l2, l3⟩ := cnt_surj (fun i => F.testBit i) w j hj
    have e := (hr k k1 k2).1
    have e' := (hr l l1 l2).1
    rw [show rk F k = i from k3] at e
    rw [show rk F l = j from l3] at e'
    rw [e, e']
    refine h2 k l k1 l1 (fun q => hij ?_)
    rw [← k3, ← l3, q]
abbrev tmC (n t q w T F : Nat) (qc : Nat → Nat) (sh : Nat → Nat → Nat) (σ : fqS) : Prop := TmX (tmL qc (rk F w) T (2 ^ rk F w)) (fun s => mnB (mnP sh) (plB qc s (rk F w)) n) σ
def PairR (w T F : Nat) (qb : Nat → Nat) (τx τm : fqS) : Prop := ∃ y z, y ∈ zL F w ∧ z ∈ zL F w ∧ fqI τx 10 3 = nI y.1 ∧ fqI τx 10 4 = nI z.1 ∧ fqI τm 0 26 = nI y.2 ∧ fqI τm 0 27 = nI z.2 ∧ (∃ d, fqJ τx 10 5 = lN d ∧ fqJ τm 0 28 = lN d) ∧ y.2 &&& z.2 = 0 ∧ pop (plB qb y.2 w) = T ∧ pop (plB qb z.2 w) = T
/-- the best of the two lists, place by place -/
def bZ (n w T F k : Nat) (qb : Nat → Nat) (sh : Nat → Nat → Nat) : Option ((Nat × Nat) × (Nat × Nat)) := bst2 (fun y z => dS n w qb sh y.2 z.2) (fun y => y.2.testBit k && decide (pop (plB qb y.2 w) = T)) (fun y z => decide (y.2 &&& z.2 = 0) && decide (pop (plB qb z.2 w) = T)) (zL F w) (zL F w) none
theorem br_eq {n w T F k : Nat} {qb : Nat → Nat} {sh : Nat → Nat → Nat} (hw : w < 31) : bst2 (dS n w qb sh) (pR w T F k qb) (qR w T F qb) (List.range (2 ^ w)) (List.range (2 ^ w)) none = (bZ n w T F k qb sh).map (fun c => (c.1.2, c.2.2)) := by
  have h := bst2_filter (dS n w qb sh) (fun x => x.testBit k && decide (pop (plB qb x w) = T)) (fun x y => decide (x &&& y = 0) && decide (pop (plB qb y w) = T)) (fun a => decide (adn a F = 0)) (List.range (2 ^ w)) (List.range (2 ^ w)) none
  rw [← zL_snd F w hw] at h
  refine h.symm.trans ?_
  exact bst2_map (fun z : Nat × Nat => z.2) (dS n w qb sh) (fun x => x.testBit k && decide (pop (plB qb x w) = T)) (fun x y => decide (x &&& y = 0) && decide (pop (plB qb y w) = T)) (zL F w) (zL F w) none
theorem pl_z {w F : Nat} {qb qs qc qd : Nat → Nat} (hr : RowF w F qb qs qc qd) {z : Nat × Nat} (hz : z ∈ zL F w) : plB qc z.1 (rk F w) = plB qb z.2 w := zL_pl (zL_ok F w z hz).2.2 (fun k hk hb => (hr k hk hb).1)
theorem bc_eq {n w T F k : Nat} {qb qs qc qd : Nat → Nat} {sh : Nat → Nat → Nat} (hr : RowF w F qb qs qc qd) (hk : k < w) (hb : F.testBit k = true) : bst2 (fun x y => dif (mnB (mnP sh) (plB qc x (rk F w)) n) (mnB (mnP sh) (plB qc y (rk F w)) n)) (fun x => x.testBit (rk F k)) (fun x y => decide (x &&& y = 0)) (tmL qc (rk F w) T (2 ^ rk F w)) (tmL qc (rk F w) T (2 ^ rk F w)) none = (bZ n w T F k qb sh).map (fun c => (c.1.1, c.2.1)) := by
  unfold tmL
  rw [bst2_filter, ← zL_fst F w]
  refine (bst2_map (fun z : Nat × Nat => z.1) _ _ _ (zL F w) (zL F w) none).trans ?_
  congr 1
  refine bst2_congr (G := fun z => z ∈ zL F w) ?_ ?_ ?_ (zL F w) (fun b hb => hb) (zL F w) none (fun b hb => hb) (fun c hc => by cases hc)
  · intro x y hx hy
    show dif _ _ = dif _ _
    rw [pl_z hr hx, pl_z hr hy]
  · intro x hx
    show (decide (pop (plB qc x.1 (rk F w)) = T) && x.1.testBit (rk F k)) = (x.2.testBit k && decide (pop (plB qb x.2 w) = T))
    rw [pl_z hr hx, (zL_ok F w x hx).2.2 k hk, hb, Bool.true_and, Bool.and_comm]
  · intro x y hx hy
    show (decide (pop (plB qc y.1 (rk F w)) = T) && decide (x.1 &&& y.1 = 0)) = (decide (x.2 &&& y.2 = 0) && decide (pop (plB qb y.2 w) = T))
    rw [pl_z hr hy, Bool.and_comm, decide_eq_decide.mpr (zL_and hx hy)]
theorem pair_both {K n t q w T F k : Nat} {qb qs qc qd : Nat → Nat} {sh : Nat → Nat → Nat} {σx σm : fqS} (hK : 1024 < K) (hF : F < 2 ^ 31) (hq : q = 4 ∨ q = 7) (hS : PS n t w T qb qs sh) (hr : RowF w F qb qs qc qd) (hB : PB n t q w T F qb qs qc qd sh σx σm) (hTm : tmC n t q w T F qc sh σx) (hk : k < w) (hb : F.testBit k = true) : ∃ τx τm, eqW sXS σx τx ∧ eqW mMS σm τm ∧ ((pX8_hasPairing K n σx q (nI (rk F k)) = some (0, τx) ∧ pX9_findPairing K 0 σm (nI k) (nI F) = some (0, τm)) ∨ (pX8_hasPairing K n σx q (nI (rk F k)) = some (1, τx) ∧ pX9_findPairing K 0 σm (nI k) (nI F) = some (1, τm) ∧ PairR w T F qb τx τm)) := by
  obtain ⟨hO, ht, hqs, hmn⟩ := hS
  have hO' := OkQ_rk hO hr
  have hrk : rk F k < rk F w := cnt_lt (p := fun i => F.testBit i) hb hk
  have hw := hO.2.1
  have hw' := hO'.2.1
  have hw2 := p10 hw'
  obtain ⟨τm, m1, m2⟩ := find_eq hK hF hk hO hB.2.1 hB.2.2.1 hmn
  have hTL := tmL_lt hO'.1 hO'.2.1 hO'.2.2.1 hO'.2.2.2.1 hO'.2.2.2.2.1 hO'.2.2.2.2.2 (Nat.le_refl (2 ^ rk F w))
  have hin : ∀ x, x ∈ tmL qc (rk F w) T (2 ^ rk F w) → 0 < x ∧ x < 1024 := by
    intro x hx
    obtain ⟨a, b⟩ := List.mem_filter.mp hx
    have hx2 := List.mem_range.mp a
    have b' : pop (plB qc x (rk F w)) = T := by simpa using b
    refine ⟨?_, by omega⟩
    rcases Nat.eq_zero_or_pos x with z | z
    · rw [z, pl_0] at b'
      have e0 : pop 0 = 0 := by decide
      have := hO.2.2.1
      omega
    · exact z
  obtain ⟨τx, x1, x2⟩ := seek_eq (K := K) (n := n) (r := rk F k) hK (by omega) hTL hin (fun x => hmn _) hTm
  rw [bc_eq (sh := sh) (n := n) hr hk hb] at x1 x2
  rw [br_eq (show w < 31 by omega)] at m1
  have fx := x2.1
  have fm := m1.1
  have hB' := PB_fr hB fx fm (by unfold sXS; omega) ⟨by unfold sXS; omega, fun k => by unfold sXS; omega⟩ (fun p l => by unfold sXS; omega) (fun k => by unfold sXS; omega) (by unfold mMS; omega) (fun k => by unfold mMS; omega)
  refine ⟨τx, τm, fx, fm, ?_⟩
  have hz : ∀ c, bZ n w T F k qb sh = some c → c.1 ∈ zL F w ∧ c.2 ∈ zL F w ∧ c.1.2 &&& c.2.2 = 0 ∧ pop (plB qb c.1.2 w) = T ∧ pop (plB qb c.2.2 w) = T := by
    intro c hc
    refine bst2_ok (G := fun c => c.1 ∈ zL F w ∧ c.2 ∈ zL F w ∧ c.1.2 &&& c.2.2 = 0 ∧ pop (plB qb c.1.2 w) = T ∧ pop (plB qb c.2.2 w) = T) (zL F w) (zL F w) none (fun c hc => by cases hc) ?_ c hc
    intro a b ha hb hp hq
    simp only [Bool.and_eq_true, decide_eq_true_eq] at hp hq
    exact ⟨ha, hb, hq.1, hp.2, hq.2⟩
  cases ho : bZ n w T F k qb sh with
  | none =>
    rw [ho] at x1 x2 m1
    left
    refine ⟨?_, ?_⟩
    · unfold pX8_hasPairing
      rw [x1]
      rfl
    · rw [m2, m1.2.1 rfl, if_pos (by decide)]
  | some c =>
    rw [ho] at x1 x2 m1
    obtain ⟨y, z⟩ := c
    obtain ⟨z1, z2, z3, z4, z5⟩ := hz _ ho
    obtain ⟨a1, a2, a3, a4, a5⟩ := x2.2.2 (y.1, z.1) rfl
    obtain ⟨b1, b2, b3, b4⟩ := m1.2.2 (y.2, z.2) rfl
    simp only at a1 a2 a3 a4 a5 b1 b2 b3 b4 z1 z2 z3 z4 z5
    rw [pl_z hr z1, pl_z hr z2] at a5
    obtain ⟨v, v1, v2⟩ := bound_both (K := K) (n := n) ht hB'.2.2.2.1 hB'.2.2.2.2 hB'.2.1.2.2.1 hw hk (hqs k hk)
    have hsin := sinceAt_in (K := K) (n := n) hB'.1.2.2.1 hw' hrk
    rw [(hr k hk hb).2] at hsin
    have hx : pX8_hasPairing K n σx q (nI (rk F k)) = if v < lN (dS n w qb sh y.2 z.2) then some (0, τx) else some (1, τx) := by
      unfold pX8_hasPairing
      rw [x1, fqB2_some, if_neg (show ¬ (if (Option.map (fun c : (Nat × Nat) × (Nat × Nat) => (c.1.1, c.2.1)) (some (y, z))) = none then (0 : Int32) else 1) = 0 by simp), hsin, Option.bind_some, v1, Option.bind_some, a5]
    have hm : pX9_findPairing K 0 σm (nI k) (nI F) = if v < lN (dS n w qb sh y.2 z.2) then some (0, τm) else some (1, τm) := by
      rw [m2, b2, if_neg (nI_pos b1), v2, Option.bind_some, b4]
    by_cases hv : v < lN (dS n w qb sh y.2 z.2)
    · left
      rw [if_pos hv] at hx hm
      exact ⟨hx, hm⟩
    · right
      rw [if_neg hv] at hx hm
      exact ⟨hx, hm, y, z, z1, z2, a3, a4, b2, b3, ⟨_, a5, b4⟩, z3, z4, z5⟩
theorem any_loop {K n t q w T F : Nat} {qb qs qc qd : Nat → Nat} {sh : Nat → Nat → Nat} {σx σm : fqS} (hK : 1024 < K) (hF : F < 2 ^ 31) (hq : q = 4 ∨ q = 7) (hS : PS n t w T qb qs sh) (hr : RowF w F qb qs qc qd) (hB : PB n t q w T F qb qs qc qd sh σx σm) (hTm : tmC n t q w T F qc sh σx) : ∀ (m k : Nat), k + m = w → ∀ (kx km : Nat), m < kx → m + 1 < km → ∀ (υx υm : fqS), eqW sXS σx υx → eqW mMS σm υm → ∃ τx τm, eqW sXS σx τx ∧ eqW mMS σm τm ∧ ((fqL (fun rec (s : (Int32 × fqS)) => pX8_anyPairing_L18b K n q rec s.1 s.2) kx (nI (rk F k), υx) = some (0, τx) ∧ ∀ x2 rec27, fqL (fun rec (s : (Int32 × Int32 × fqS)) => pX9_plan_L44b K 0 (nI F) x2 rec27 rec s.1 s.2.1 s.2.2) km (0, nI k, υm) = pX9_plan_J89 K 0 (nI F) x2 0 τm rec27) ∨ (fqL (fun rec (s : (Int32 × fqS)) => pX8_anyPairing_L18b K n q rec s.1 s.2) kx (nI (rk F k), υx) = some (1, τx) ∧ (∀ x2 rec27, fqL (fun rec (s : (Int32 × Int32 × fqS)) => pX9_plan_L44b K 0 (nI F) x2 rec27 rec s.1 s.2.1 s.2.2) km (0, nI k, υm) = pX9_plan_J89 K 0 (nI F) x2 1 τm rec27) ∧ PairR w T F qb τx τm)) := by
  have hw := hS.1.2.1
  have hO' := OkQ_rk hS.1 hr
  have hw' := hO'.2.1
  intro m
  induction m with
  | zero =>
    intro k hkm kx km hkx hkm2 υx υm ex em
    have hkw : k = w := by omega
    subst hkw
    have hB' := PB_fr hB ex em (by unfold sXS; omega) ⟨by unfold sXS; omega, fun k => by unfold sXS; omega⟩ (fun p l => by unfold sXS; omega) (fun k => by unfold sXS; omega) (by unfold mMS; omega) (fun k => by unfold mMS; omega)
    obtain ⟨kx', rfl⟩ : ∃ j, kx = j + 1 := ⟨kx - 1, by omega⟩
    obtain ⟨km', rfl⟩ : ∃ j, km = j + 1 := ⟨km - 1, by omega⟩
    refine ⟨υx, υm, ex, em, Or.inl ⟨?_, fun x2 rec27 => ?_⟩⟩
    · show pX8_anyPairing_L18b K n q _ (nI (rk F k)) υx = _
      unfold pX8_anyPairing_L18b
      rw [hB'.1.2.2.1.1, ite_t (by rw [nI_leI (by omega) (by omega)]; omega)]
    · show pX9_plan_L44b K 0 (nI F) x2 rec27 _ 0 (nI k) υm = _
      unfold pX9_plan_L44b
      rw [hB'.2.1.2.2.1.1, ite_t (by rw [nI_leI (by omega) (by omega)]; omega)]
  | succ m ih =>
    intro k hkm kx km hkx hkm2 υx υm ex em
    have hkw : k < w := by omega
    have hB' := PB_fr hB ex em (by unfold sXS; omega) ⟨by unfold sXS; omega, fun k => by unfold sXS; omega⟩ (fun p l => by unfold sXS; omega) (fun k => by unfold sXS; omega) (by unfold mMS; omega) (fun k => by unfold mMS; omega)
    have hTm' : tmC n t q w T F qc sh υx := TmX_fr hTm ex ⟨by unfold sXS; omega, fun k => by unfold sXS; omega⟩
    obtain ⟨km', rfl⟩ : ∃ j, km = j + 1 := ⟨km - 1, by omega⟩
    have eb := nI_bit1 (B := F) (p := k) hF (by omega)
    have c1 : ¬ nI w ≤ nI k := by rw [nI_leI (by omega) (by omega)]; omega
    cases hb : F.testBit k with
    | false =>
      have hm1 : ∀ x2 rec27, fqL (fun rec (s : (Int32 × Int32 × fqS)) => pX9_plan_L44b K 0 (nI F) x2 rec27 rec s.1 s.2.1 s.2.2) (km' + 1) (0, nI k, υm) = fqL (fun rec (s : (Int32 × Int32 × fqS)) => pX9_plan_L44b K 0 (nI F) x2 rec27 rec s.1 s.2.1 s.2.2) km' (0, nI (k + 1), υm) := by
        intro x2 rec27
        show pX9_plan_L44b K 0 (nI F) x2 rec27 _ 0 (nI k) υm = _
        conv => lhs; unfold pX9_plan_L44b
        rw [hB'.2.1.2.2.1.1, ite_f c1, ite_t rfl, ite_f (fun z => by rw [eb.mp z] at hb; cases hb), nI_1]
        rfl
      obtain ⟨τx, τm, g1, g2, g3⟩ := ih (k + 1) (by omega) kx km' (by omega) (by omega) υx υm ex em
      rw [rk_f hb] at g3
      refine ⟨τx, τm, g1, g2, ?_⟩
      rcases g3 with ⟨g4, g5⟩ | ⟨g4, g5, g6⟩
      · exact Or.inl ⟨g4, fun x2 rec27 => (hm1 x2 rec27).trans (g5 x2 rec27)⟩
      · exact Or.inr ⟨g4, fun x2 rec27 => (hm1 x2 rec27).trans (g5 x2 rec27), g6⟩
    | true =>
      have hrk : rk F k < rk F w := cnt_lt (p := fun i => F.testBit i) hb hkw
      have c2 : ¬ nI (rk F w) ≤ nI (rk F k) := by rw [nI_leI (by omega) (by omega)]; omega
      obtain ⟨kx', rfl⟩ : ∃ j, kx = j + 1 := ⟨kx - 1, by omega⟩
      obtain ⟨τx, τm, f1, f2, f3⟩ := pair_both hK hF hq hS hr hB' hTm' hkw hb
      rcases f3 with ⟨f4, f5⟩ | ⟨f4, f5, f6⟩
      · have hx1 : fqL (fun rec (s : (Int32 × fqS)) => pX8_anyPairing_L18b K n q rec s.1 s.2) (kx' + 1) (nI (rk F k), υx) = fqL (fun rec (s : (Int32 × fqS)) => pX8_anyPairing_L18b K n q rec s.1 s.2) kx' (nI (rk F k + 1), τx) := by
          show pX8_anyPairing_L18b K n q _ (nI (rk F k)) υx = _
          conv => lhs; unfold pX8_anyPairing_L18b
          rw [hB'.1.2.2.1.1, ite_f c2, f4, fqB2_some, ite_t rfl, nI_1]
          rfl
        have hm1 : ∀ x2 rec27, fqL (fun rec (s : (Int32 × Int32 × fqS)) => pX9_plan_L44b K 0 (nI F) x2 rec27 rec s.1 s.2.1 s.2.2) (km' + 1) (0, nI k, υm) = fqL (fun rec (s : (Int32 × Int32 × fqS)) => pX9_plan_L44b K 0 (nI F) x2 rec27 rec s.1 s.2.1 s.2.2) km' (0, nI (k + 1), τm) := by
          intro x2 rec27
          show pX9_plan_L44b K 0 (nI F) x2 rec27 _ 0 (nI k) υm = _
          conv => lhs; unfold pX9_plan_L44b
          rw [hB'.2.1.2.2.1.1, ite_f c1, ite_t rfl, ite_t (eb.mpr hb), f5, fqB2_some, ite_t rfl, nI_1]
          rfl
        obtain ⟨ωx, ωm, g1, g2, g3⟩ := ih (k + 1) (by omega) kx' km' (by omega) (by omega) τx τm (ex.tr f1) (em.tr f2)
        rw [rk_t hb] at g3
        refine ⟨ωx, ωm, g1, g2, ?_⟩
        rcases g3 with ⟨g4, g5⟩ | ⟨g4, g5, g6⟩
        · exact Or.inl ⟨hx1.trans g4, fun x2 rec27 => (hm1 x2 rec27).trans (g5 x2 rec27)⟩
        · exact Or.inr ⟨hx1.trans g4, fun x2 rec27 => (hm1 x2 rec27).trans (g5 x2 rec27), g6⟩
      · refine ⟨τx, τm, ex.tr f1, em.tr f2, Or.inr ⟨?_, fun x2 rec27 => ?_, f6⟩⟩
        · show pX8_anyPairing_L18b K n q _ (nI (rk F k)) υx = _
          conv => lhs; unfold pX8_anyPairing_L18b
          rw [hB'.1.2.2.1.1, ite_f c2, f4, fqB2_some, ite_f (by decide)]
        · obtain ⟨kn, rfl⟩ : ∃ j, km' = j + 1 := ⟨km' - 1, by omega⟩
          have hm1 : fqL (fun rec (s : (Int32 × Int32 × fqS)) => pX9_plan_L44b K 0 (nI F) x2 rec27 rec s.1 s.2.1 s.2.2) (kn + 1 + 1) (0, nI k, υm) = fqL (fun rec (s : (Int32 × Int32 × fqS)) => pX9_plan_L44b K 0 (nI F) x2 rec27 rec s.1 s.2.1 s.2.2) (kn + 1) (1, nI (k + 1), τm) := by
            show pX9_plan_L44b K 0 (nI F) x2 rec27 _ 0 (nI k) υm = _
            conv => lhs; unfold pX9_plan_L44b
            rw [hB'.2.1.2.2.1.1, ite_f c1, ite_t rfl, ite_t (eb.mpr hb), f5, fqB2_some, ite_f (by decide), nI_1]
            rfl
          refine hm1.trans ?_
          show pX9_plan_L44b K 0 (nI F) x2 rec27 _ 1 (nI (k + 1)) τm = _
          unfold pX9_plan_L44b
          by_cases z : fqI τm 0 11 ≤ nI (k + 1)
          · rw [ite_t z]
          · rw [ite_f z, ite_f (by decide)]
