/-! the plan of a tick -/
def gnB (pf ps : Nat → Nat) : Nat → Nat
  | 0 => 0
  | j + 1 => gnB pf ps j ||| (pf j ||| ps j)
def pXW (q c _k : Nat) : Prop := (10 ≤ c ∧ c ≤ 15) ∨ c = q ∨ c = q + 1 ∨ c = q + 2
def pMW (c k : Nat) : Prop := (15 ≤ c ∧ c ≤ 18) ∨ (c = 0 ∧ (k = 26 ∨ k = 27 ∨ k = 28 ∨ k = 31))
def PLj (w T : Nat) (qb pf ps : Nat → Nat) (σx σm : fqS) (j : Nat) : Prop := fqI σx 14 j = nI (plB qb (pf j) w) ∧ fqI σx 15 j = nI (plB qb (ps j) w) ∧ fqI σm 17 j = nI (pf j) ∧ fqI σm 18 j = nI (ps j) ∧ pf j < 2 ^ w ∧ ps j < 2 ^ w ∧ pf j &&& ps j = 0 ∧ pop (plB qb (pf j) w) = T ∧ pop (plB qb (ps j) w) = T
def PL (w T i F : Nat) (qb pf ps : Nat → Nat) (σx σm : fqS) : Prop := fqI σx 13 2 = nI i ∧ fqI σm 0 31 = nI i ∧ F < 2 ^ w ∧ (∀ j, j < i → PLj w T qb pf ps σx σm j) ∧ ∀ k, k < w → F.testBit k = !(gnB pf ps i).testBit k
def PI (n t q w T i F : Nat) (qb qs : Nat → Nat) (sh : Nat → Nat → Nat) (sx sm σx σm : fqS) : Prop := (∃ qc qd, RowF w F qb qs qc qd ∧ PB n t q w T F qb qs qc qd sh σx σm) ∧ eqW (pXW q) sx σx ∧ eqW pMW sm σm ∧ ∃ pf ps, PL w T i F qb pf ps σx σm
theorem gnB_congr {pf ps pg pt : Nat → Nat} : ∀ {i : Nat}, (∀ j, j < i → pf j = pg j ∧ ps j = pt j) → gnB pf ps i = gnB pg pt i
  | 0, _ => rfl
  | i + 1, h => by rw [gnB, gnB, gnB_congr (fun j hj => h j (by omega)), (h i (by omega)).1, (h i (by omega)).2]
theorem rk_rel {F G P : Nat} : ∀ {w : Nat}, (∀ k, k < w → G.testBit k = (F.testBit k && !P.testBit (rk F k))) → cntB (fun i => !P.testBit i) (rk F w) = rk G w
  | 0, _ => rfl
  | w + 1, h => by
    have ih := rk_rel (w := w) (fun k hk => h k (by omega))
    have hw := h w (by omega)
    cases e : F.testBit w with
    | false =>
      rw [e, Bool.false_and] at hw
      rw [rk_f e, rk_f hw, ih]
    | true =>
      rw [e, Bool.true_and] at hw
      rw [rk_t e]
      cases e2 : P.testBit (rk F w) with
      | false =>
        rw [e2] at hw
        rw [rk_t hw, cnt_up (p := fun i => !P.testBit i) (r := rk F w) (by simp [e2]), ih]
      | true =>
        rw [e2] at hw
        rw [rk_f hw, cnt_no (p := fun i => !P.testBit i) (r := rk F w) (by simp [e2]), ih]
theorem addP {K n i : Nat} {σ : fqS} {x y : Int32} (h : fqI σ 13 2 = nI i) (hi : i < 5) : pX4_add K n σ x y = some (fqPI (fqPI (fqPI σ 14 i x) 15 i y) 13 2 (nI (i + 1))) := by
  have h1 : fqI (fqPI σ 14 i x) 13 2 = nI i := by rw [fqI_n _ _ _ _ _ _ (by omega)]; exact h
  have h2 : fqI (fqPI (fqPI σ 14 i x) 15 i y) 13 2 = nI i := by rw [fqI_n _ _ _ _ _ _ (by omega)]; exact h1
  simp (disch := omega) only [pX4_add, h, h1, h2, z5, nI_leI, nI_ltI, nI_eq, nI_clamp, nI_add, nI_n0, nI_e0, nI_p0, nI_l0, nI_g0, false_or, if_true, if_false, ite_t, ite_f, fqN_eq, nI_1]
theorem J89_go {K i F S1 S2 : Nat} {x2 : Int32} {σ : fqS} {rec27 : (Int32 × Int32 × fqS) → Option fqS} (h : fqI σ 0 31 = nI i) (hi : i < 5) (h1 : fqI σ 0 26 = nI S1) (h2 : fqI σ 0 27 = nI S2) : pX9_plan_J89 K 0 (nI F) x2 1 σ rec27 = rec27 (nI (adn F (S1 ||| S2)), 1, fqPI (fqPI (fqPI σ 17 i (nI S1)) 18 i (nI S2)) 0 31 (nI (i + 1))) := by
  have a1 : fqI (fqPI σ 17 i (nI S1)) 0 31 = nI i := by rw [fqI_n _ _ _ _ _ _ (by omega)]; exact h
  have a2 : fqI (fqPI σ 17 i (nI S1)) 0 27 = nI S2 := by rw [fqI_n _ _ _ _ _ _ (by omega)]; exact h2
  have a3 : fqI (fqPI (fqPI σ 17 i (nI S1)) 18 i (nI S2)) 0 31 = nI i := by rw [fqI_n _ _ _ _ _ _ (by omega)]; exact a1
  have a4 : fqI (fqPI (fqPI (fqPI σ 17 i (nI S1)) 18 i (nI S2)) 0 31 (nI (i + 1))) 0 26 = nI S1 := by rw [fqI_n _ _ _ _ _ _ (by omega), fqI_n _ _ _ _ _ _ (by omega), fqI_n _ _ _ _ _ _ (by omega)]; exact h1
  have a5 : fqI (fqPI (fqPI (fqPI σ 17 i (nI S1)) 18 i (nI S2)) 0 31 (nI (i + 1))) 0 27 = nI S2 := by rw [fqI_n _ _ _ _ _ _ (by omega), fqI_n _ _ _ _ _ _ (by omega), fqI_n _ _ _ _ _ _ (by omega)]; exact h2
  have lb : ¬ (nI i < 0 ∨ 5 ≤ Int32.toNatClampNeg (nI i)) := nI_in hi (by omega)
  unfold pX9_plan_J89
  rw [ite_f (by decide), h, ite_f lb, fqN_eq, nI_clamp (by omega), h1, a1, ite_f lb, fqN_eq, nI_clamp (by omega), a2, fqN_eq, a3, nI_1, a4, a5, nI_or, nI_adn]
/-- a turn of the class's plan -/
def ptX (K n q : Nat) (σ : fqS) (recX : fqS → Option fqS) : Option fqS := fqB2 (pX8_anyPairing K n σ q) (fun r7 σ8 => if r7 = 0 then some σ8 else (pX7_playersAt K n σ8 q (fqI σ8 10 3)).bind (fun r11 => (pX7_playersAt K n σ8 q (fqI σ8 10 4)).bind (fun r13 => (pX4_add K n σ8 r11 r13).bind (fun σ15 => (pX7_release K n σ15 q ((fqI σ15 10 3) ||| (fqI σ15 10 4))).bind (fun σ17 => recX σ17)))))
theorem plan_step {K n t q w T i F : Nat} {qb qs : Nat → Nat} {sh : Nat → Nat → Nat} {sx sm σx σm : fqS} (hK : 1024 < K) (hq : q = 4 ∨ q = 7) (hi : i < 5) (hS : PS n t w T qb qs sh) (hI : PI n t q w T i F qb qs sh sx sm σx σm) : ∃ τx τm, ((∀ recX, ptX K n q σx recX = some τx) ∧ (∀ x2 rec27, pX9_plan_L44 K 0 (nI F) x2 rec27 (0, 0, σm) = rec27 (nI F, 0, τm)) ∧ PI n t q w T i F qb qs sh sx sm τx τm) ∨ ∃ G, (∀ recX, ptX K n q σx recX = recX τx) ∧ (∀ x2 rec27, pX9_plan_L44 K 0 (nI F) x2 rec27 (0, 0, σm) = rec27 (nI G, 1, τm)) ∧ PI n t q w T (i + 1) G qb qs sh sx sm τx τm := by
  obtain ⟨⟨qc, qd, hr, hB⟩, fx, fm, pf, ps, p1, p2, p3, p4, p5⟩ := hI
  have hO := hS.1
  have hO' := OkQ_rk hO hr
  have hw := hO.2.1
  have hw' := hO'.2.1
  have hw2 := p10 hw
  have hw3 := p10 hw'
  have hF : F < 2 ^ 31 := by omega
  obtain ⟨υx, g1, g2, g3⟩ := gather_eq hK hq hO' hB.1
  have hB1 := PB_fr hB g3 (eqW.rf (S := fun _ _ => False) σm) (by unfold gXS; omega) ⟨by unfold gXS; omega, fun k => by unfold gXS; omega⟩ (fun p l => by unfold gXS; omega) (fun k => by unfold gXS; omega) ⟨id, id, id, id, id, id, id⟩ (fun k => ⟨id, id, id, id, id⟩)
  obtain ⟨τx, τm, e1, e2, e3⟩ := any_loop hK hF hq hS hr hB1 g2 w 0 (by omega) K K (by omega) (by omega) υx σm (eqW.rf _) (eqW.rf _)
  have hB2 := PB_fr hB1 e1 e2 (by unfold sXS; omega) ⟨by unfold sXS; omega, fun k => by unfold sXS; omega⟩ (fun p l => by unfold sXS; omega) (fun k => by unfold sXS; omega) (by unfold mMS; omega) (fun k => by unfold mMS; omega)
  have fx2 : eqW (pXW q) sx τx := (fx.tr (g3.mono (fun c k h => by unfold gXS at h; unfold pXW; omega))).tr (e1.mono (fun c k h => by unfold sXS at h; unfold pXW; omega))
  have fm2 : eqW pMW sm τm := fm.tr (e2.mono (fun c k h => by unfold mMS at h; unfold pMW; omega))
  have s1 : ∀ c k, c = 13 ∨ c = 14 ∨ c = 15 → fqI τx c k = fqI σx c k := fun c k h => by rw [e1.I (by unfold sXS; omega), g3.I (by unfold gXS; omega)]
  have s2 : ∀ c k, c = 17 ∨ c = 18 ∨ (c = 0 ∧ k = 31) → fqI τm c k = fqI σm c k := fun c k h => by rw [e2.I (by unfold mMS; omega)]
  have hPLj : ∀ j, j < i → PLj w T qb pf ps τx τm j := by
    intro j hj
    obtain ⟨a1, a2, a3, a4, a5⟩ := p4 j hj
    exact ⟨by rw [s1 _ _ (by omega)]; exact a1, by rw [s1 _ _ (by omega)]; exact a2, by rw [s2 _ _ (by omega)]; exact a3, by rw [s2 _ _ (by omega)]; exact a4, a5⟩
  have m13 : fqI τx 13 2 = nI i := by rw [s1 _ _ (by omega)]; exact p1
  have m31 : fqI τm 0 31 = nI i := by rw [s2 _ _ (by omega)]; exact p2
  have hany : ∀ r, fqL (fun rec (s : (Int32 × fqS)) => pX8_anyPairing_L18b K n q rec s.1 s.2) K (nI (rk F 0), υx) = some (r, τx) → pX8_anyPairing K n σx q = some (r, τx) := by
    intro r h
    unfold pX8_anyPairing
    rw [hB.1.2.1, g1, Option.bind_some]
    exact h
  rcases e3 with ⟨q1, q2⟩ | ⟨q1, q2, y, z, hy, hz, a3, a4, b3, b4, _, hyz, ty, tz⟩
  · refine ⟨τx, τm, Or.inl ⟨fun recX => ?_, fun x2 rec27 => ?_, ⟨qc, qd, hr, hB2⟩, fx2, fm2, pf, ps, m13, m31, p3, hPLj, p5⟩⟩
    · unfold ptX
      rw [hany 0 q1, fqB2_some, ite_t rfl]
    · refine (q2 x2 rec27).trans ?_
      unfold pX9_plan_J89
      rw [ite_t rfl]
  · obtain ⟨y1, y2, y3⟩ := zL_ok F w y hy
    obtain ⟨z1, z2, z3⟩ := zL_ok F w z hz
    have hP : y.1 ||| z.1 < 2 ^ rk F w := or_lt y1 z1
    have hG : ∀ k, k < w → (adn F (y.2 ||| z.2)).testBit k = (F.testBit k && !(y.1 ||| z.1).testBit (rk F k)) := by
      intro k hk
      rw [adn_bit (by omega), Nat.testBit_or, Nat.testBit_or, y3 k hk, z3 k hk]
      cases F.testBit k <;> simp
    have hcw := rk_rel (F := F) (G := adn F (y.2 ||| z.2)) (P := y.1 ||| z.1) (w := w) hG
    obtain ⟨e, he1, he2⟩ := cnt_inv (fun i => !(y.1 ||| z.1).testBit i) (rk F w)
    have plx := playersAt_eq (K := K) (n := n) (s := y.1) (by omega) hw' hB2.1.2.2.1 (by omega)
    have plz := playersAt_eq (K := K) (n := n) (s := z.1) (by omega) hw' hB2.1.2.2.1 (by omega)
    rw [pl_z hr hy] at plx
    rw [pl_z hr hz] at plz
    have hadd := addP (K := K) (n := n) (x := nI (plB qb y.2 w)) (y := nI (plB qb z.2 w)) m13 hi
    have f13 : eqW (fun c k => (c = 14 ∧ k = i) ∨ (c = 15 ∧ k = i) ∨ (c = 13 ∧ k = 2)) τx (fqPI (fqPI (fqPI τx 14 i (nI (plB qb y.2 w))) 15 i (nI (plB qb z.2 w))) 13 2 (nI (i + 1))) := ((eqW_PI (by omega)).tr (eqW_PI (by omega))).tr (eqW_PI (by omega))
    have v14 : fqI (fqPI (fqPI (fqPI τx 14 i (nI (plB qb y.2 w))) 15 i (nI (plB qb z.2 w))) 13 2 (nI (i + 1))) 14 i = nI (plB qb y.2 w) := by rw [fqI_n _ _ _ _ _ _ (by omega), fqI_n _ _ _ _ _ _ (by omega), fqI_s]
    have v15 : fqI (fqPI (fqPI (fqPI τx 14 i (nI (plB qb y.2 w))) 15 i (nI (plB qb z.2 w))) 13 2 (nI (i + 1))) 15 i = nI (plB qb z.2 w) := by rw [fqI_n _ _ _ _ _ _ (by omega), fqI_s]
    have v13 : fqI (fqPI (fqPI (fqPI τx 14 i (nI (plB qb y.2 w))) 15 i (nI (plB qb z.2 w))) 13 2 (nI (i + 1))) 13 2 = nI (i + 1) := fqI_s _ _ _ _
    generalize fqPI (fqPI (fqPI τx 14 i (nI (plB qb y.2 w))) 15 i (nI (plB qb z.2 w))) 13 2 (nI (i + 1)) = ωx at hadd f13 v14 v15 v13
    have hJ := fun x2 rec27 => J89_go (K := K) (F := F) (x2 := x2) (rec27 := rec27) m31 hi b3 b4
    have f17 : eqW (fun c k => (c = 17 ∧ k = i) ∨ (c = 18 ∧ k = i) ∨ (c = 0 ∧ k = 31)) τm (fqPI (fqPI (fqPI τm 17 i (nI y.2)) 18 i (nI z.2)) 0 31 (nI (i + 1))) := ((eqW_PI (by omega)).tr (eqW_PI (by omega))).tr (eqW_PI (by omega))
    have v17 : fqI (fqPI (fqPI (fqPI τm 17 i (nI y.2)) 18 i (nI z.2)) 0 31 (nI (i + 1))) 17 i = nI y.2 := by rw [fqI_n _ _ _ _ _ _ (by omega), fqI_n _ _ _ _ _ _ (by omega), fqI_s]
    have v18 : fqI (fqPI (fqPI (fqPI τm 17 i (nI y.2)) 18 i (nI z.2)) 0 31 (nI (i + 1))) 18 i = nI z.2 := by rw [fqI_n _ _ _ _ _ _ (by omega), fqI_s]
    have v31 : fqI (fqPI (fqPI (fqPI τm 17 i (nI y.2)) 18 i (nI z.2)) 0 31 (nI (i + 1))) 0 31 = nI (i + 1) := fqI_s _ _ _ _
    generalize fqPI (fqPI (fqPI τm 17 i (nI y.2)) 18 i (nI z.2)) 0 31 (nI (i + 1)) = ωm at hJ f17 v17 v18 v31
    have hB3 := PB_fr hB2 f13 f17 (by omega) ⟨by omega, fun k => by omega⟩ (fun p l => by omega) (fun k => by omega) (by omega) (fun k => by omega)
    obtain ⟨ρx, r1, r2, r3⟩ := release_eq (K := K) (n := n) (by omega) hw' (show y.1 ||| z.1 < 2 ^ 31 by omega) hB3.1.2.2.1 he1
    rw [hcw] at r2 he1
    have hB4 : PB n t q w T (adn F (y.2 ||| z.2)) qb qs (fun i => qc (e i)) (fun i => qd (e i)) sh ρx ωm := by
      obtain ⟨⟨x1, x2, x3, x4⟩, h2, h3, h4, h5⟩ := hB3
      refine ⟨⟨by rw [r3.I (by omega)]; exact x1, by rw [r3.I (by omega)]; exact x2, r2, fun p hp l hl => by rw [r3.J (by omega)]; exact x4 p hp l hl⟩, h2, h3, Rb_fr h4 r3 (eqW.rf (S := fun _ _ => False) ωm) (fun k => by omega) ⟨id, id, id⟩, Rt_fr h5 r3 (eqW.rf (S := fun _ _ => False) ωm) (by omega) id⟩
    refine ⟨ρx, ωm, Or.inr ⟨adn F (y.2 ||| z.2), fun recX => ?_, fun x2 rec27 => (q2 x2 rec27).trans (hJ x2 rec27), ⟨_, _, ?_, hB4⟩, ?_, ?_, va_up pf i y.2, va_up ps i z.2, ?_, v31, adn_lt p3, fun j hj => ?_, fun k hk => ?_⟩⟩
    · have w3 : fqI ωx 10 3 = nI y.1 := by rw [f13.I (by omega)]; exact a3
      have w4 : fqI ωx 10 4 = nI z.1 := by rw [f13.I (by omega)]; exact a4
      unfold ptX
      rw [hany 1 q1, fqB2_some, ite_f (by decide), a3, plx, Option.bind_some, a4, plz, Option.bind_some, hadd, Option.bind_some, w3, w4, nI_or, r1, Option.bind_some]
    · intro k hk hb
      rw [hG k hk] at hb
      have hb1 : F.testBit k = true := by
        cases h : F.testBit k with
        | true => rfl
        | false => rw [h] at hb; cases hb
      rw [hb1, Bool.true_and] at hb
      have hc := rk_rel (F := F) (G := adn F (y.2 ||| z.2)) (P := y.1 ||| z.1) (w := k) (fun k' hk' => hG k' (by omega))
      have hee := he2 (rk F k) (cnt_lt (p := fun i => F.testBit i) hb1 hk) hb
      rw [hc] at hee
      show qc (e (rk (adn F (y.2 ||| z.2)) k)) = _ ∧ qd (e (rk (adn F (y.2 ||| z.2)) k)) = _
      rw [hee]
      exact hr k hk hb1
    · exact (fx2.tr (f13.mono (fun c k h => by unfold pXW; omega))).tr (r3.mono (fun c k h => by unfold pXW; omega))
    · exact fm2.tr (f17.mono (fun c k h => by unfold pMW; omega))
    · rw [r3.I (by omega)]; exact v13
    · by_cases ej : j = i
      · subst ej
        unfold PLj
        rw [va_up_self, va_up_self, r3.I (by omega), r3.I (by omega)]
        exact ⟨v14, v15, v17, v18, y2, z2, hyz, ty, tz⟩
      · obtain ⟨c1, c2, c3, c4, c5⟩ := hPLj j (by omega)
        unfold PLj
        rw [va_up_ne _ _ ej, va_up_ne _ _ ej, r3.I (by omega), r3.I (by omega), f13.I (by omega), f13.I (by omega), f17.I (by omega), f17.I (by omega)]
        exact ⟨c1, c2, c3, c4, c5⟩
    · have hc : gnB (va_up pf i y.2) (va_up ps i z.2) i = gnB pf ps i := gnB_congr (fun j hj => ⟨va_up_ne _ _ (by omega), va_up_ne _ _ (by omega)⟩)
      rw [gnB, hc, va_up_self, va_up_self, adn_bit (by omega), p5 k hk]
      simp only [Nat.testBit_or]
      cases (gnB pf ps i).testBit k <;> cases y.2.testBit k <;> cases z.2.testBit k <;> rfl
theorem plan_loop {K n t q w T room : Nat} {qb qs : Nat → Nat} {sh : Nat → Nat → Nat} {sx sm : fqS} (hK : 1024 < K) (hq : q = 4 ∨ q = 7) (hroom : room ≤ 5) (hS : PS n t w T qb qs sh) : ∀ (m i : Nat), i + m = room → ∀ (kx km : Nat), m < kx → m + 1 < km → ∀ (F : Nat) (σx σm : fqS), PI n t q w T i F qb qs sh sx sm σx σm → ∃ N G τx τm, N ≤ room ∧ PI n t q w T N G qb qs sh sx sm τx τm ∧ fqL (fun rec (s : (Int32 × fqS)) => pX8_planTick_L20b K n q (nI room) rec s.1 s.2) kx (nI i, σx) = some τx ∧ fqL (fun rec (s : (Int32 × Int32 × fqS)) => pX9_plan_L27b K 0 (nI room) rec s.1 s.2.1 s.2.2) km (nI F, 1, σm) = some τm := by
  intro m
  induction m with
  | zero =>
    intro i him kx km hkx hkm F σx σm hI
    obtain ⟨kx', rfl⟩ : ∃ j, kx = j + 1 := ⟨kx - 1, by omega⟩
    obtain ⟨km', rfl⟩ : ∃ j, km = j + 1 := ⟨km - 1, by omega⟩
    refine ⟨i, F, σx, σm, by omega, hI, ?_, ?_⟩
    · show pX8_planTick_L20b K n q (nI room) _ (nI i) σx = _
      unfold pX8_planTick_L20b
      rw [ite_t (by rw [nI_leI (by omega) (by omega)]; omega)]
    · obtain ⟨_, _, _, pf, ps, p1, p2, p3⟩ := hI
      show pX9_plan_L27b K 0 (nI room) _ (nI F) 1 σm = _
      unfold pX9_plan_L27b
      rw [ite_f (by decide), p2, ite_t (by rw [nI_leI (by omega) (by omega)]; omega)]
  | succ m ih =>
    intro i him kx km hkx hkm F σx σm hI
    obtain ⟨kx', rfl⟩ : ∃ j, kx = j + 1 := ⟨kx - 1, by omega⟩
    obtain ⟨km', rfl⟩ : ∃ j, km = j + 1 := ⟨km - 1, by omega⟩
    have p2 : fqI σm 0 31 = nI i := by
      obtain ⟨_, _, _, pf, ps, p1, p2, p3⟩ := hI
      exact p2
    have cX : ∀ rec : (Int32 × fqS) → Option fqS, pX8_planTick_L20b K n q (nI room) rec (nI i) σx = ptX K n q σx (fun σ => rec (nI (i + 1), σ)) := by
      intro rec
      unfold pX8_planTick_L20b ptX
      rw [ite_f (by rw [nI_leI (by omega) (by omega)]; omega), nI_1]
    have cM : ∀ rec : (Int32 × Int32 × fqS) → Option fqS, pX9_plan_L27b K 0 (nI room) rec (nI F) 1 σm = pX9_plan_L44 K 0 (nI F) (nI room) rec (0, 0, σm) := by
      intro rec
      unfold pX9_plan_L27b
      rw [ite_f (by decide), p2, ite_f (by rw [nI_leI (by omega) (by omega)]; omega)]
    obtain ⟨τx, τm, h⟩ := plan_step hK hq (show i < 5 by omega) hS hI
    rcases h with ⟨h1, h2, h3⟩ | ⟨G, h1, h2, h3⟩
    · refine ⟨i, F, τx, τm, by omega, h3, ?_, ?_⟩
      · exact (cX _).trans (h1 _)
      · refine (cM _).trans ((h2 _ _).trans ?_)
        obtain ⟨kn, rfl⟩ : ∃ j, km' = j + 1 := ⟨km' - 1, by omega⟩
        show pX9_plan_L27b K 0 (nI room) _ (nI F) 0 τm = _
        unfold pX9_plan_L27b
        rw [ite_t rfl]
    · obtain ⟨N, G', ωx, ωm, a1, a2, a3, a4⟩ := ih (i + 1) (by omega) kx' km' (by omega) (by omega) G τx τm h3
      exact ⟨N, G', ωx, ωm, a1, a2, (cX _).trans ((h1 (fun s => fqL (fun rec (s : (Int32 × fqS)) => pX8_planTick_L20b K n q (nI room) rec s.1 s.2) kx' (nI (i + 1), s))).trans a3), (cM _).trans ((h2 _ _).trans a4)⟩
theorem full_bit {w k : Nat} (hk : k < w) : (2 ^ w - 1).testBit k = true := by rw [Nat.testBit_two_pow_sub_one]; simp [hk]
theorem rk_full {F : Nat} : ∀ {w : Nat}, (∀ k, k < w → F.testBit k = true) → rk F w = w
  | 0, _ => rfl
  | w + 1, h => by rw [rk_t (h w (by omega)), rk_full (w := w) (fun k hk => h k (by omega))]
/-- what a call's plan rests on -/
theorem plan_pre {t n : Nat} {sx sm : fqS} (ht : t ≤ 512) (hR : Rel t n sx sm) : ∃ w T qb qs sh, Qf n t w qb qs ∧ PS n t w T qb qs sh ∧ Qx 4 w qb qs sx ∧ RowX n 4 w T qb qs sh sx ∧ RowM n w T qb qs sh sm := by
  obtain ⟨hn, hNx, hNm⟩ := hR.1
  obtain ⟨w, qb, qs, hf, hx, hm⟩ := Rq_to hR.2.2.2.2.2.2.1
  obtain ⟨T, T1, T2, T3, T4⟩ := hR.2.2.2.1
  have hsh : ∀ p, ∃ f : Nat → Nat, p < n → Rh sx sm p f := fun p => by
    by_cases hp : p < n
    · obtain ⟨_, ⟨f, hf⟩, _⟩ := hR.2.1 p hp
      exact ⟨f, fun _ => hf⟩
    · exact ⟨fun _ => 0, fun h => absurd h hp⟩
  obtain ⟨sh, hs⟩ : ∃ sh : Nat → Nat → Nat, ∀ p, p < n → Rh sx sm p (sh p) := ⟨fun p => Classical.choose (hsh p), fun p hp => Classical.choose_spec (hsh p) hp⟩
  refine ⟨w, T, qb, qs, sh, hf, ⟨⟨hn, hf.1, T1, T2, fun k hk => ⟨(hf.2.1 k hk).1, (hf.2.1 k hk).2.1⟩, hf.2.2⟩, ht, fun k hk => (hf.2.1 k hk).2.2, fun x => ?_⟩, hx, ⟨hNx, T3, hx, fun p hp l hl => ((hs p hp).2 l hl).1⟩, ⟨hNm, T4, hm, fun p hp l hl => ((hs p hp).2 l hl).2⟩⟩
  have h := mnB_le (M := mnP sh) (B := x) (m := 6000000) (n := n) (fun p hp => mnP_le (hs p hp).1)
  have h2 : n * 6000000 ≤ 16 * 6000000 := Nat.mul_le_mul_right _ hn
  omega
theorem plan_both {K n t q w T g : Nat} {qb qs : Nat → Nat} {sh : Nat → Nat → Nat} {sx sm : fqS} (hK : 1024 < K) (hq : q = 4 ∨ q = 7) (hg : g ≤ 5) (hS : PS n t w T qb qs sh) (hX : RowX n q w T qb qs sh sx) (hM : RowM n w T qb qs sh sm) (hb : Rb sx sm) (hT : Rt t sx sm) (g1 : ∀ σ, eqW (fun c k => c = 13 ∧ k = 2) sx σ → pX2_going K n σ = some (nI g)) (g2 : ∀ σ, eqW pMW sm σ → pX9_playing K 0 σ = some (nI g)) : ∃ N G τx τm, N + g ≤ 5 ∧ PI n t q w T N G qb qs sh sx sm τx τm ∧ pX8_planTick K n sx q = some τx ∧ pX9_plan K 0 sm = some τm := by
  have hw := hS.1.2.1
  have hwp := Nat.two_pow_pos w
  have hw2 := p10 hw
  obtain ⟨υm, l1, l2, l3⟩ := laySets_eq hK hS.1 hM
  have fm0 : eqW pMW sm (fqPI υm 0 31 0) := (l3.mono (fun c k h => by unfold lMS at h; unfold pMW; omega)).tr (eqW_PI (by unfold pMW; omega))
  have fx0 : eqW (pXW q) sx (fqPI sx 13 2 0) := eqW_PI (by unfold pXW; omega)
  have hfull : ∀ k, k < w → (2 ^ w - 1).testBit k = true := fun k hk => full_bit hk
  have hrkw := rk_full hfull
  have e1 : eqW (fun c k => c = 13 ∧ k = 2) sx (fqPI sx 13 2 0) := eqW_PI ⟨rfl, rfl⟩
  have e2 : eqW (fun c k => c = 15 ∨ c = 16 ∨ (c = 0 ∧ k = 31)) sm (fqPI υm 0 31 0) := (l3.mono (fun c k h => by unfold lMS at h; omega)).tr (eqW_PI (by omega))
  have hI : PI n t q w T 0 (2 ^ w - 1) qb qs sh sx sm (fqPI sx 13 2 0) (fqPI υm 0 31 0) := by
    refine ⟨⟨qb, qs, fun k hk hb => ?_, ?_⟩, fx0, fm0, fun _ => 0, fun _ => 0, fqI_s _ _ _ _, fqI_s _ _ _ _, by omega, fun j hj => absurd hj (by omega), fun k hk => ?_⟩
    · rw [rk_full (fun k' hk' => hfull k' (by omega))]; exact ⟨rfl, rfl⟩
    · refine ⟨?_, RowM_fr hM e2 (by omega) (by omega) ⟨by omega, fun k => by omega⟩ (fun l => by omega), fun s hs => ?_, Rb_fr hb e1 e2 (fun k => by omega) (by omega), Rt_fr hT e1 e2 (by omega) (by omega)⟩
      · rw [hrkw]
        exact RowX_fr hX e1 (by omega) (by omega) ⟨by omega, fun k => by omega⟩ (fun p l => by omega)
      · obtain ⟨a, b⟩ := l2 s hs
        exact ⟨by rw [fqI_n _ _ _ _ _ _ (by omega)]; exact a, by rw [fqJ_PI]; exact b⟩
    · rw [hfull k hk, gnB, Nat.zero_testBit]; rfl
  obtain ⟨N, G, τx, τm, h1, h2, h3, h4⟩ := plan_loop (room := 5 - g) hK hq (by omega) hS (5 - g) 0 (by omega) K K (by omega) (by omega) (2 ^ w - 1) _ _ hI
  refine ⟨N, G, τx, τm, by omega, h2, ?_, ?_⟩
  · unfold pX8_planTick pX8_planTick_L20
    rw [fqN_eq, g1 _ e1, Option.bind_some, z5, pk_sub hg]
    exact h3
  · unfold pX9_plan pX9_plan_L27
    have hm11 : fqI (fqPI υm 0 31 0) 0 11 = nI w := by rw [e2.I (by omega)]; exact hM.2.2.1.1
    rw [l1, Option.bind_some, fqN_eq, g2 _ fm0, Option.bind_some, hm11, nI_one (by omega), z5, z1, pk_sub hg, pk_sub (by omega)]
    exact h4
