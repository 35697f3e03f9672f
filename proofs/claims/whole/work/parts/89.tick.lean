/-! tick -/
theorem cnt_full {p : Nat → Bool} : ∀ {n : Nat}, (∀ i, i < n → p i = true) → cntB p n = n
  | 0, _ => rfl
  | n + 1, h => by rw [cnt_up (h n (by omega)), cnt_full (fun i hi => h i (by omega))]
theorem cnt_free {p : Nat → Bool} {n : Nat} (h : cntB p n < n) : ∃ m, m < n ∧ p m = false := by
  apply Classical.byContradiction
  intro q
  have : cntB p n = n := cnt_full (fun i hi => by
    cases e : p i with
    | true => rfl
    | false => exact absurd ⟨i, hi, e⟩ q)
  omega
theorem cnt_set {p q : Nat → Bool} {s : Nat} (hp : p s = false) (hq : q s = true) (h : ∀ i, i ≠ s → q i = p i) : ∀ {n : Nat}, s < n → cntB q n = cntB p n + 1
  | 0, hs => absurd hs (by omega)
  | n + 1, hs => by
    rcases Nat.lt_or_ge s n with z | z
    · have ih := cnt_set hp hq h z
      rw [cntB, cntB, ih, h n (by omega)]
      omega
    · have e : s = n := by omega
      subst e
      rw [cnt_up hq, cnt_no hp, cntB_congr (fun i hi => h i (by omega))]
def goX (σ : fqS) (m : Nat) : Bool := decide (¬ fqI σ (18 + m) 0 = 0)
def goM (σ : fqS) (m : Nat) : Bool := decide (¬ fqI σ 8 m = 0)
theorem go_both {n t : Nat} {sx sm : fqS} (hn : n ≤ 16) (hm : Rm n t sx sm) {m : Nat} (h5 : m < 5) : goX sx m = goM sm m := by
  unfold goX goM
  exact decide_eq_decide.mpr (not_congr (goes_iff hn hm h5))
theorem begin_eq {K n s : Nat} {σ : fqS} {x1 x2 : Int32} {x3 : Int64} (hK : 16 < K) (hs : s < 5) (h0 : fqI σ (18 + s) 0 = 0) (hlt : ∀ m, m < s → ¬ fqI σ (18 + m) 0 = 0) : pX2_begin K n σ x1 x2 x3 = some (fqPJ (fqPI (fqPI (fqPI σ (18 + s) 0 x1) (18 + s) 1 x2) (18 + s) 2 0) (18 + s) 3 x3) := by
  unfold pX2_begin pX2_begin_L3
  refine fqL_go (fun j => (nI j, σ)) s rfl (by omega) ?_ ?_
  · intro rec
    show pX2_begin_L3b K n x1 x2 x3 rec (nI s) σ = _
    simp (disch := omega) only [pX2_begin_L3b, z5, nI_leI, ite_f, nI_n0, false_or, nI_clamp, pX1_goesOn, h0, if_true, Option.bind_some, fqN_eq]
  · intro j hj rec
    show pX2_begin_L3b K n x1 x2 x3 rec (nI j) σ = rec (nI (j + 1), σ)
    simp (disch := omega) only [pX2_begin_L3b, z5, nI_leI, ite_f, nI_n0, false_or, nI_clamp, pX1_goesOn, if_neg (hlt j hj), Option.bind_some, c10, if_false, nI_1]
theorem gnB_lt {pf ps : Nat → Nat} {w : Nat} : ∀ {i : Nat}, (∀ j, j < i → pf j < 2 ^ w ∧ ps j < 2 ^ w) → gnB pf ps i < 2 ^ w
  | 0, _ => Nat.two_pow_pos w
  | i + 1, h => by
    rw [gnB]
    exact or_lt (gnB_lt (fun j hj => h j (by omega))) (or_lt (h i (by omega)).1 (h i (by omega)).2)
/-- where the matches of a tick's plan stand so far -/
def TI (n t g N w T i : Nat) (qb pf ps : Nat → Nat) (τx τm σx σm : fqS) : Prop := eqW (fun c _ => 18 ≤ c ∧ c ≤ 22) τx σx ∧ eqW (fun c _ => 8 ≤ c ∧ c ≤ 12) τm σm ∧ Rm n t σx σm ∧ cntB (goX σx) 5 = g + i
theorem tick_step {K n t g N w T i tk : Nat} {qb qs pf ps : Nat → Nat} {τx τm σx σm : fqS} (hK : 1024 < K) (hn : n ≤ 16) (hf : Qf n t w qb qs) (hT : 1 ≤ T) (hg : g + N ≤ 5) (hi : i < N) (hm : Qm w qb qs τm) (hj : PLj w T qb pf ps τx τm i) (htk : tk ≤ t + 1) (k1 : fqJ τx 0 12 = lN tk) (k2 : fqI τm 0 10 = nI tk) (h : TI n (t + 1) g N w T i qb pf ps τx τm σx σm) : ∃ ωx ωm, TI n (t + 1) g N w T (i + 1) qb pf ps τx τm ωx ωm ∧ (∀ recX : fqS → Option (Int64 × fqS), (pX4_firstAt K n σx (nI i)).bind (fun r7 => ((pX4_secondAt K n σx (nI i)).bind (fun r9 => ((pX2_begin K n σx r7 r9 (fqJ σx 0 12)).bind (fun σ11 => recX σ11))))) = recX ωx) ∧ ∀ x1 rec8, pX9_tick_L18 K 0 (nI x1) (nI i) rec8 (0, σm) = rec8 (nI (x1 ||| (pf i ||| ps i)), nI (i + 1), ωm) := by
  obtain ⟨h1, h2, h3, h4⟩ := h
  obtain ⟨j1, j2, j3, j4, j5, j6, j7, j8, j9⟩ := hj
  have hw := hf.1
  have hw2 := p10 hw
  have h16 := p2n hn
  obtain ⟨s, ⟨hs5, hs0⟩, hmin⟩ := pk_least (fun m => m < 5 ∧ goX σx m = false) (cnt_free (p := goX σx) (n := 5) (by omega))
  have hmin' : ∀ m, m < s → goX σx m = true := fun m hm => by
    cases e : goX σx m with
    | true => rfl
    | false => exact absurd ⟨by omega, e⟩ (hmin m hm)
  have x0 : fqI σx (18 + s) 0 = 0 := by simpa [goX] using hs0
  have xl : ∀ m, m < s → ¬ fqI σx (18 + m) 0 = 0 := fun m hm => by simpa [goX] using hmin' m hm
  have m0 : fqI σm 8 s = 0 := (goes_iff hn h3 hs5).mp x0
  have ml : ∀ m, m < s → ¬ fqI σm 8 m = 0 := fun m hm q => xl m hm ((goes_iff hn h3 (by omega)).mpr q)
  have B1 := plB_lt (qb := qb) (s := pf i) (fun k hk => (hf.2.1 k hk).2.1)
  have B2 := plB_lt (qb := qb) (s := ps i) (fun k hk => (hf.2.1 k hk).2.1)
  have B3 := plB_and hf j7
  have n1 : plB qb (pf i) w ≠ 0 := fun e => by
    rw [e] at j8
    have e0 : pop 0 = 0 := by decide
    omega
  have n2 : plB qb (ps i) w ≠ 0 := fun e => by
    rw [e] at j9
    have e0 : pop 0 = 0 := by decide
    omega
  have hp1 := playersOf_eq (K := K) (N := 0) (s := pf i) (σ := fqPI σm 8 s 1) (by omega) hw (Qm_fr (Qm_fr hm h2 ⟨by omega, fun k => by omega⟩) (eqW_PI (S := fun c _ => c = 8) rfl) ⟨by omega, fun k => by omega⟩) (by omega)
  have hp2 := playersOf_eq (K := K) (N := 0) (s := ps i) (σ := fqPI (fqPI σm 8 s 1) 9 s (nI (plB qb (pf i) w))) (by omega) hw (Qm_fr (Qm_fr (Qm_fr hm h2 ⟨by omega, fun k => by omega⟩) (eqW_PI (S := fun c _ => c = 8) rfl) ⟨by omega, fun k => by omega⟩) (eqW_PI (S := fun c _ => c = 9) rfl) ⟨by omega, fun k => by omega⟩) (by omega)
  generalize plB qb (pf i) w = b1 at j1 B1 B3 n1 hp1 hp2
  generalize plB qb (ps i) w = b2 at j2 B2 B3 n2 hp2
  have t12 : fqJ σx 0 12 = lN tk := by rw [h1.J (by omega)]; exact k1
  have t10 : fqI σm 0 10 = nI tk := by rw [h2.I (by omega)]; exact k2
  have f14 : fqI σx 14 i = nI b1 := by rw [h1.I (by omega)]; exact j1
  have f15 : fqI σx 15 i = nI b2 := by rw [h1.I (by omega)]; exact j2
  have f17 : fqI σm 17 i = nI (pf i) := by rw [h2.I (by omega)]; exact j3
  have f18 : fqI σm 18 i = nI (ps i) := by rw [h2.I (by omega)]; exact j4
  have hbeg := begin_eq (K := K) (n := n) (x1 := nI b1) (x2 := nI b2) (x3 := lN tk) (by omega) hs5 x0 xl
  have ex : eqW (fun c _ => c = 18 + s) σx (fqPJ (fqPI (fqPI (fqPI σx (18 + s) 0 (nI b1)) (18 + s) 1 (nI b2)) (18 + s) 2 0) (18 + s) 3 (lN tk)) := (((eqW_PI (by rfl)).tr (eqW_PI (by rfl))).tr (eqW_PI (by rfl))).tr (eqW_PJ (by rfl))
  have ex0 : fqI (fqPJ (fqPI (fqPI (fqPI σx (18 + s) 0 (nI b1)) (18 + s) 1 (nI b2)) (18 + s) 2 0) (18 + s) 3 (lN tk)) (18 + s) 0 = nI b1 := by rw [fqI_PJ, fqI_n _ _ _ _ _ _ (by omega), fqI_n _ _ _ _ _ _ (by omega), fqI_s]
  have ex1 : fqI (fqPJ (fqPI (fqPI (fqPI σx (18 + s) 0 (nI b1)) (18 + s) 1 (nI b2)) (18 + s) 2 0) (18 + s) 3 (lN tk)) (18 + s) 1 = nI b2 := by rw [fqI_PJ, fqI_n _ _ _ _ _ _ (by omega), fqI_s]
  have ex2 : fqI (fqPJ (fqPI (fqPI (fqPI σx (18 + s) 0 (nI b1)) (18 + s) 1 (nI b2)) (18 + s) 2 0) (18 + s) 3 (lN tk)) (18 + s) 2 = nI 0 := by rw [fqI_PJ, fqI_s]; rfl
  have ex3 : fqJ (fqPJ (fqPI (fqPI (fqPI σx (18 + s) 0 (nI b1)) (18 + s) 1 (nI b2)) (18 + s) 2 0) (18 + s) 3 (lN tk)) (18 + s) 3 = lN tk := fqJ_s _ _ _ _
  generalize fqPJ (fqPI (fqPI (fqPI σx (18 + s) 0 (nI b1)) (18 + s) 1 (nI b2)) (18 + s) 2 0) (18 + s) 3 (lN tk) = ωx at hbeg ex ex0 ex1 ex2 ex3
  have em : eqW (fun c k => 8 ≤ c ∧ c ≤ 12 ∧ k = s) σm (fqPI (fqPI (fqPI (fqPI (fqPI σm 8 s 1) 9 s (nI b1)) 10 s (nI b2)) 11 s 0) 12 s (nI tk)) := ((((eqW_PI (by omega)).tr (eqW_PI (by omega))).tr (eqW_PI (by omega))).tr (eqW_PI (by omega))).tr (eqW_PI (by omega))
  have em8 : fqI (fqPI (fqPI (fqPI (fqPI (fqPI σm 8 s 1) 9 s (nI b1)) 10 s (nI b2)) 11 s 0) 12 s (nI tk)) 8 s = nI 1 := by rw [fqI_n _ _ _ _ _ _ (by omega), fqI_n _ _ _ _ _ _ (by omega), fqI_n _ _ _ _ _ _ (by omega), fqI_n _ _ _ _ _ _ (by omega), fqI_s]; rfl
  have em9 : fqI (fqPI (fqPI (fqPI (fqPI (fqPI σm 8 s 1) 9 s (nI b1)) 10 s (nI b2)) 11 s 0) 12 s (nI tk)) 9 s = nI b1 := by rw [fqI_n _ _ _ _ _ _ (by omega), fqI_n _ _ _ _ _ _ (by omega), fqI_n _ _ _ _ _ _ (by omega), fqI_s]
  have em10 : fqI (fqPI (fqPI (fqPI (fqPI (fqPI σm 8 s 1) 9 s (nI b1)) 10 s (nI b2)) 11 s 0) 12 s (nI tk)) 10 s = nI b2 := by rw [fqI_n _ _ _ _ _ _ (by omega), fqI_n _ _ _ _ _ _ (by omega), fqI_s]
  have em11 : fqI (fqPI (fqPI (fqPI (fqPI (fqPI σm 8 s 1) 9 s (nI b1)) 10 s (nI b2)) 11 s 0) 12 s (nI tk)) 11 s = nI 0 := by rw [fqI_n _ _ _ _ _ _ (by omega), fqI_s]; rfl
  have em12 : fqI (fqPI (fqPI (fqPI (fqPI (fqPI σm 8 s 1) 9 s (nI b1)) 10 s (nI b2)) 11 s 0) 12 s (nI tk)) 12 s = nI tk := fqI_s _ _ _ _
  have u17 : fqI (fqPI (fqPI (fqPI (fqPI (fqPI σm 8 s 1) 9 s (nI b1)) 10 s (nI b2)) 11 s 0) 12 s (nI tk)) 17 i = nI (pf i) := by rw [em.I (by omega)]; exact f17
  have u18 : fqI (fqPI (fqPI (fqPI (fqPI (fqPI σm 8 s 1) 9 s (nI b1)) 10 s (nI b2)) 11 s 0) 12 s (nI tk)) 18 i = nI (ps i) := by rw [em.I (by omega)]; exact f18
  have u17' : fqI (fqPI σm 8 s 1) 17 i = nI (pf i) := by rw [fqI_n _ _ _ _ _ _ (by omega)]; exact f17
  have u18' : fqI (fqPI (fqPI σm 8 s 1) 9 s (nI b1)) 18 i = nI (ps i) := by rw [fqI_n _ _ _ _ _ _ (by omega), fqI_n _ _ _ _ _ _ (by omega)]; exact f18
  have u10 : fqI (fqPI (fqPI (fqPI (fqPI σm 8 s 1) 9 s (nI b1)) 10 s (nI b2)) 11 s 0) 0 10 = nI tk := by rw [fqI_n _ _ _ _ _ _ (by omega), fqI_n _ _ _ _ _ _ (by omega), fqI_n _ _ _ _ _ _ (by omega), fqI_n _ _ _ _ _ _ (by omega)]; exact t10
  have lbi : ¬ (nI i < 0 ∨ 5 ≤ Int32.toNatClampNeg (nI i)) := nI_in (by omega) (by omega)
  refine ⟨ωx, _, ⟨h1.tr (ex.mono (fun c k h => by omega)), h2.tr (em.mono (fun c k h => by omega)), fun m hm5 => ?_, ?_⟩, fun recX => ?_, fun x1 rec8 => ?_⟩
  · by_cases e : m = s
    · subst e
      obtain ⟨p1, hp1⟩ := bits_n0 n1
      obtain ⟨p2, hp2⟩ := bits_n0 n2
      exact Or.inr ⟨b1, b2, 0, tk, em8, B1, B2, Nat.two_pow_pos n, B3, ⟨p1, hp1, Nat.zero_testBit _⟩, ⟨p2, hp2, Nat.zero_testBit _⟩, htk, ex0, em9, ex1, em10, ex2, em11, ex3, em12⟩
    · exact Rm_fr1 (h3 m hm5) ex em (fun k => by omega) (fun c h1 h2 => by omega)
  · have hq : goX ωx s = true := by
      unfold goX
      rw [ex0]
      exact decide_eq_true (nI_ne0 (Nat.pos_of_ne_zero n1) (by omega))
    have := cnt_set (p := goX σx) (q := goX ωx) hs0 hq (fun m hm => by unfold goX; rw [ex.I (by omega)]) hs5
    omega
  · have hbeg' : pX2_begin K n σx (nI b1) (nI b2) (fqJ σx 0 12) = some ωx := by rw [t12]; exact hbeg
    simp (disch := omega) only [pX4_firstAt, pX4_secondAt, z5, nI_leI, nI_n0, if_false, false_or, ite_f, nI_clamp, f14, f15, Option.bind_some, hbeg']
  · unfold pX9_tick_L18
    refine fqL_go (fun j => (nI j, σm)) s rfl (by omega) ?_ ?_
    · intro rec
      show pX9_tick_L18b K 0 (nI x1) (nI i) rec8 rec (nI s) σm = _
      have lbs : ¬ (nI s < 0 ∨ 5 ≤ Int32.toNatClampNeg (nI s)) := nI_in (by omega) (by omega)
      unfold pX9_tick_L18b
      rw [ite_f lbs, nI_clamp (show s < 2 ^ 31 by omega), nI_clamp (show i < 2 ^ 31 by omega), ite_t m0, fqN_eq, ite_f (nI_in' (show i < 5 by omega) (by omega)), u17', hp1, Option.bind_some, fqN_eq, u18', hp2, Option.bind_some, fqN_eq, fqN_eq, u10, fqN_eq, u17, u18, nI_or, nI_or, nI_1]
    · intro j hj rec
      show pX9_tick_L18b K 0 (nI x1) (nI i) rec8 rec (nI j) σm = rec (nI (j + 1), σm)
      have lbj : ¬ (nI j < 0 ∨ 5 ≤ Int32.toNatClampNeg (nI j)) := nI_in (by omega) (by omega)
      unfold pX9_tick_L18b
      rw [ite_f lbj, nI_clamp (show j < 2 ^ 31 by omega), ite_f (ml j hj), nI_1]
theorem tick_loop {K n t g N w T tk : Nat} {qb qs pf ps : Nat → Nat} {τx τm : fqS} (hK : 1024 < K) (hn : n ≤ 16) (hf : Qf n t w qb qs) (hT : 1 ≤ T) (hg : g + N ≤ 5) (hm : Qm w qb qs τm) (hj : ∀ i, i < N → PLj w T qb pf ps τx τm i) (htk : tk ≤ t + 1) (k1 : fqJ τx 0 12 = lN tk) (k2 : fqI τm 0 10 = nI tk) (k3 : fqI τx 13 2 = nI N) (k4 : fqI τm 0 31 = nI N) : ∀ (m i : Nat), i + m = N → ∀ (kx km : Nat), m < kx → m < km → ∀ σx σm, TI n (t + 1) g N w T i qb pf ps τx τm σx σm → ∃ ωx ωm, TI n (t + 1) g N w T N qb pf ps τx τm ωx ωm ∧ fqL (fun rec (s : (Int32 × fqS)) => pX8_tick_L10b K n rec s.1 s.2) kx (nI i, σx) = some (lN N, fqPJ ωx 0 12 (lN (tk + 1))) ∧ fqL (fun rec (s : (Int32 × Int32 × fqS)) => pX9_tick_L8b K 0 rec s.1 s.2.1 s.2.2) km (nI (gnB pf ps i), nI i, σm) = pX9_tick_L118 K 0 (nI (gnB pf ps N)) (nI w - 1, ωm) := by
  intro m
  induction m with
  | zero =>
    intro i him kx km hkx hkm σx σm h
    have hiN : i = N := by omega
    subst hiN
    obtain ⟨kx', rfl⟩ : ∃ j, kx = j + 1 := ⟨kx - 1, by omega⟩
    obtain ⟨km', rfl⟩ : ∃ j, km = j + 1 := ⟨km - 1, by omega⟩
    obtain ⟨h1, h2, h3, h4⟩ := id h
    have a1 : fqI σx 13 2 = nI i := by rw [h1.I (by omega)]; exact k3
    have a2 : fqJ σx 0 12 = lN tk := by rw [h1.J (by omega)]; exact k1
    have a3 : fqI σm 0 31 = nI i := by rw [h2.I (by omega)]; exact k4
    have a4 : fqI σm 0 11 = nI w := by rw [h2.I (by omega)]; exact hm.1
    refine ⟨σx, σm, h, ?_, ?_⟩
    · show pX8_tick_L10b K n _ (nI i) σx = _
      unfold pX8_tick_L10b
      rw [a1, ite_t (by rw [nI_leI (by omega) (by omega)]; omega), a2, fqN_eq, fqI_PJ, a1, nI_l (by omega), lN_1]
    · show pX9_tick_L8b K 0 _ (nI (gnB pf ps i)) (nI i) σm = _
      unfold pX9_tick_L8b
      rw [a3, ite_t (by rw [nI_leI (by omega) (by omega)]; omega), a4]
  | succ m ih =>
    intro i him kx km hkx hkm σx σm h
    obtain ⟨kx', rfl⟩ : ∃ j, kx = j + 1 := ⟨kx - 1, by omega⟩
    obtain ⟨km', rfl⟩ : ∃ j, km = j + 1 := ⟨km - 1, by omega⟩
    obtain ⟨h1, h2, h3, h4⟩ := id h
    have a1 : fqI σx 13 2 = nI N := by rw [h1.I (by omega)]; exact k3
    have a3 : fqI σm 0 31 = nI N := by rw [h2.I (by omega)]; exact k4
    obtain ⟨υx, υm, s1, s2, s3⟩ := tick_step hK hn hf hT hg (show i < N by omega) hm (hj i (by omega)) htk k1 k2 h
    obtain ⟨ωx, ωm, g1, g2, g3⟩ := ih (i + 1) (by omega) kx' km' (by omega) (by omega) υx υm s1
    refine ⟨ωx, ωm, g1, ?_, ?_⟩
    · refine Eq.trans ?_ g2
      show pX8_tick_L10b K n _ (nI i) σx = _
      conv => lhs; unfold pX8_tick_L10b
      rw [a1, ite_f (by rw [nI_leI (by omega) (by omega)]; omega), nI_1]
      exact s2 (fun s => fqL (fun rec (s : (Int32 × fqS)) => pX8_tick_L10b K n rec s.1 s.2) kx' (nI (i + 1), s))
    · refine Eq.trans ?_ g3
      show pX9_tick_L8b K 0 _ (nI (gnB pf ps i)) (nI i) σm = _
      conv => lhs; unfold pX9_tick_L8b
      rw [a3, ite_f (by rw [nI_leI (by omega) (by omega)]; omega)]
      exact s3 _ _
theorem cnt_gap (p : Nat → Bool) (a : Nat) : ∀ m, cntB p (a + m) ≤ cntB p a + m
  | 0 => Nat.le_refl _
  | m + 1 => by
    have ih := cnt_gap p a m
    show cntB p (a + m + 1) ≤ _
    rw [cntB]
    split <;> omega
theorem cnt_lt2 {G d w : Nat} (h : d < w) : d + 1 + (rk G w - rk G (d + 1)) ≤ w := by
  have h1 := cnt_gap (fun i => G.testBit i) (d + 1) (w - (d + 1))
  rw [show d + 1 + (w - (d + 1)) = w by omega] at h1
  have h2 : rk G w ≤ rk G (d + 1) + (w - (d + 1)) := h1
  omega
/-- those who play wait no more: the reference's way -/
theorem outs_eq {K w G A : Nat} {qb qs e : Nat → Nat} {σ : fqS} (hK : 1024 < K) (hw : w ≤ 10) (hA : A < 2 ^ 31) (hm : Qm w qb qs σ) (hG : ∀ k, k < w → G.testBit k = !A.testBit k) (he1 : ∀ i, i < rk G w → e i < w ∧ G.testBit (e i) = true ∧ rk G (e i) = i) (he2 : ∀ r, r < w → G.testBit r = true → e (rk G r) = r) : ∃ τ, pX9_tick_L118 K 0 (nI A) (nI w - 1, σ) = some (Int32.toInt64 (fqI τ 0 31), fqPI τ 0 10 (fqI τ 0 10 + 1)) ∧ Qm (rk G w) (fun i => qb (e i)) (fun i => qs (e i)) τ ∧ eqW (fun c k => c = 6 ∨ c = 7 ∨ (c = 0 ∧ k = 11)) σ τ := by
  unfold pX9_tick_L118
  obtain ⟨τ, h1, h2⟩ := fqL_ex (f := fun τ : fqS => (Int32.toInt64 (fqI τ 0 31), fqPI τ 0 10 (fqI τ 0 10 + 1))) (body := fun rec (s : (Int32 × fqS)) => pX9_tick_L118b K 0 (nI A) rec s.1 s.2)
    (fun τ => Qm (rk G w) (fun i => qb (e i)) (fun i => qs (e i)) τ ∧ eqW (fun c k => c = 6 ∨ c = 7 ∨ (c = 0 ∧ k = 11)) σ τ)
    (fun j z => z.1 = nI (w - j) - 1 ∧ eqW (fun c k => c = 6 ∨ c = 7 ∨ (c = 0 ∧ k = 11)) σ z.2 ∧ Qm (w - j + (rk G w - rk G (w - j))) (fun i => if i < w - j then qb i else qb (e (rk G (w - j) + (i - (w - j))))) (fun i => if i < w - j then qs i else qs (e (rk G (w - j) + (i - (w - j))))) z.2) w (k := K) (s := (nI w - 1, σ)) (by omega)
    ⟨rfl, eqW.rf _, by
      rw [Nat.sub_zero, Nat.sub_self, Nat.add_zero]
      exact Qm_congr hm (fun i hi => by refine ⟨?_, ?_⟩ <;> simp only [if_pos hi])⟩
    (by
      rintro j ⟨x, υ⟩ hj ⟨rfl, q1, q2⟩
      obtain ⟨d, hd⟩ : ∃ d, w - j = d + 1 := ⟨w - j - 1, by omega⟩
      have hd2 : w - (j + 1) = d := by omega
      rw [hd] at q2
      rw [hd, hd2]
      have hmw := cnt_mono (fun i => G.testBit i) (show d + 1 ≤ w by omega)
      have hmw' : rk G (d + 1) ≤ rk G w := hmw
      have hcl := cntB_le (fun i => G.testBit i) w
      have hcl' : rk G w ≤ w := hcl
      have eb := nI_bit1 (B := A) (p := d) hA (by omega)
      have hx : nI (d + 1) - 1 = nI d := nI_pred d
      have hGd := hG d (by omega)
      cases hb : A.testBit d with
      | false =>
        rw [hb] at hGd
        have hGd' : G.testBit d = true := hGd
        have hrk := rk_t hGd'
        refine ⟨(nI d - 1, υ), ⟨rfl, q1, ?_⟩, fun rec => ?_⟩
        · rw [show d + (rk G w - rk G d) = d + 1 + (rk G w - rk G (d + 1)) by omega]
          refine Qm_congr q2 (fun i hi => ?_)
          rcases Nat.lt_trichotomy i d with z | z | z
          · refine ⟨?_, ?_⟩ <;> simp only [if_pos z, if_pos (show i < d + 1 by omega)]
          · subst z
            refine ⟨?_, ?_⟩ <;> simp only [if_neg (Nat.lt_irrefl i), if_pos (Nat.lt_succ_self i), Nat.sub_self, Nat.add_zero, he2 i (by omega) hGd']
          · refine ⟨?_, ?_⟩ <;> simp only [if_neg (show ¬ i < d by omega), if_neg (show ¬ i < d + 1 by omega), hrk, show rk G d + 1 + (i - (d + 1)) = rk G d + (i - d) by omega]
        · show pX9_tick_L118b K 0 (nI A) rec (nI (d + 1) - 1) υ = _
          unfold pX9_tick_L118b
          rw [hx, ite_f (nI_pos (by omega)), ite_f (fun z => by rw [eb.mp z] at hb; cases hb), Int32.sub_eq_add_neg]
      | true =>
        rw [hb] at hGd
        have hGd' : G.testBit d = false := hGd
        have hrk := rk_f hGd'
        obtain ⟨υ', t1, t2, t3⟩ := takeOut_eq (K := K) (w := d + 1 + (rk G w - rk G (d + 1))) (k := d) (by omega) (by have := cnt_lt2 (G := G) (d := d) (w := w) (by omega); omega) (by omega) q2
        refine ⟨(nI d - 1, υ'), ⟨rfl, q1.tr t3, ?_⟩, fun rec => ?_⟩
        · rw [show d + (rk G w - rk G d) = d + 1 + (rk G w - rk G (d + 1)) - 1 by omega]
          refine Qm_congr t2 (fun i hi => ?_)
          by_cases z : i < d
          · refine ⟨?_, ?_⟩ <;> simp only [if_pos z, if_pos (show i < d + 1 by omega)]
          · refine ⟨?_, ?_⟩ <;> simp only [if_neg z, if_neg (show ¬ i + 1 < d + 1 by omega), hrk, show i + 1 - (d + 1) = i - d by omega]
        · show pX9_tick_L118b K 0 (nI A) rec (nI (d + 1) - 1) υ = _
          unfold pX9_tick_L118b
          rw [hx, ite_f (nI_pos (by omega)), ite_t (eb.mpr hb), t1, Option.bind_some, Int32.sub_eq_add_neg])
    (by
      rintro ⟨x, υ⟩ ⟨rfl, q1, q2⟩
      rw [Nat.sub_self] at q2
      refine ⟨υ, ⟨?_, q1⟩, fun rec => ?_⟩
      · have e0 : rk G 0 = 0 := rfl
        rw [e0, Nat.zero_add, Nat.sub_zero] at q2
        exact Qm_congr q2 (fun i hi => by refine ⟨?_, ?_⟩ <;> simp only [if_neg (Nat.not_lt_zero i), Nat.zero_add, Nat.sub_zero])
      · show pX9_tick_L118b K 0 (nI A) rec (nI (w - w) - 1) υ = _
        unfold pX9_tick_L118b
        rw [Nat.sub_self, ite_t (show nI 0 - 1 < 0 by decide), fqN_eq, fqI_n _ _ _ _ _ _ (by omega)])
  exact ⟨τ, h1, h2⟩
