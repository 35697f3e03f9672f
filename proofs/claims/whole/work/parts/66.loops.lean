/-- a loop by an invariant -/
theorem fqL_inv {S α : Type} {body : (S → Option α) → S → Option α} (Inv : Nat → S → Prop) (Post : Option α → Prop) (N : Nat) (hs : ∀ i s, i < N → Inv i s → ∃ s', Inv (i + 1) s' ∧ ∀ rec, body rec s = rec s') (hx : ∀ s, Inv N s → ∃ r, Post r ∧ ∀ rec, body rec s = r) : ∀ (k i : Nat) (s : S), i ≤ N → N - i < k → Inv i s → ∃ r, fqL body k s = r ∧ Post r := by
  intro k
  induction k with
  | zero => intro i s h1 h2; exact absurd h2 (by omega)
  | succ k ih =>
    intro i s h1 h2 hI
    rcases Nat.lt_or_ge i N with h | h
    · obtain ⟨s', hI', hb⟩ := hs i s h hI
      obtain ⟨r, e, hp⟩ := ih (i + 1) s' h (by omega) hI'
      exact ⟨r, by show body (fqL body k) s = r; rw [hb]; exact e, hp⟩
    · rw [show i = N by omega] at hI
      obtain ⟨r, hp, hb⟩ := hx s hI
      exact ⟨r, hb _, hp⟩
theorem fqL_inv0 {S α : Type} {body : (S → Option α) → S → Option α} (Inv : Nat → S → Prop) (Post : Option α → Prop) (N : Nat) {k : Nat} {s : S} (hk : N < k) (h0 : Inv 0 s) (hs : ∀ i s, i < N → Inv i s → ∃ s', Inv (i + 1) s' ∧ ∀ rec, body rec s = rec s') (hx : ∀ s, Inv N s → ∃ r, Post r ∧ ∀ rec, body rec s = r) : ∃ r, fqL body k s = r ∧ Post r := fqL_inv Inv Post N hs hx k 0 s (by omega) (by omega) h0
theorem fqL_ex {S α β : Type} {body : (S → Option α) → S → Option α} (f : β → α) (P : β → Prop) (Inv : Nat → S → Prop) (N : Nat) {k : Nat} {s : S} (hk : N < k) (h0 : Inv 0 s) (hs : ∀ i s, i < N → Inv i s → ∃ s', Inv (i + 1) s' ∧ ∀ rec, body rec s = rec s') (hx : ∀ s, Inv N s → ∃ b, P b ∧ ∀ rec, body rec s = some (f b)) : ∃ b, fqL body k s = some (f b) ∧ P b := by
  obtain ⟨r, e, b, h1, h2⟩ := fqL_inv0 Inv (fun r => ∃ b, r = some (f b) ∧ P b) N hk h0 hs (fun s h => by
    obtain ⟨b, h1, h2⟩ := hx s h
    exact ⟨some (f b), ⟨b, rfl, h1⟩, h2⟩)
  exact ⟨b, e.trans h1, h2⟩
def cntB (p : Nat → Bool) : Nat → Nat
  | 0 => 0
  | n + 1 => cntB p n + (if p n then 1 else 0)
theorem cntB_le (p : Nat → Bool) : ∀ n, cntB p n ≤ n
  | 0 => Nat.le_refl _
  | n + 1 => by
    have := cntB_le p n
    rw [cntB]
    split <;> omega
theorem cntB_congr {p q : Nat → Bool} : ∀ {n : Nat}, (∀ i, i < n → p i = q i) → cntB p n = cntB q n
  | 0, _ => rfl
  | n + 1, h => by rw [cntB, cntB, cntB_congr (fun i hi => h i (by omega)), h n (by omega)]
theorem cntB_zero {p : Nat → Bool} : ∀ {n : Nat}, cntB p n = 0 ↔ ∀ i, i < n → p i = false
  | 0 => ⟨fun _ i hi => absurd hi (by omega), fun _ => rfl⟩
  | n + 1 => by
    rw [cntB]
    constructor
    · intro h i hi
      have h1 : cntB p n = 0 := by omega
      rcases Nat.lt_or_ge i n with q | q
      · exact cntB_zero.mp h1 i q
      · rw [show i = n by omega]
        cases hp : p n with
        | false => rfl
        | true => rw [hp] at h; simp at h
    · intro h
      rw [cntB_zero.mpr (fun i hi => h i (by omega)), h n (by omega)]
      rfl
theorem going_eq (k n : Nat) (σ : fqS) (hk : 5 < k) : pX2_going k n σ = some (nI (cntB (fun m => decide (¬ fqI σ (18 + m) 0 = 0)) 5)) := by
  unfold pX2_going pX2_going_L4
  refine fqL_go (fun j => (nI (cntB (fun m => decide (¬ fqI σ (18 + m) 0 = 0)) j), nI j)) 5 rfl hk ?_ ?_
  · intro rec
    simp (disch := omega) only [pX2_going_L4b, z1, z2, z3, z4, z5, z6, z7, z8, z10, z16, z20, z112, z175, z1023, nI_leI, nI_ltI, nI_eq, nI_clamp, nI_add, nI_n0, nI_e0, nI_p0, nI_l0, nI_g0, false_or, if_true, if_false, ite_t, ite_f]
  · intro j hj rec
    by_cases hg : fqI σ (18 + j) 0 = 0
    · simp (disch := omega) only [pX2_going_L4b, pX1_goesOn, z1, z2, z3, z4, z5, z6, z7, z8, z10, z16, z20, z112, z175, z1023, nI_leI, nI_ltI, nI_eq, nI_clamp, nI_add, nI_n0, nI_e0, nI_p0, nI_l0, nI_g0, false_or, if_true, if_false, ite_t, ite_f, hg, cntB]
      simp [hg]
    · simp (disch := omega) only [pX2_going_L4b, pX1_goesOn, z1, z2, z3, z4, z5, z6, z7, z8, z10, z16, z20, z112, z175, z1023, nI_leI, nI_ltI, nI_eq, nI_clamp, nI_add, nI_n0, nI_e0, nI_p0, nI_l0, nI_g0, false_or, if_true, if_false, ite_t, ite_f, if_neg hg, cntB, Option.bind_some]
      simp (disch := omega) [hg, nI_leI, nI_ltI, nI_eq, nI_clamp, nI_add, nI_n0, nI_e0, nI_p0, nI_l0, nI_g0, false_or, if_true, if_false, ite_t, ite_f]
theorem playing_eq (k : Nat) (σ : fqS) (hk : 5 < k) : pX9_playing k 0 σ = some (nI (cntB (fun m => decide (¬ fqI σ 8 m = 0)) 5)) := by
  unfold pX9_playing pX9_playing_L4
  refine fqL_go (fun j => (nI (cntB (fun m => decide (¬ fqI σ 8 m = 0)) j), nI j)) 5 rfl hk ?_ ?_
  · intro rec
    simp (disch := omega) only [pX9_playing_L4b, z1, z2, z3, z4, z5, z6, z7, z8, z10, z16, z20, z112, z175, z1023, nI_leI, nI_ltI, nI_eq, nI_clamp, nI_add, nI_n0, nI_e0, nI_p0, nI_l0, nI_g0, false_or, if_true, if_false, ite_t, ite_f]
  · intro j hj rec
    by_cases hg : fqI σ 8 j = 0
    · simp (disch := omega) only [pX9_playing_L4b, z1, z2, z3, z4, z5, z6, z7, z8, z10, z16, z20, z112, z175, z1023, nI_leI, nI_ltI, nI_eq, nI_clamp, nI_add, nI_n0, nI_e0, nI_p0, nI_l0, nI_g0, false_or, if_true, if_false, ite_t, ite_f, hg, cntB]
      simp [hg]
    · simp (disch := omega) only [pX9_playing_L4b, z1, z2, z3, z4, z5, z6, z7, z8, z10, z16, z20, z112, z175, z1023, nI_leI, nI_ltI, nI_eq, nI_clamp, nI_add, nI_n0, nI_e0, nI_p0, nI_l0, nI_g0, false_or, if_true, if_false, ite_t, ite_f, if_neg hg, cntB]
      simp [hg]
theorem somePlays_eq (k : Nat) (σ : fqS) (hk : 5 < k) : pX9_somePlays k 0 σ = some (if cntB (fun m => decide (¬ fqI σ 8 m = 0)) 5 = 0 then 0 else 1) := by
  unfold pX9_somePlays pX9_somePlays_L4
  refine fqL_go (fun j => (if cntB (fun m => decide (¬ fqI σ 8 m = 0)) j = 0 then 0 else 1, nI j)) 5 rfl hk ?_ ?_
  · intro rec
    simp (disch := omega) only [pX9_somePlays_L4b, z5, nI_leI, ite_t]
    split
    · rfl
    · rfl
  · intro j hj rec
    by_cases hc : cntB (fun m => decide (¬ fqI σ 8 m = 0)) j = 0
    · by_cases hg : fqI σ 8 j = 0
      · simp (disch := omega) only [pX9_somePlays_L4b, z1, z2, z3, z4, z5, z6, z7, z8, z10, z16, z20, z112, z175, z1023, nI_leI, nI_ltI, nI_eq, nI_clamp, nI_add, nI_n0, nI_e0, nI_p0, nI_l0, nI_g0, false_or, if_true, if_false, ite_t, ite_f, hg, hc, cntB, c00]
        simp [hg]
      · simp (disch := omega) only [pX9_somePlays_L4b, z1, z2, z3, z4, z5, z6, z7, z8, z10, z16, z20, z112, z175, z1023, nI_leI, nI_ltI, nI_eq, nI_clamp, nI_add, nI_n0, nI_e0, nI_p0, nI_l0, nI_g0, false_or, if_true, if_false, ite_t, ite_f, hc, if_neg hg, cntB, c00]
        simp [hg]
    · have hc2 : ¬ cntB (fun m => decide (¬ fqI σ 8 m = 0)) (j + 1) = 0 := by rw [cntB]; omega
      simp (disch := omega) only [pX9_somePlays_L4b, if_neg hc, if_neg hc2, c10, if_false, z5, nI_leI, nI_e0, ite_f, z1, nI_add]
theorem p2n {n : Nat} (h : n ≤ 16) : 2 ^ n ≤ 65536 := Nat.pow_le_pow_right (by omega) h
theorem goes_iff {n t : Nat} {sx sm : fqS} (hn : n ≤ 16) (hm : Rm n t sx sm) {m : Nat} (h5 : m < 5) : fqI sx (18 + m) 0 = 0 ↔ fqI sm 8 m = 0 := by
  rcases hm m h5 with ⟨g1, g2, _, _⟩ | ⟨f, s, d, k, g1, g2, _, _, _, ⟨p, g6, _⟩, _, _, g9, _⟩
  · rw [g1, g2]
  · have hf : f ≠ 0 := fun e => by rw [e, Nat.zero_testBit] at g6; cases g6
    have h16 := p2n hn
    rw [g1, g9, nI_e0 (by omega), nI_e0 (by omega)]
    omega
theorem going_both {n t K : Nat} {sx sm : fqS} (hK : 5 < K) (hR : Rel t n sx sm) : ∃ g, g ≤ 5 ∧ pX2_going K n sx = some (nI g) ∧ pX9_playing K 0 sm = some (nI g) ∧ pX9_somePlays K 0 sm = some (if g = 0 then 0 else 1) := by
  have e : cntB (fun m => decide (¬ fqI sx (18 + m) 0 = 0)) 5 = cntB (fun m => decide (¬ fqI sm 8 m = 0)) 5 := cntB_congr (fun i hi => by simp only [goes_iff hR.1.1 hR.2.2.2.2.2.2.2.1 hi])
  refine ⟨cntB (fun m => decide (¬ fqI sm 8 m = 0)) 5, cntB_le _ _, ?_, playing_eq K sm hK, somePlays_eq K sm hK⟩
  rw [going_eq K n sx hK, e]
theorem st_count (K : Nat) (hK : 5 < K) : lwS_count Rel K := by
  intro t n sx sm x1 ht hR
  obtain ⟨hn, hNx, hNm⟩ := hR.1
  obtain ⟨g, g1, g2, g3, _⟩ := going_both hK hR
  obtain ⟨T, t1, t2, t3, t4⟩ := hR.2.2.2.1
  obtain ⟨k, k1, k2, k3⟩ := hR.2.2.2.2.2.1
  obtain ⟨w, w1, w2, w3, _⟩ := hR.2.2.2.2.2.2.1
  obtain ⟨e, e1, e2, e3⟩ := hR.2.2.2.2.2.2.2.2.1
  obtain ⟨c, d1, d2, d3, _⟩ := hR.2.2.2.2.2.2.2.2.2.2.1
  have U := Rel_up hR
  by_cases h0 : x1 = 0
  · exact ⟨Int32.toInt64 (nI n), sx, sm, by simp only [pX8_count, if_pos h0, hNx], by simp only [pX9_count, if_pos h0, hNm], U⟩
  by_cases h1 : x1 = 1
  · exact ⟨lN k, sx, sm, by simp only [pX8_count, if_neg h0, if_pos h1, k2], by simp (disch := omega) only [pX9_count, if_neg h0, if_pos h1, k3, nI_l], U⟩
  by_cases h2 : x1 = 2
  · exact ⟨Int32.toInt64 (nI w), sx, sm, by simp only [pX8_count, if_neg h0, if_neg h1, if_pos h2, w2], by simp only [pX9_count, if_neg h0, if_neg h1, if_pos h2, w3], U⟩
  by_cases h3 : x1 = 3
  · exact ⟨Int32.toInt64 (nI g), sx, sm, by simp only [pX8_count, if_neg h0, if_neg h1, if_neg h2, if_pos h3, g2, Option.bind_some, fqM_none, fqM_some, fqB2_some, fqN_eq, c10, c00, if_true, if_false], by simp only [pX9_count, if_neg h0, if_neg h1, if_neg h2, if_pos h3, g3, Option.bind_some, fqM_none, fqM_some, fqB2_some, fqN_eq, c10, c00, if_true, if_false], U⟩
  by_cases h4 : x1 = 4
  · exact ⟨lN e, sx, sm, by simp only [pX8_count, if_neg h0, if_neg h1, if_neg h2, if_neg h3, if_pos h4, e2], by simp (disch := omega) only [pX9_count, if_neg h0, if_neg h1, if_neg h2, if_neg h3, if_pos h4, e3, nI_l], U⟩
  by_cases h5 : x1 = 5
  · exact ⟨Int32.toInt64 (nI c), sx, sm, by simp only [pX8_count, if_neg h0, if_neg h1, if_neg h2, if_neg h3, if_neg h4, if_pos h5, d2], by simp only [pX9_count, if_neg h0, if_neg h1, if_neg h2, if_neg h3, if_neg h4, if_pos h5, d3], U⟩
  by_cases h6 : x1 = 6
  · exact ⟨Int32.toInt64 (nI T), sx, sm, by simp only [pX8_count, if_neg h0, if_neg h1, if_neg h2, if_neg h3, if_neg h4, if_neg h5, if_pos h6, t3], by simp only [pX9_count, if_neg h0, if_neg h1, if_neg h2, if_neg h3, if_neg h4, if_neg h5, if_pos h6, t4], U⟩
  refine both_bad (bnd_1 (K := K) hR) ?_ ?_
  · simp only [pX8_count, if_neg h0, if_neg h1, if_neg h2, if_neg h3, if_neg h4, if_neg h5, if_neg h6]
  · simp only [pX9_count, if_neg h0, if_neg h1, if_neg h2, if_neg h3, if_neg h4, if_neg h5, if_neg h6]
theorem st_size (K : Nat) (hK : 5 < K) : lwS_size Rel K := by
  intro t n sx sm x1 ht hR
  obtain ⟨g, g1, g2, _, g4⟩ := going_both hK hR
  obtain ⟨w, w1, w2, w3, _⟩ := hR.2.2.2.2.2.2.1
  obtain ⟨T, t1, t2, t3, t4⟩ := hR.2.2.2.1
  have b1 := inM32 K 0 sm x1 1 3 (A := 1) (C := 3) rfl rfl
  by_cases h1 : ¬ (1 ≤ x1 ∧ x1 ≤ 3)
  · rw [if_neg h1] at b1
    refine both_bad (bnd_1 (K := K) hR) ?_ ?_
    · by_cases h : x1 < 1
      · simp only [pX8_size, if_pos h]
      · simp only [pX8_size, if_neg h, if_neg (fun q => h1 ⟨Int32.not_lt.mp h, q⟩)]
    · simp only [pX9_size, b1, Option.bind_some, fqM_none, fqM_some, fqB2_some, fqN_eq, c10, c00, if_true, if_false]
  replace h1 := Classical.not_not.mp h1
  rw [if_pos h1] at b1
  have a1 : ¬ x1 < 1 := Int32.not_lt.mpr h1.1
  by_cases hg : g = 0
  · subst hg
    rw [if_pos rfl] at g4
    by_cases hw : w = 0
    · subst hw
      refine ⟨Int32.toInt64 (nI T), fqPI sx 0 10 x1, fqPI sm 0 6 x1, ?_, ?_, ?_⟩
      · simp (disch := omega) only [pX8_size, if_neg a1, if_pos h1.2, g2, Option.bind_some, fqM_none, fqM_some, fqB2_some, fqN_eq, c10, c00, if_true, if_false, nI_leI, nI_ltI, nI_eq, nI_clamp, nI_add, nI_n0, nI_e0, nI_p0, nI_l0, nI_g0, false_or, if_true, if_false, ite_t, ite_f, w2, t3]
      · simp (disch := omega) only [pX9_size, b1, g4, Option.bind_some, fqM_none, fqM_some, fqB2_some, fqN_eq, c10, c00, if_true, if_false, nI_leI, nI_ltI, nI_eq, nI_clamp, nI_add, nI_n0, nI_e0, nI_p0, nI_l0, nI_g0, false_or, if_true, if_false, ite_t, ite_f, w3, t4]
      · obtain ⟨j, hj, rfl⟩ := rng_nI (b := 3) (x := x1) (by omega) ⟨Int32.le_trans (by decide) h1.1, h1.2⟩
        have hj1 : 1 ≤ j := (nI_leI (a := 1) (by omega) (by omega)).mp h1.1
        refine Rel_s (Rel_up hR) (eqW_PI ⟨rfl, rfl⟩) (eqW_PI ⟨rfl, rfl⟩) ⟨j, hj1, hj, ?_⟩
        simp (disch := omega) only [fqI_s, fqJ_s, fqI_n, fqJ_n, fqI_PJ, fqJ_PI, and_self]
    · refine both_bad (bnd_3 (K := K) hR) ?_ ?_
      · simp (disch := omega) only [pX8_size, if_neg a1, if_pos h1.2, g2, Option.bind_some, fqM_none, fqM_some, fqB2_some, fqN_eq, c10, c00, if_true, if_false, nI_leI, nI_ltI, nI_eq, nI_clamp, nI_add, nI_n0, nI_e0, nI_p0, nI_l0, nI_g0, false_or, if_true, if_false, ite_t, ite_f, w2]
      · simp (disch := omega) only [pX9_size, b1, g4, Option.bind_some, fqM_none, fqM_some, fqB2_some, fqN_eq, c10, c00, if_true, if_false, nI_leI, nI_ltI, nI_eq, nI_clamp, nI_add, nI_n0, nI_e0, nI_p0, nI_l0, nI_g0, false_or, if_true, if_false, ite_t, ite_f, w3]
  · rw [if_neg hg] at g4
    refine both_bad (bnd_3 (K := K) hR) ?_ ?_
    · simp (disch := omega) only [pX8_size, if_neg a1, if_pos h1.2, g2, Option.bind_some, fqM_none, fqM_some, fqB2_some, fqN_eq, c10, c00, if_true, if_false, nI_leI, nI_ltI, nI_eq, nI_clamp, nI_add, nI_n0, nI_e0, nI_p0, nI_l0, nI_g0, false_or, if_true, if_false, ite_t, ite_f]
    · simp (disch := omega) only [pX9_size, b1, g4, Option.bind_some, fqM_none, fqM_some, fqB2_some, fqN_eq, c10, c00, if_true, if_false]
/-- an inner loop that ends by going on with the outer one -/
theorem fqL_nest {S T α : Type} {body : (T → Option α) → (S → Option α) → S → Option α} (P : T → Prop) (Inv : Nat → S → Prop) (N : Nat) {k : Nat} {s : S} (hk : N < k) (h0 : Inv 0 s) (hs : ∀ i s, i < N → Inv i s → ∃ s', Inv (i + 1) s' ∧ ∀ r rec, body r rec s = rec s') (hx : ∀ s, Inv N s → ∃ t, P t ∧ ∀ r rec, body r rec s = r t) : ∃ t, P t ∧ ∀ r, fqL (body r) k s = r t := by
  have main : ∀ (k i : Nat) (s : S), i ≤ N → N - i < k → Inv i s → ∃ t, P t ∧ ∀ r, fqL (body r) k s = r t := by
    intro k
    induction k with
    | zero => intro i s h1 h2; exact absurd h2 (by omega)
    | succ k ih =>
      intro i s h1 h2 hI
      rcases Nat.lt_or_ge i N with h | h
      · obtain ⟨s', hI', hb⟩ := hs i s h hI
        obtain ⟨t, hp, e⟩ := ih (i + 1) s' h (by omega) hI'
        exact ⟨t, hp, fun r => by show body r (fqL (body r) k) s = r t; rw [hb]; exact e r⟩
      · rw [show i = N by omega] at hI
        obtain ⟨t, hp, hb⟩ := hx s hI
        exact ⟨t, hp, fun r => hb r _⟩
  exact main k 0 s (by omega) (by omega) h0
