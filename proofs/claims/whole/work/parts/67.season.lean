/-! player, sinking, season -/
theorem neg_w {l : Nat} (h : l < 2 ^ 31) : Int32.toInt64 (-(nI l)) = -(lN l) := by
  apply Int64.toInt_inj.mp
  rw [Int32.toInt_toInt64, sb_negT h]
  have e : (-(lN l)).toInt = -((lN l).toInt) := by
    rw [Int64.toInt_neg, lN_toInt h]
    apply Int.bmod_eq_of_le <;> omega
  rw [e, lN_toInt h]
def accS (c : Nat → Bool) : Nat → Int32
  | 0 => 0
  | j + 1 => if c j then accS c j ||| ((1 : Int32) <<< (nI j &&& 31)) else accS c j
theorem accS_congr {c d : Nat → Bool} : ∀ {n : Nat}, (∀ i, i < n → c i = d i) → accS c n = accS d n
  | 0, _ => rfl
  | n + 1, h => by rw [accS, accS, accS_congr (fun i hi => h i (by omega)), h n (by omega)]
theorem accS_stop {c : Nat → Bool} {n : Nat} (h : ∀ i, n ≤ i → c i = false) : ∀ m, accS c (n + m) = accS c n
  | 0 => rfl
  | m + 1 => by
    show accS c (n + m + 1) = _
    rw [accS, h (n + m) (by omega), accS_stop h m]
    rfl
theorem or_z (x : Int32) : x ||| 0 = x := Int32.or_zero
theorem st_sinking (K : Nat) (hK : 16 < K) : lwS_sinking Rel K := by
  intro t n sx sm ht hR
  obtain ⟨hn, hNx, hNm⟩ := hR.1
  obtain ⟨l, l1, l2, l3⟩ := hR.2.2.2.2.2.2.2.2.2.1
  obtain ⟨c, hc⟩ : ∃ c : Nat → Bool, ∀ p, c p = decide (p < n ∧ ¬ fqI sx (26 + 4 * p) 4 < 5 ∧ ¬ (-(lN l)) ≤ sumJ (fun i => fqJ sx (26 + 4 * p + 3) i) (fqI sx (26 + 4 * p) 4).toNatClampNeg) := ⟨_, fun _ => rfl⟩
  refine ⟨Int32.toInt64 (accS c n), ?_, ?_, Rel_up hR⟩
  · have e16 : accS c n = accS c 16 := by
      rw [show 16 = n + (16 - n) by omega, accS_stop (fun i hi => by rw [hc i]; simp; intro h; omega)]
    rw [e16]
    unfold pX8_sinking pX8_sinking_L4
    refine fqL_go (fun j => (accS c j, nI j)) 16 rfl (by omega) ?_ ?_
    · intro rec
      simp (disch := omega) only [pX8_sinking_L4b, z16, nI_leI, ite_t]
    · intro j hj rec
      have ha := atX_i (k := K) hNx hn hj
      by_cases hjn : j < n
      · obtain ⟨_, _, ⟨kp, u1, u2, u3, u4⟩⟩ := hR.2.1 j hjn
        have hrow : fqRow n j = some j := by unfold fqRow; rw [if_pos hjn]
        by_cases h5 : kp < 5
        · have hcj : c j = false := by
            rw [hc j, u2]
            simp (disch := omega) only [z5, nI_ltI]
            simp [h5]
          simp (disch := omega) only [pX8_sinking_L4b, ha, hrow, Option.bind_some, fqM_none, fqM_some, fqB2_some, fqN_eq, c10, c00, if_true, if_false, z1, z2, z3, z4, z5, z6, z7, z8, z10, z16, z20, z112, z175, z1023, nI_leI, nI_ltI, nI_eq, nI_clamp, nI_add, nI_n0, nI_e0, nI_p0, nI_l0, nI_g0, false_or, if_true, if_false, ite_t, ite_f, u2, accS, hcj]
          simp
        · by_cases hs : -(lN l) ≤ sumJ (fun i => fqJ sx (26 + 4 * j + 3) i) kp
          · have hcj : c j = false := by
              rw [hc j, u2, nI_clamp (by omega)]
              simp [hs]
            simp (disch := omega) only [pX8_sinking_L4b, ha, hrow, Option.bind_some, fqM_none, fqM_some, fqB2_some, fqN_eq, c10, c00, if_true, if_false, z1, z2, z3, z4, z5, z6, z7, z8, z10, z16, z20, z112, z175, z1023, nI_leI, nI_ltI, nI_eq, nI_clamp, nI_add, nI_n0, nI_e0, nI_p0, nI_l0, nI_g0, false_or, if_true, if_false, ite_t, ite_f, u2, accS, hcj, l2, sumSur_X K n sx j kp (by omega) u1 u2, if_pos hs]
            simp
          · have hcj : c j = true := by
              rw [hc j, u2, nI_clamp (by omega)]
              have q : ¬ nI kp < 5 := by rw [z5, nI_ltI (by omega) (by omega)]; exact h5
              simp [hjn, q, hs]
            simp (disch := omega) only [pX8_sinking_L4b, pX8_bitOf, ha, hrow, Option.bind_some, fqM_none, fqM_some, fqB2_some, fqN_eq, c10, c00, if_true, if_false, z5, z16, nI_leI, nI_ltI, nI_eq, nI_clamp, nI_add, nI_n0, nI_e0, nI_p0, nI_l0, nI_g0, false_or, if_true, if_false, ite_t, ite_f, u2, accS, hcj, l2, sumSur_X K n sx j kp (by omega) u1 u2, if_neg hs]
            simp (disch := omega) only [z1, nI_add]
      · have hrow : fqRow n j = none := by unfold fqRow; rw [if_neg hjn]
        have hcj : c j = false := by rw [hc j]; simp [hjn]
        simp (disch := omega) only [pX8_sinking_L4b, ha, hrow, Option.bind_some, fqM_none, fqM_some, fqB2_some, fqN_eq, c10, c00, if_true, if_false, z1, z2, z3, z4, z5, z6, z7, z8, z10, z16, z20, z112, z175, z1023, nI_leI, nI_ltI, nI_eq, nI_clamp, nI_add, nI_n0, nI_e0, nI_p0, nI_l0, nI_g0, false_or, if_true, if_false, ite_t, ite_f, accS, hcj]
        simp
  · unfold pX9_sinking pX9_sinking_L4
    refine fqL_go (fun j => (accS c j, nI j)) n rfl (by omega) ?_ ?_
    · intro rec
      simp (disch := omega) only [pX9_sinking_L4b, hNm, nI_leI, ite_t]
    · intro j hjn rec
      obtain ⟨_, _, ⟨kp, u1, u2, u3, u4⟩⟩ := hR.2.1 j hjn
      have es : sumJ (fun i => fqJ sm 4 (8 * j + i)) kp = sumJ (fun i => fqJ sx (26 + 4 * j + 3) i) kp := sumJ_congr (fun i hi => (u4 i hi).symm)
      by_cases h5 : kp < 5
      · have hcj : c j = false := by
          rw [hc j, u2]
          simp (disch := omega) only [z5, nI_ltI]
          simp [h5]
        simp (disch := omega) only [pX9_sinking_L4b, hNm, z1, z2, z3, z4, z5, z6, z7, z8, z10, z16, z20, z112, z175, z1023, nI_leI, nI_ltI, nI_eq, nI_clamp, nI_add, nI_n0, nI_e0, nI_p0, nI_l0, nI_g0, false_or, if_true, if_false, ite_t, ite_f, u3, accS, hcj, or_z]
        simp
      · by_cases hs : -(lN l) ≤ sumJ (fun i => fqJ sx (26 + 4 * j + 3) i) kp
        · have hcj : c j = false := by
            rw [hc j, u2, nI_clamp (by omega)]
            simp [hs]
          simp (disch := omega) only [pX9_sinking_L4b, hNm, Option.bind_some, fqM_none, fqM_some, fqB2_some, fqN_eq, c10, c00, if_true, if_false, z1, z2, z3, z4, z5, z6, z7, z8, z10, z16, z20, z112, z175, z1023, nI_leI, nI_ltI, nI_eq, nI_clamp, nI_add, nI_n0, nI_e0, nI_p0, nI_l0, nI_g0, false_or, if_true, if_false, ite_t, ite_f, u3, accS, hcj, or_z, l3, neg_w, sumSur_M K sm j kp (by omega) u1 (by omega) u3, es, if_pos hs]
          simp
        · have hcj : c j = true := by
            rw [hc j, u2, nI_clamp (by omega)]
            have q : ¬ nI kp < 5 := by rw [z5, nI_ltI (by omega) (by omega)]; exact h5
            simp [hjn, q, hs]
          simp (disch := omega) only [pX9_sinking_L4b, hNm, Option.bind_some, fqM_none, fqM_some, fqB2_some, fqN_eq, c10, c00, if_true, if_false, z5, nI_leI, nI_ltI, nI_eq, nI_clamp, nI_add, nI_n0, nI_e0, nI_p0, nI_l0, nI_g0, false_or, if_true, if_false, ite_t, ite_f, u3, accS, hcj, l3, neg_w, sumSur_M K sm j kp (by omega) u1 (by omega) u3, es, if_neg hs]
          simp (disch := omega) only [z1, nI_add]
theorem even_J (l : Nat) (hl : l < 7) : fqEven l = if l = 3 then 142858 else 142857 := by
  match l, hl with
  | 0, _ => rfl
  | 1, _ => rfl
  | 2, _ => rfl
  | 3, _ => rfl
  | 4, _ => rfl
  | 5, _ => rfl
  | 6, _ => rfl
def midN (l : Nat) : Nat := if l = 3 then 142858 else 142857
theorem midM_eq (k : Nat) (σ : fqS) (l : Nat) (hl : l < 7) : pX9_middle k 0 σ (nI l) = some (lN (midN l)) := by
  unfold pX9_middle midN
  by_cases h : l = 3
  · subst h; rfl
  · simp (disch := omega) only [z3, nI_leI, nI_ltI, nI_eq, nI_clamp, nI_add, nI_n0, nI_e0, nI_p0, nI_l0, nI_g0, false_or, if_true, if_false, ite_t, ite_f]
    rfl
theorem midX_eq (k n : Nat) (σ : fqS) (l : Nat) (hl : l < 7) : pX8_evenShare k n σ (nI l) = some (lN (midN l)) := by
  unfold pX8_evenShare midN
  by_cases h : l = 3
  · subst h; rfl
  · simp (disch := omega) only [z3, nI_leI, nI_ltI, nI_eq, nI_clamp, nI_add, nI_n0, nI_e0, nI_p0, nI_l0, nI_g0, false_or, if_true, if_false, ite_t, ite_f]
    rfl
theorem even_mid (l : Nat) (hl : l < 7) : fqEven l = lN (midN l) := by
  rw [even_J l hl]
  unfold midN
  split <;> rfl
/-- the reference's new player -/
theorem playerM_eq (k : Nat) (σ : fqS) (x1 : Int32) (n : Nat) (hn : n < 16) (hN : fqI σ 0 1 = nI n) (hk : 7 < k) : ∃ τ, pX9_player_L49 k 0 x1 (0, σ) = some (lN n, τ) ∧ eqW (fun c k => (c = 3 ∧ 7 * n ≤ k ∧ k < 7 * n + 7) ∨ (c = 0 ∧ k = 1)) σ τ ∧ fqI τ 0 1 = nI (n + 1) ∧ ∀ l, l < 7 → fqJ τ 3 (7 * n + l) = lN (midN l) := by
  unfold pX9_player_L49
  refine fqL_ex (fun τ => (lN n, τ)) _ (fun j s => s.1 = nI j ∧ eqW (fun c k => c = 3 ∧ 7 * n ≤ k ∧ k < 7 * n + 7) σ s.2 ∧ ∀ l, l < j → fqJ s.2 3 (7 * n + l) = lN (midN l)) 7 hk ⟨rfl, eqW.rf _, fun l hl => absurd hl (by omega)⟩ ?_ ?_
  · rintro j ⟨x2, τ⟩ hj ⟨rfl, hw, hv⟩
    have hN2 : fqI τ 0 1 = nI n := by rw [hw.I (by omega)]; exact hN
    refine ⟨(nI (j + 1), fqPJ τ 3 (7 * n + j) (lN (midN j))), ⟨rfl, hw.tr (eqW_PJ ⟨rfl, by omega, by omega⟩), fun l hl => ?_⟩, fun rec => ?_⟩
    · by_cases e : l = j
      · subst e; exact fqJ_s _ _ _ _
      · rw [fqJ_n _ _ _ _ _ _ (by omega)]; exact hv l (by omega)
    · simp (disch := omega) only [pX9_player_L49b, midM_eq k τ j hj, Option.bind_some, fqM_none, fqM_some, fqB2_some, fqN_eq, c10, c00, if_true, if_false, z1, z2, z3, z4, z5, z6, z7, z8, z10, z16, z20, z112, z175, z1023, nI_leI, nI_ltI, nI_eq, nI_clamp, nI_add, nI_n0, nI_e0, nI_p0, nI_l0, nI_g0, false_or, if_true, if_false, ite_t, ite_f, pk_mul, hN2]
  · rintro ⟨x2, τ⟩ ⟨rfl, hw, hv⟩
    have hN2 : fqI τ 0 1 = nI n := by rw [hw.I (by omega)]; exact hN
    refine ⟨fqPI τ 0 1 (nI (n + 1)), ⟨(hw.mono (fun c k h => Or.inl h)).tr (eqW_PI (Or.inr ⟨rfl, rfl⟩)), fqI_s _ _ _ _, fun l hl => hv l hl⟩, fun rec => ?_⟩
    simp (disch := omega) only [pX9_player_L49b, z1, z2, z3, z4, z5, z6, z7, z8, z10, z16, z20, z112, z175, z1023, nI_leI, nI_ltI, nI_eq, nI_clamp, nI_add, nI_n0, nI_e0, nI_p0, nI_l0, nI_g0, false_or, if_true, if_false, ite_t, ite_f, Option.bind_some, fqM_none, fqM_some, fqB2_some, fqN_eq, c10, c00, if_true, if_false, hN2, fqI_s]
    rw [pk_sub (by omega), nI_l (by omega)]
    rfl
theorem st_player (K : Nat) (hK : 7 < K) : lwS_player Rel K := by
  intro t n sx sm x1 ht hR
  obtain ⟨hn, hNx, hNm⟩ := hR.1
  have b1 := inM32 K 0 sm x1 0 2 (A := 0) (C := 2) rfl rfl
  have a1 := isKind_eq K n sx x1
  have fin : ∀ (x : Int64) (y : Int32), (∃ sx' sm', pX8_finding K n sx y = some (x, sx') ∧ pX9_finding K 0 sm x = some (x, sm') ∧ Rel (t + 1) n sx' sm') → pX8_player K n sx x1 = fqB2 (pX8_finding K n sx y) (fun r s => some (r, n, s)) → pX9_player K 0 sm x1 = fqB2 (pX9_finding K 0 sm x) (fun r s => some (r, s)) → ∃ (r : Int64) (n' : Nat) (sx' sm' : fqS), pX8_player K n sx x1 = some (r, n', sx') ∧ pX9_player K 0 sm x1 = some (r, sm') ∧ Rel (t + 1) n' sx' sm' := by
    intro x y h P1 P2
    obtain ⟨sx', sm', e1, e2, h⟩ := h
    exact ⟨x, n, sx', sm', by rw [P1, e1, fqB2_some], by rw [P2, e2, fqB2_some], h⟩
  by_cases h1 : ¬ (0 ≤ x1 ∧ x1 ≤ 2)
  · rw [if_neg h1] at a1 b1
    refine fin _ _ (bnd_1 (K := K) hR) ?_ ?_
    · simp only [pX8_player, a1, Option.bind_some, fqM_none, fqM_some, fqB2_some, fqN_eq, c10, c00, if_true, if_false]
    · simp only [pX9_player, b1, Option.bind_some, fqM_none, fqM_some, fqB2_some, fqN_eq, c10, c00, if_true, if_false]
  replace h1 := Classical.not_not.mp h1
  rw [if_pos h1] at a1 b1
  by_cases h16 : ¬ n < 16
  · have e16 : n = 16 := by omega
    refine fin _ _ (bnd_4 (K := K) hR) ?_ ?_
    · simp only [pX8_player, a1, Option.bind_some, fqM_none, fqM_some, fqB2_some, fqN_eq, c10, c00, if_true, if_false, if_neg h16]
    · subst e16
      simp (disch := omega) only [pX9_player, b1, Option.bind_some, fqM_none, fqM_some, fqB2_some, fqN_eq, c10, c00, if_true, if_false, z1, z2, z3, z4, z5, z6, z7, z8, z10, z16, z20, z112, z175, z1023, nI_leI, nI_ltI, nI_eq, nI_clamp, nI_add, nI_n0, nI_e0, nI_p0, nI_l0, nI_g0, false_or, if_true, if_false, ite_t, ite_f, hNm]
  replace h16 := Classical.not_not.mp h16
  obtain ⟨kd, hkd, rfl⟩ := rng_nI (b := 2) (by omega) h1
  obtain ⟨τ, e1, e2, e3, e4⟩ := playerM_eq K (fqPI sm 2 n (nI kd)) (nI kd) n h16 (by simp (disch := omega) only [fqI_s, fqJ_s, fqI_n, fqJ_n, fqI_PJ, fqJ_PI]; exact hNm) hK
  refine ⟨lN n, n + 1, fqPI (fqNew sx n (nI kd) fqEven) 1 2 (nI (n + 1)), τ, ?_, ?_, ?_⟩
  · simp only [pX8_player, a1, Option.bind_some, fqM_none, fqM_some, fqB2_some, fqN_eq, c10, c00, if_true, if_false, if_pos h16]
    rw [nI_l (by omega)]
  · simp (disch := omega) only [pX9_player, b1, Option.bind_some, fqM_none, fqM_some, fqB2_some, fqN_eq, c10, c00, if_true, if_false, z16, nI_leI, nI_ltI, nI_eq, nI_clamp, nI_add, nI_n0, nI_e0, nI_p0, nI_l0, nI_g0, false_or, if_true, if_false, ite_t, ite_f, hNm]
    exact e1
  · have hx : eqW (fun c k => (26 + 4 * n ≤ c ∧ c ≤ 26 + 4 * n + 3) ∨ (c = 1 ∧ k = 2)) sx (fqPI (fqNew sx n (nI kd) fqEven) 1 2 (nI (n + 1))) := by
      intro c k hc
      constructor
      · rw [fqI_n _ _ _ _ _ _ (by omega)]
        show (if c = 26 + 4 * n then (fun k => if k = 0 then nI kd else 0) else sx.1 c) k = sx.1 c k
        rw [if_neg (by omega)]
      · rw [fqJ_PI]
        show (if c = 26 + 4 * n + 1 then fqEven else if c = 26 + 4 * n + 2 then (fun _ => 0) else if c = 26 + 4 * n + 3 then (fun _ => 0) else sx.2 c) k = sx.2 c k
        rw [if_neg (by omega), if_neg (by omega), if_neg (by omega)]
    have hm : eqW (fun c k => (c = 3 ∧ 7 * n ≤ k ∧ k < 7 * n + 7) ∨ (c = 0 ∧ k = 1) ∨ (c = 2 ∧ k = n)) sm τ := (eqW_PI (Or.inr (Or.inr ⟨rfl, rfl⟩))).tr (e2.mono (fun c k h => by omega))
    have f1 : fqI (fqPI (fqNew sx n (nI kd) fqEven) 1 2 (nI (n + 1))) (26 + 4 * n) 0 = nI kd := by
      rw [fqI_n _ _ _ _ _ _ (by omega)]
      show (if 26 + 4 * n = 26 + 4 * n then (fun k => if k = 0 then nI kd else 0) else sx.1 _) 0 = _
      rw [if_pos rfl]
      rfl
    have f2 : fqI (fqPI (fqNew sx n (nI kd) fqEven) 1 2 (nI (n + 1))) (26 + 4 * n) 4 = nI 0 := by
      rw [fqI_n _ _ _ _ _ _ (by omega)]
      show (if 26 + 4 * n = 26 + 4 * n then (fun k => if k = 0 then nI kd else 0) else sx.1 _) 4 = _
      rw [if_pos rfl]
      rfl
    have f3 : ∀ l, l < 7 → fqJ (fqPI (fqNew sx n (nI kd) fqEven) 1 2 (nI (n + 1))) (26 + 4 * n + 1) l = lN (midN l) := by
      intro l hl
      rw [fqJ_PI, ← even_mid l hl]
      show (if 26 + 4 * n + 1 = 26 + 4 * n + 1 then fqEven else _) l = _
      rw [if_pos rfl]
    have f0 : fqI (fqPI (fqNew sx n (nI kd) fqEven) 1 2 (nI (n + 1))) 1 2 = nI (n + 1) := fqI_s _ _ _ _
    have e5 : fqI τ 2 n = nI kd := by rw [e2.I (by omega), fqI_s]
    generalize fqPI (fqNew sx n (nI kd) fqEven) 1 2 (nI (n + 1)) = sx' at hx f0 f1 f2 f3 ⊢
    obtain ⟨_, hp, hz, hs, hb, htt, hq, hmm, he, hl, hc, hf⟩ := Rel_up hR
    have h2n : 2 ^ n ≤ 2 ^ (n + 1) := Nat.pow_le_pow_right (by omega) (by omega)
    refine ⟨⟨by omega, f0, e3⟩, ?_, ?_, Rs_fr hs hx hm (by omega) (by omega), Rb_fr hb hx hm (fun k => by omega) (by omega), Rt_fr htt hx hm (by omega) (by omega), ?_, ?_, Re_fr he hx hm (by omega) (by omega), Rl_fr hl hx hm (by omega) (by omega), Rc_fr hc hx hm ⟨by omega, fun k => by omega⟩ ⟨by omega, fun k => by omega⟩, Rf_fr hf hx hm (fun k => by omega) (fun k => by omega)⟩
    · intro p hp1
      by_cases e : p = n
      · subst e
        refine ⟨⟨kd, by omega, f1, e5⟩, ⟨midN, rfl, fun l hl => ⟨f3 l hl, e4 l hl⟩⟩, ⟨0, by omega, f2, ?_, fun i hi => absurd hi (by omega)⟩⟩
        rw [hm.I (by omega)]
        exact hz p (by omega) h16
      · obtain ⟨⟨k, k1, k2, k3⟩, ⟨sh, s1, s2⟩, ⟨kp, u1, u2, u3, u4⟩⟩ := hp p (by omega)
        refine ⟨⟨k, k1, ?_, ?_⟩, ⟨sh, s1, fun l hl => ⟨?_, ?_⟩⟩, ⟨kp, u1, ?_, ?_, fun i hi => ?_⟩⟩
        · rw [hx.I (by omega)]; exact k2
        · rw [hm.I (by omega)]; exact k3
        · rw [hx.J (by omega)]; exact (s2 l hl).1
        · rw [hm.J (by omega)]; exact (s2 l hl).2
        · rw [hx.I (by omega)]; exact u2
        · rw [hm.I (by omega)]; exact u3
        · rw [hx.J (by omega), hm.J (by omega)]; exact u4 i hi
    · intro p h1 h2
      rw [hm.I (by omega)]
      exact hz p (by omega) h2
    · obtain ⟨w, w1, w2, w3, qb, qs, w4, w5⟩ := Rq_fr hq hx hm ⟨by omega, fun k => by omega⟩ ⟨by omega, fun k => by omega⟩
      refine ⟨w, w1, w2, w3, qb, qs, fun k hk => ?_, w5⟩
      obtain ⟨g1, g2, g3⟩ := w4 k hk
      exact ⟨g1, by omega, g3⟩
    · intro m hm5
      rcases Rm_fr hmm hx hm (fun m k _ => by omega) (fun c k _ _ => by omega) m hm5 with g | ⟨f, s, d, k, g1, g2, g3, g4, g5⟩
      · exact Or.inl g
      · exact Or.inr ⟨f, s, d, k, g1, by omega, by omega, by omega, g5⟩
/-- season -/
def drD (s : Nat → Int64) (l : Nat) : Int64 := (s l + lN (midN l)) / 2
def lft (d : Nat → Int64) : Nat → Int64
  | 0 => 1000000
  | j + 1 => lft d j - d j
def drF (s : Nat → Int64) (l : Nat) : Int64 := if l = 3 then drD s 3 + lft (drD s) 7 else drD s l
theorem lft_congr {f g : Nat → Int64} : ∀ {n : Nat}, (∀ i, i < n → f i = g i) → lft f n = lft g n
  | 0, _ => rfl
  | n + 1, h => by rw [lft, lft, lft_congr (fun i hi => h i (by omega)), h n (by omega)]
theorem drF_congr {s s' : Nat → Int64} (h : ∀ l, l < 7 → s l = s' l) {l : Nat} (hl : l < 7) : drF s l = drF s' l := by
  have e : ∀ i, i < 7 → drD s i = drD s' i := fun i hi => by unfold drD; rw [h i hi]
  unfold drF
  rw [e 3 (by omega), e l hl, lft_congr (n := 7) (fun i hi => e i hi)]
theorem drawX_eq (k n : Nat) (σ : fqS) (p : Nat) (hk : 7 < k) : ∃ τ, pX5_drawToTheMiddle k n σ p = some τ ∧ eqW (fun c _ => c = 26 + 4 * p + 1) σ τ ∧ ∀ l, l < 7 → fqJ τ (26 + 4 * p + 1) l = drF (fun l => fqJ σ (26 + 4 * p + 1) l) l := by
  unfold pX5_drawToTheMiddle pX5_drawToTheMiddle_L6
  refine fqL_ex (fun τ => τ) _ (fun j s => s.1 = lft (drD (fun l => fqJ σ (26 + 4 * p + 1) l)) j ∧ s.2.1 = nI j ∧ eqW (fun c _ => c = 26 + 4 * p + 1) σ s.2.2 ∧ ∀ l, l < 7 → fqJ s.2.2 (26 + 4 * p + 1) l = if l < j then drD (fun l => fqJ σ (26 + 4 * p + 1) l) l else fqJ σ (26 + 4 * p + 1) l) 7 hk ⟨rfl, rfl, eqW.rf _, fun l hl => by rw [if_neg (by omega)]⟩ ?_ ?_
  · rintro j ⟨x1, x3, τ⟩ hj ⟨rfl, rfl, hw, hv⟩
    have hvj : fqJ τ (26 + 4 * p + 1) j = fqJ σ (26 + 4 * p + 1) j := by rw [hv j hj, if_neg (by omega)]
    refine ⟨(lft (drD (fun l => fqJ σ (26 + 4 * p + 1) l)) (j + 1), nI (j + 1), fqPJ τ (26 + 4 * p + 1) j (drD (fun l => fqJ σ (26 + 4 * p + 1) l) j)), ⟨rfl, rfl, hw.tr (eqW_PJ (S := fun c _ => c = 26 + 4 * p + 1) rfl), fun l hl => ?_⟩, fun rec => ?_⟩
    · by_cases e : l = j
      · subst e; rw [fqJ_s, if_pos (by omega)]
      · rw [fqJ_n _ _ _ _ _ _ (by omega), hv l hl]
        by_cases q : l < j
        · rw [if_pos q, if_pos (by omega)]
        · rw [if_neg q, if_neg (by omega)]
    · simp (disch := omega) only [pX5_drawToTheMiddle_L6b, midX_eq k n τ j hj, Option.bind_some, fqM_none, fqM_some, fqB2_some, fqN_eq, c10, c00, if_true, if_false, z1, z2, z3, z4, z5, z6, z7, z8, z10, z16, z20, z112, z175, z1023, nI_leI, nI_ltI, nI_eq, nI_clamp, nI_add, nI_n0, nI_e0, nI_p0, nI_l0, nI_g0, false_or, if_true, if_false, ite_t, ite_f, hvj, fqJ_s]
      rfl
  · rintro ⟨x1, x3, τ⟩ ⟨rfl, rfl, hw, hv⟩
    refine ⟨fqPJ τ (26 + 4 * p + 1) 3 (drF (fun l => fqJ σ (26 + 4 * p + 1) l) 3), ⟨hw.tr (eqW_PJ (S := fun c _ => c = 26 + 4 * p + 1) rfl), fun l hl => ?_⟩, fun rec => ?_⟩
    · by_cases e : l = 3
      · subst e; exact fqJ_s _ _ _ _
      · rw [fqJ_n _ _ _ _ _ _ (by omega), hv l hl, if_pos hl]
        unfold drF
        rw [if_neg e]
    · simp (disch := omega) only [pX5_drawToTheMiddle_L6b, z1, z2, z3, z4, z5, z6, z7, z8, z10, z16, z20, z112, z175, z1023, nI_leI, nI_ltI, nI_eq, nI_clamp, nI_add, nI_n0, nI_e0, nI_p0, nI_l0, nI_g0, false_or, if_true, if_false, ite_t, ite_f, Option.bind_some, fqM_none, fqM_some, fqB2_some, fqN_eq, c10, c00, if_true, if_false, hv 3 (by omega)]
      rfl
theorem drawAllX_eq (k n : Nat) (σ : fqS) (hn : n ≤ 16) (hN : fqI σ 1 2 = nI n) (hk : 16 < k) : ∃ τ, pX6_drawToTheMiddle k n σ = some τ ∧ eqW (fun c _ => 26 ≤ c ∧ (c - 26) % 4 = 1) σ τ ∧ ∀ p, p < n → ∀ l, l < 7 → fqJ τ (26 + 4 * p + 1) l = drF (fun l => fqJ σ (26 + 4 * p + 1) l) l := by
  unfold pX6_drawToTheMiddle pX6_drawToTheMiddle_L2
  refine fqL_ex (fun τ => τ) _ (fun j s => s.1 = nI j ∧ eqW (fun c _ => 26 ≤ c ∧ (c - 26) % 4 = 1) σ s.2 ∧ ∀ p, p < n → ∀ l, l < 7 → fqJ s.2 (26 + 4 * p + 1) l = if p < j then drF (fun l => fqJ σ (26 + 4 * p + 1) l) l else fqJ σ (26 + 4 * p + 1) l) 16 hk ⟨rfl, eqW.rf _, fun p _ l hl => by rw [if_neg (by omega)]⟩ ?_ ?_
  · rintro j ⟨x1, τ⟩ hj ⟨rfl, hw, hv⟩
    have hN2 : fqI τ 1 2 = nI n := by rw [hw.I (by omega)]; exact hN
    have ha := atX_i (k := k) hN2 hn hj
    by_cases hjn : j < n
    · have hrow : fqRow n j = some j := by unfold fqRow; rw [if_pos hjn]
      obtain ⟨τ', d1, d2, d3⟩ := drawX_eq k n τ j (by omega)
      refine ⟨(nI (j + 1), τ'), ⟨rfl, hw.tr (d2.mono (fun c k h => by omega)), fun p hp l hl => ?_⟩, fun rec => ?_⟩
      · by_cases e : p = j
        · subst e
          rw [d3 l hl, if_pos (by omega)]
          exact drF_congr (fun i hi => by rw [hv p hp i hi, if_neg (by omega)]) hl
        · rw [d2.J (by omega), hv p hp l hl]
          by_cases q : p < j
          · rw [if_pos q, if_pos (by omega)]
          · rw [if_neg q, if_neg (by omega)]
      · simp (disch := omega) only [pX6_drawToTheMiddle_L2b, ha, hrow, Option.bind_some, fqM_none, fqM_some, fqB2_some, fqN_eq, c10, c00, if_true, if_false, z1, z2, z3, z4, z5, z6, z7, z8, z10, z16, z20, z112, z175, z1023, nI_leI, nI_ltI, nI_eq, nI_clamp, nI_add, nI_n0, nI_e0, nI_p0, nI_l0, nI_g0, false_or, if_true, if_false, ite_t, ite_f, d1]
    · have hrow : fqRow n j = none := by unfold fqRow; rw [if_neg hjn]
      refine ⟨(nI (j + 1), τ), ⟨rfl, hw, fun p hp l hl => ?_⟩, fun rec => ?_⟩
      · rw [hv p hp l hl, if_pos (by omega), if_pos (by omega)]
      · simp (disch := omega) only [pX6_drawToTheMiddle_L2b, ha, hrow, Option.bind_some, fqM_none, fqM_some, fqB2_some, fqN_eq, c10, c00, if_true, if_false, z1, z2, z3, z4, z5, z6, z7, z8, z10, z16, z20, z112, z175, z1023, nI_leI, nI_ltI, nI_eq, nI_clamp, nI_add, nI_n0, nI_e0, nI_p0, nI_l0, nI_g0, false_or, if_true, if_false, ite_t, ite_f]
  · rintro ⟨x1, τ⟩ ⟨rfl, hw, hv⟩
    refine ⟨τ, ⟨hw, fun p hp l hl => ?_⟩, fun rec => ?_⟩
    · rw [hv p hp l hl, if_pos (by omega)]
    · simp (disch := omega) only [pX6_drawToTheMiddle_L2b, z1, z2, z3, z4, z5, z6, z7, z8, z10, z16, z20, z112, z175, z1023, nI_leI, nI_ltI, nI_eq, nI_clamp, nI_add, nI_n0, nI_e0, nI_p0, nI_l0, nI_g0, false_or, if_true, if_false, ite_t, ite_f]
