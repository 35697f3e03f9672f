/-! player, sinking, season -/
theorem neg_w {l : Nat} (h : l < 2 ^ 31) : Int32.toInt64 (-(nI l)) = -(lN l) := by
  apply Int64.toInt_inj.mp
  rw [Int32.toInt_toInt64, sb_negT h]
  have e : (-(lN l)).toInt = -((lN l).toInt) := by
    rw [Int64.toInt_neg, lN_toInt h]
    apply Int.bmod_eq_of_le <;> omega
  rw [e, lN_toInt h]
def accS (c : Nat → Bool) : Nat → Int32
  | 0 => 0
  | j + 1 => if c j then accS c j ||| ((1 : Int32) <<< (nI j &&& 31)) else accS c j
theorem accS_congr {c d : Nat → Bool} : ∀ {n : Nat}, (∀ i, i < n → c i = d i) → accS c n = accS d n
  | 0, _ => rfl
  | n + 1, h => by rw [accS, accS, accS_congr (fun i hi => h i (by omega)), h n (by omega)]
theorem accS_stop {c : Nat → Bool} {n : Nat} (h : ∀ i, n ≤ i → c i = false) : ∀ m, accS c (n + m) = accS c n
  | 0 => rfl
  | m + 1 => by
    show accS c (n + m + 1) = _
    rw [accS, h (n + m) (by omega), accS_stop h m]
    rfl
theorem or_z (x : Int32) : x ||| 0 = x := Int32.or_zero
theorem st_sinking (K : Nat) (hK : 16 < K) : lwS_sinking Rel K := by
  intro t n sx sm ht hR
  obtain ⟨hn, hNx, hNm⟩ := hR.1
  obtain ⟨l, l1, l2, l3⟩ := hR.2.2.2.2.2.2.2.2.2.1
  obtain ⟨c, hc⟩ : ∃ c : Nat → Bool, ∀ p, c p = decide (p < n ∧ ¬ fqI sx (26 + 4 * p) 4 < 5 ∧ ¬ (-(lN l)) ≤ sumJ (fun i => fqJ sx (26 + 4 * p + 3) i) (fqI sx (26 + 4 * p) 4).toNatClampNeg) := ⟨_, fun _ => rfl⟩
  refine ⟨Int32.toInt64 (accS c n), ?_, ?_, Rel_up hR⟩
  · have e16 : accS c n = accS c 16 := by
      rw [show 16 = n + (16 - n) by omega, accS_stop (fun i hi => by rw [hc i]; simp; intro h; omega)]
    rw [e16]
    unfold pX8_sinking pX8_sinking_L4
    refine fqL_go (fun j => (accS c j, nI j)) 16 rfl (by omega) ?_ ?_
    · intro rec
      simp (disch := omega) only [pX8_sinking_L4b, z16, nI_leI, ite_t]
    · intro j hj rec
      have ha := atX_i (k := K) hNx hn hj
      by_cases hjn : j < n
      · obtain ⟨_, _, ⟨kp, u1, u2, u3, u4⟩⟩ := hR.2.1 j hjn
        have hrow : fqRow n j = some j := by unfold fqRow; rw [if_pos hjn]
        by_cases h5 : kp < 5
        · have hcj : c j = false := by
            rw [hc j, u2]
            simp (disch := omega) only [z5, nI_ltI]
            simp [h5]
          simp (disch := omega) only [pX8_sinking_L4b, ha, hrow, Option.bind_some, fqM_none, fqM_some, fqB2_some, fqN_eq, c10, c00, if_true, if_false, z1, z2, z3, z4, z5, z6, z7, z8, z10, z16, z20, z112, z175, z1023, nI_leI, nI_ltI, nI_eq, nI_clamp, nI_add, nI_n0, nI_e0, nI_p0, nI_l0, nI_g0, false_or, if_true, if_false, ite_t, ite_f, u2, accS, hcj]
          simp
        · by_cases hs : -(lN l) ≤ sumJ (fun i => fqJ sx (26 + 4 * j + 3) i) kp
          · have hcj : c j = false := by
              rw [hc j, u2, nI_clamp (by omega)]
              simp [hs]
            simp (disch := omega) only [pX8_sinking_L4b, ha, hrow, Option.bind_some, fqM_none, fqM_some, fqB2_some, fqN_eq, c10, c00, if_true, if_false, z1, z2, z3, z4, z5, z6, z7, z8, z10, z16, z20, z112, z175, z1023, nI_leI, nI_ltI, nI_eq, nI_clamp, nI_add, nI_n0, nI_e0, nI_p0, nI_l0, nI_g0, false_or, if_true, if_false, ite_t, ite_f, u2, accS, hcj, l2, sumSur_X K n sx j kp (by omega) u1 u2, if_pos hs]
            simp
          · have hcj : c j = true := by
              rw [hc j, u2, nI_clamp (by omega)]
              have q : ¬ nI kp < 5 := by rw [z5, nI_ltI (by omega) (by omega)]; exact h5
              simp [hjn, q, hs]
            simp (disch := omega) only [pX8_sinking_L4b, pX8_bitOf, ha, hrow, Option.bind_some, fqM_none, fqM_some, fqB2_some, fqN_eq, c10, c00, if_true, if_false, z5, z16, nI_leI, nI_ltI, nI_eq, nI_clamp, nI_add, nI_n0, nI_e0, nI_p0, nI_l0, nI_g0, false_or, if_true, if_false, ite_t, ite_f, u2, accS, hcj, l2, sumSur_X K n sx j kp (by omega) u1 u2, if_neg hs]
            simp (disch := omega) only [z1, nI_add]
      · have hrow : fqRow n j = none := by unfold fqRow; rw [if_neg hjn]
        have hcj : c j = false := by rw [hc j]; simp [hjn]
        simp (disch := omega) only [pX8_sinking_L4b, ha, hrow, Option.bind_some, fqM_none, fqM_some, fqB2_some, fqN_eq, c10, c00, if_true, if_false, z1, z2, z3, z4, z5, z6, z7, z8, z10, z16, z20, z112, z175, z1023, nI_leI, nI_ltI, nI_eq, nI_clamp, nI_add, nI_n0, nI_e0, nI_p0, nI_l0, nI_g0, false_or, if_true, if_false, ite_t, ite_f, accS, hcj]
        simp
  · unfold pX9_sinking pX9_sinking_L4
    refine fqL_go (fun j => (accS c j, nI j)) n rfl (by omega) ?_ ?_
    · intro rec
      simp (disch := omega) only [pX9_sinking_L4b, hNm, nI_leI, ite_t]
    · intro j hjn rec
      obtain ⟨_, _, ⟨kp, u1, u2, u3, u4⟩⟩ := hR.2.1 j hjn
      have es : sumJ (fun i => fqJ sm 4 (8 * j + i)) kp = sumJ (fun i => fqJ sx (26 + 4 * j + 3) i) kp := sumJ_congr (fun i hi => (u4 i hi).symm)
      by_cases h5 : kp < 5
      · have hcj : c j = false := by
          rw [hc j, u2]
          simp (disch := omega) only [z5, nI_ltI]
          simp [h5]
        simp (disch := omega) only [pX9_sinking_L4b, hNm, z1, z2, z3, z4, z5, z6, z7, z8, z10, z16, z20, z112, z175, z1023, nI_leI, nI_ltI, nI_eq, nI_clamp, nI_add, nI_n0, nI_e0, nI_p0, nI_l0, nI_g0, false_or, if_true, if_false, ite_t, ite_f, u3, accS, hcj, or_z]
        simp
      · by_cases hs : -(lN l) ≤ sumJ (fun i => fqJ sx (26 + 4 * j + 3) i) kp
        · have hcj : c j = false := by
            rw [hc j, u2, nI_clamp (by omega)]
            simp [hs]
          simp (disch := omega) only [pX9_sinking_L4b, hNm, Option.bind_some, fqM_none, fqM_some, fqB2_some, fqN_eq, c10, c00, if_true, if_false, z1, z2, z3, z4, z5, z6, z7, z8, z10, z16, z20, z112, z175, z1023, nI_leI, nI_ltI, nI_eq, nI_clamp, nI_add, nI_n0, nI_e0, nI_p0, nI_l0, nI_g0, false_or, if_true, if_false, ite_t, ite_f, u3, accS, hcj, or_z, l3, neg_w, sumSur_M K sm j kp (by omega) u1 (by omega) u3, es, if_pos hs]
          simp
        · have hcj : c j = true := by
            rw [hc j, u2, nI_clamp (by omega)]
            have q : ¬ nI kp < 5 := by rw [z5, nI_ltI (by omega) (by omega)]; exact h5
            simp [hjn, q, hs]
          simp (disch := omega) only [pX9_sinking_L4b, hNm, Option.bind_some, fqM_none, fqM_some, fqB2_some, fqN_eq, c10, c00, if_true, if_false, z5, nI_leI, nI_ltI, nI_eq, nI_clamp, nI_add, nI_n0, nI_e0, nI_p0, nI_l0, nI_g0, false_or, if_true, if_false, ite_t, ite_f, u3, accS, hcj, l3, neg_w, sumSur_M K sm j kp (by omega) u1 (by omega) u3, es, if_neg hs]
          simp (disch := omega) only [z1, nI_add]
theorem even_J (l : Nat) (hl : l < 7) : fqEven l = if l = 3 then 142858 else 142857 := by
  match l, hl with
  | 0, _ => rfl
  | 1, _ => rfl
  | 2, _ => rfl
  | 3, _ => rfl
  | 4, _ => rfl
  | 5, _ => rfl
  | 6, _ => rfl
def midN (l : Nat) : Nat := if l = 3 then 142858 else 142857
theorem midM_eq (k : Nat) (σ : fqS) (l : Nat) (hl : l < 7) : pX9_middle k 0 σ (nI l) = some (lN (midN l)) := by
  unfold pX9_middle midN
  by_cases h : l = 3
  · subst h; rfl
  · simp (disch := omega) only [z3, nI_leI, nI_ltI, nI_eq, nI_clamp, nI_add, nI_n0, nI_e0, nI_p0, nI_l0, nI_g0, false_or, if_true, if_false, ite_t, ite_f]
    rfl
theorem midX_eq (k n : Nat) (σ : fqS) (l : Nat) (hl : l < 7) : pX8_evenShare k n σ (nI l) = some (lN (midN l)) := by
  unfold pX8_evenShare midN
  by_cases h : l = 3
  · subst h; rfl
  · simp (disch := omega) only [z3, nI_leI, nI_ltI, nI_eq, nI_clamp, nI_add, nI_n0, nI_e0, nI_p0, nI_l0, nI_g0, false_or, if_true, if_false, ite_t, ite_f]
    rfl
theorem even_mid (l : Nat) (hl : l < 7) : fqEven l = lN (midN l) := by
  rw [even_J l hl]
  unfold midN
  split <;> rfl
/-- the reference's new player -/
theorem playerM_eq (k : Nat) (σ : fqS) (x1 : Int32) (n : Nat) (hn : n < 16) (hN : fqI σ 0 1 = nI n) (hk : 7 < k) : ∃ τ, pX9_player_L49 k 0 x1 (0, σ) = some (lN n, τ) ∧ eqW (fun c k => (c = 3 ∧ 7 * n ≤ k ∧ k < 7 * n + 7) ∨ (c = 0 ∧ k = 1)) σ τ ∧ fqI τ 0 1 = nI (n + 1) ∧ ∀ l, l < 7 → fqJ τ 3 (7 * n + l) = lN (midN l) := by
  unfold pX9_player_L49
  obtain ⟨r, e, h⟩ := fqL_inv0 (body := fun rec (s : (Int32 × fqS)) => pX9_player_L49b k 0 x1 rec s.1 s.2) (fun j s => s.1 = nI j ∧ eqW (fun c k => c = 3 ∧ 7 * n ≤ k ∧ k < 7 * n + 7) σ s.2 ∧ ∀ l, l < j → fqJ s.2 3 (7 * n + l) = lN (midN l)) (fun r => ∃ τ, r = some (lN n, τ) ∧ eqW (fun c k => (c = 3 ∧ 7 * n ≤ k ∧ k < 7 * n + 7) ∨ (c = 0 ∧ k = 1)) σ τ ∧ fqI τ 0 1 = nI (n + 1) ∧ ∀ l, l < 7 → fqJ τ 3 (7 * n + l) = lN (midN l)) 7 (k := k) (s := ((0 : Int32), σ)) hk ⟨rfl, eqW.rf _, fun l hl => absurd hl (by omega)⟩ ?_ ?_
  · obtain ⟨τ, rfl, h⟩ := h
    exact ⟨τ, e, h⟩
  · rintro j ⟨x2, τ⟩ hj ⟨rfl, hw, hv⟩
    have hN2 : fqI τ 0 1 = nI n := by rw [hw.I (by omega)]; exact hN
    refine ⟨(nI (j + 1), fqPJ τ 3 (7 * n + j) (lN (midN j))), ⟨rfl, hw.tr (eqW_PJ ⟨rfl, by omega, by omega⟩), fun l hl => ?_⟩, fun rec => ?_⟩
    · by_cases e : l = j
      · subst e; exact fqJ_s _ _ _ _
      · rw [fqJ_n _ _ _ _ _ _ (by omega)]; exact hv l (by omega)
    · simp (disch := omega) only [pX9_player_L49b, midM_eq k τ j hj, Option.bind_some, fqM_none, fqM_some, fqB2_some, fqN_eq, c10, c00, if_true, if_false, z1, z2, z3, z4, z5, z6, z7, z8, z10, z16, z20, z112, z175, z1023, nI_leI, nI_ltI, nI_eq, nI_clamp, nI_add, nI_n0, nI_e0, nI_p0, nI_l0, nI_g0, false_or, if_true, if_false, ite_t, ite_f, pk_mul, hN2]
  · rintro ⟨x2, τ⟩ ⟨rfl, hw, hv⟩
    have hN2 : fqI τ 0 1 = nI n := by rw [hw.I (by omega)]; exact hN
    refine ⟨_, ⟨fqPI τ 0 1 (nI (n + 1)), rfl, (hw.mono (fun c k h => Or.inl h)).tr (eqW_PI (Or.inr ⟨rfl, rfl⟩)), fqI_s _ _ _ _, fun l hl => hv l hl⟩, fun rec => ?_⟩
    simp (disch := omega) only [pX9_player_L49b, z1, z2, z3, z4, z5, z6, z7, z8, z10, z16, z20, z112, z175, z1023, nI_leI, nI_ltI, nI_eq, nI_clamp, nI_add, nI_n0, nI_e0, nI_p0, nI_l0, nI_g0, false_or, if_true, if_false, ite_t, ite_f, Option.bind_some, fqM_none, fqM_some, fqB2_some, fqN_eq, c10, c00, if_true, if_false, hN2, fqI_s]
    rw [pk_sub (by omega), nI_l (by omega)]
    rfl
