/-! findings, and the methods without loops -/
theorem fndX (k n : Nat) (σ : fqS) (j : Nat) (hj : j < 6) {x : Int64} (hx : (-1000000000 : Int64) - Int32.toInt64 (nI j) = x) : pX8_finding k n σ (nI j) = some (x, fqPJ σ 25 j (fqJ σ 25 j + 1)) := by
  subst hx
  simp (disch := omega) only [pX8_finding, z0, z6, nI_lt0, false_or, if_false, nI_leI, nI_clamp, ite_f, fqN_eq]
theorem fndM (k n : Nat) (σ : fqS) (x : Int64) (j : Nat) (hx : Int64.toInt32 ((-1000000000 : Int64) - x) = nI j) (hj : j < 6) : pX9_finding k n σ x = some (x, fqPI σ 1 j (fqI σ 1 j + 1)) := by
  unfold pX9_finding
  rw [hx]
  simp (disch := omega) only [z0, nI_lt0, false_or, if_false, nI_clamp, ite_f, fqN_eq]
theorem Rel_fnd {t n : Nat} {sx sm : fqS} {j : Nat} (h1 : 1 ≤ j) (h5 : j ≤ 5) (h : Rel t n sx sm) : Rel (t + 1) n (fqPJ sx 25 j (fqJ sx 25 j + 1)) (fqPI sm 1 j (fqI sm 1 j + 1)) := by
  have hf9 := h.2.2.2.2.2.2.2.2.2.2.2
  obtain ⟨hn, hp, hz, hs, hb, ht, hq, hmm, he, hl, hc, hf⟩ := Rel_up h
  have hx : eqW (fun c k => c = 25 ∧ k = j) sx (fqPJ sx 25 j (fqJ sx 25 j + 1)) := eqW_PJ ⟨rfl, rfl⟩
  have hm : eqW (fun c k => c = 1 ∧ k = j) sm (fqPI sm 1 j (fqI sm 1 j + 1)) := eqW_PI ⟨rfl, rfl⟩
  refine ⟨Rn_fr hn hx hm (by omega) (by omega), Rp_fr hp hx hm (fun p k _ => by omega) (fun k => by omega), Rz_fr hz hm (fun k => by omega), Rs_fr hs hx hm (by omega) (by omega), Rb_fr hb hx hm (fun k => by omega) (by omega), Rt_fr ht hx hm (by omega) (by omega), Rq_fr hq hx hm ⟨by omega, fun k => by omega⟩ ⟨by omega, fun k => by omega⟩, Rm_fr hmm hx hm (fun m k _ => by omega) (fun c k _ _ => by omega), Re_fr he hx hm (by omega) (by omega), Rl_fr hl hx hm (by omega) (by omega), Rc_fr hc hx hm ⟨by omega, fun k => by omega⟩ ⟨by omega, fun k => by omega⟩, fun i hi1 hi5 => ?_⟩
  obtain ⟨f, g1, g2, g3⟩ := hf9 i hi1 hi5
  by_cases e : i = j
  · subst e
    refine ⟨f + 1, by omega, ?_, ?_⟩
    · rw [fqJ_PJ, if_pos ⟨rfl, rfl⟩, g2, lN_1]
    · rw [fqI_PI, if_pos ⟨rfl, rfl⟩, g3, nI_1]
  · refine ⟨f, by omega, ?_, ?_⟩
    · rw [fqJ_PJ, if_neg (fun q => e q.2)]; exact g2
    · rw [fqI_PI, if_neg (fun q => e q.2)]; exact g3
theorem fnd_both {t n k : Nat} {sx sm : fqS} (j : Nat) (h1 : 1 ≤ j) (h5 : j ≤ 5) (h : Rel t n sx sm) {y : Int32} {x : Int64} (hy : y = nI j) (hx : (-1000000000 : Int64) - Int32.toInt64 (nI j) = x) (hm : Int64.toInt32 ((-1000000000 : Int64) - x) = nI j) : ∃ sx' sm', pX8_finding k n sx y = some (x, sx') ∧ pX9_finding k 0 sm x = some (x, sm') ∧ Rel (t + 1) n sx' sm' := by
  subst hy
  exact ⟨_, _, fndX k n sx j (by omega) hx, fndM k 0 sm x j hm (by omega), Rel_fnd h1 h5 h⟩
theorem atX_i {k n : Nat} {σ : fqS} (hN : fqI σ 1 2 = nI n) (hn : n ≤ 16) {i : Nat} (hi : i < 16) : pX6_at k n σ (nI i) = some (fqRow n i) := by
  unfold pX6_at fqRow
  rw [hN]
  by_cases h : i < n
  · simp (disch := omega) only [z0, z16, nI_lt0, false_or, if_false, nI_leI, nI_ltI, nI_clamp, ite_f, ite_t]
  · simp (disch := omega) only [z0, z16, nI_lt0, false_or, if_false, nI_leI, nI_ltI, nI_clamp, ite_f, ite_t]
theorem atX_in {k n : Nat} {σ : fqS} (hN : fqI σ 1 2 = nI n) (hn : n ≤ 16) {p : Nat} (hp : p < n) : pX6_at k n σ (nI p) = some (some p) := by
  rw [atX_i hN hn (by omega)]
  unfold fqRow
  rw [if_pos hp]
theorem atX_out {k n : Nat} {σ : fqS} (hN : fqI σ 1 2 = nI n) {x : Int32} (h : x < 0 ∨ nI n ≤ x) : pX6_at k n σ x = some none := by
  unfold pX6_at
  rw [hN]
  by_cases h0 : x < 0
  · rw [if_pos h0]
  · rw [if_neg h0, if_pos (h.resolve_left h0)]
theorem inM (k n : Nat) (σ : fqS) (a b c : Int64) : pX9_in k n σ a b c = some (if b ≤ a ∧ a ≤ c then 1 else 0) := by
  unfold pX9_in
  by_cases h1 : a < b
  · rw [if_pos h1, if_neg (fun q => absurd h1 (Int64.not_lt.mpr q.1))]
  · rw [if_neg h1]
    by_cases h2 : c < a
    · rw [if_pos h2, if_neg (fun q => absurd h2 (Int64.not_lt.mpr q.2))]
    · rw [if_neg h2, if_pos ⟨Int64.not_lt.mp h1, Int64.not_lt.mp h2⟩]
theorem wid_le (a b : Int32) : a.toInt64 ≤ b.toInt64 ↔ a ≤ b := by
  rw [Int64.le_iff_toInt_le, Int32.le_iff_toInt_le, Int32.toInt_toInt64, Int32.toInt_toInt64]
theorem wid_eq (a b : Int32) : a.toInt64 = b.toInt64 ↔ a = b := by
  rw [← Int64.toInt_inj, ← Int32.toInt_inj, Int32.toInt_toInt64, Int32.toInt_toInt64]
theorem inM32 (k n : Nat) (σ : fqS) (x : Int32) (a c : Int32) {A C : Int64} (hA : A = a.toInt64) (hC : C = c.toInt64) : pX9_in k n σ x.toInt64 A C = some (if a ≤ x ∧ x ≤ c then 1 else 0) := by
  rw [inM, hA, hC]
  simp only [wid_le]
theorem isPl_eq {k n : Nat} {σ : fqS} (hN : fqI σ 0 1 = nI n) (x : Int32) : pX9_isPlayer k 0 σ x = some (if 0 ≤ x ∧ x ≤ nI n - 1 then 1 else 0) := by
  unfold pX9_isPlayer
  rw [inM32 k 0 σ x 0 (fqI σ 0 1 - 1) (A := 0) rfl rfl, hN]
  by_cases h : 0 ≤ x ∧ x ≤ nI n - 1
  · rw [if_pos h]; rfl
  · rw [if_neg h]; rfl
theorem isPl_in {k n : Nat} {σ : fqS} (hN : fqI σ 0 1 = nI n) (hn : n ≤ 16) {p : Nat} (hp : p < n) : pX9_isPlayer k 0 σ (nI p) = some 1 := by
  rw [isPl_eq hN, if_pos]
  refine ⟨nI_pos' (by omega), ?_⟩
  rw [z1, pk_sub (by omega)]
  exact nI_le (by omega) (by omega)
theorem isPl_out {k n : Nat} {σ : fqS} (hN : fqI σ 0 1 = nI n) (hn : n ≤ 16) {x : Int32} (h : x < 0 ∨ nI n ≤ x) : pX9_isPlayer k 0 σ x = some 0 := by
  rw [isPl_eq hN, if_neg]
  rintro ⟨h1, h2⟩
  rcases h with h | h
  · exact absurd h (Int32.not_lt.mpr h1)
  · have h3 := Int32.le_trans h h2
    rw [Int32.le_iff_toInt_le] at h3
    have e : (nI n - nI 1).toInt = (n : Int) - 1 := pk_sub_toInt (by omega) (by omega)
    rw [z1, e, nI_toInt (by omega)] at h3
    omega
