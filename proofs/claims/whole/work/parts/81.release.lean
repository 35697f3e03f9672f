/-! counting: places that stay; release, takeOut, leave -/
theorem cnt_mono (p : Nat → Bool) {a b : Nat} (h : a ≤ b) : cntB p a ≤ cntB p b := by
  induction b with
  | zero => rw [show a = 0 by omega]; omega
  | succ b ih =>
    rcases Nat.lt_or_ge a (b + 1) with q | q
    · have := ih (by omega)
      rw [cntB]; omega
    · rw [show a = b + 1 by omega]; omega
theorem cnt_up {p : Nat → Bool} {r : Nat} (h : p r = true) : cntB p (r + 1) = cntB p r + 1 := by rw [cntB, h]; rfl
theorem cnt_no {p : Nat → Bool} {r : Nat} (h : p r = false) : cntB p (r + 1) = cntB p r := by rw [cntB, h]; rfl
theorem cnt_lt {p : Nat → Bool} {r w : Nat} (h : p r = true) (hr : r < w) : cntB p r < cntB p w := by
  have := cnt_mono p (show r + 1 ≤ w by omega)
  rw [cnt_up h] at this
  omega
theorem cnt_surj (p : Nat → Bool) : ∀ (w i : Nat), i < cntB p w → ∃ r, r < w ∧ p r = true ∧ cntB p r = i
  | 0, i, h => absurd h (by show ¬ i < 0; omega)
  | w + 1, i, h => by
    cases e : p w with
    | true =>
      rw [cnt_up e] at h
      rcases Nat.lt_or_ge i (cntB p w) with q | q
      · obtain ⟨r, h1, h2, h3⟩ := cnt_surj p w i q
        exact ⟨r, by omega, h2, h3⟩
      · exact ⟨w, by omega, e, by omega⟩
    | false =>
      rw [cnt_no e] at h
      obtain ⟨r, h1, h2, h3⟩ := cnt_surj p w i h
      exact ⟨r, by omega, h2, h3⟩
theorem cnt_inj {p : Nat → Bool} {r s : Nat} (hr : p r = true) (hs : p s = true) (h : cntB p r = cntB p s) : r = s := by
  rcases Nat.lt_trichotomy r s with q | q | q
  · have := cnt_lt hr q; omega
  · exact q
  · have := cnt_lt hs q; omega
theorem cnt_inv (p : Nat → Bool) (w : Nat) : ∃ e : Nat → Nat, (∀ i, i < cntB p w → e i < w ∧ p (e i) = true ∧ cntB p (e i) = i) ∧ ∀ r, r < w → p r = true → e (cntB p r) = r := by
  have h : ∀ i, ∃ r, i < cntB p w → r < w ∧ p r = true ∧ cntB p r = i := fun i => by
    by_cases q : i < cntB p w
    · obtain ⟨r, hr⟩ := cnt_surj p w i q
      exact ⟨r, fun _ => hr⟩
    · exact ⟨0, fun z => absurd z q⟩
  refine ⟨fun i => Classical.choose (h i), fun i => Classical.choose_spec (h i), fun r hr hp => ?_⟩
  obtain ⟨_, h2, h3⟩ := Classical.choose_spec (h (cntB p r)) (cnt_lt hp hr)
  exact cnt_inj h2 hp h3
theorem release_eq {K n q w P : Nat} {qb qs e : Nat → Nat} {σ : fqS} (hK : 16 < K) (hw : w ≤ 10) (hP : P < 2 ^ 31) (hx : Qx q w qb qs σ) (he : ∀ i, i < cntB (fun i => !P.testBit i) w → e i < w ∧ (!P.testBit (e i)) = true ∧ cntB (fun i => !P.testBit i) (e i) = i) : ∃ τ, pX7_release K n σ q (nI P) = some τ ∧ Qx q (cntB (fun i => !P.testBit i) w) (fun i => qb (e i)) (fun i => qs (e i)) τ ∧ eqW (fun c k => (c = q ∧ k = 2) ∨ c = q + 1 ∨ c = q + 2) σ τ := by
  unfold pX7_release pX7_release_L4
  obtain ⟨τ, h1, h2⟩ := fqL_ex (f := fun τ : fqS => τ) (body := fun rec (s : (Int32 × Int32 × fqS)) => pX7_release_L4b K n q (nI P) rec s.1 s.2.1 s.2.2)
    (fun τ => Qx q (cntB (fun i => !P.testBit i) w) (fun i => qb (e i)) (fun i => qs (e i)) τ ∧ eqW (fun c k => (c = q ∧ k = 2) ∨ c = q + 1 ∨ c = q + 2) σ τ)
    (fun j s => s.1 = nI (cntB (fun i => !P.testBit i) j) ∧ s.2.1 = nI j ∧ eqW (fun c k => (c = q + 1 ∨ c = q + 2) ∧ k < j) σ s.2.2 ∧ (∀ r, r < j → (!P.testBit r) = true → fqI s.2.2 (q + 1) (cntB (fun i => !P.testBit i) r) = nI (qb r) ∧ fqJ s.2.2 (q + 2) (cntB (fun i => !P.testBit i) r) = lN (qs r))) w (k := K) (s := (0, 0, σ)) (by omega) ⟨rfl, rfl, eqW.rf _, fun r hr => absurd hr (by omega)⟩
    (by
      rintro j ⟨a, b, τ⟩ hj ⟨rfl, rfl, h3, h4⟩
      have hcj := cntB_le (fun i => !P.testBit i) j
      have hq2 : fqI τ q 2 = nI w := by rw [h3.I (by omega)]; exact hx.1
      have hvI : fqI τ (q + 1) j = nI (qb j) := by rw [h3.I (by omega)]; exact (hx.2 j hj).1
      have hvJ : fqJ τ (q + 2) j = lN (qs j) := by rw [h3.J (by omega)]; exact (hx.2 j hj).2
      cases hb : P.testBit j with
      | true =>
        refine ⟨(nI (cntB (fun i => !P.testBit i) (j + 1)), nI (j + 1), τ), ⟨rfl, rfl, h3.mono (fun c k z => by omega), fun r hr hrb => ?_⟩, fun rec => ?_⟩
        · rcases Nat.lt_or_ge r j with z | z
          · exact h4 r z hrb
          · rw [show r = j by omega, hb] at hrb; cases hrb
        · rw [cnt_no (p := fun i => !P.testBit i) (r := j) (by simp [hb])]
          simp (disch := omega) only [pX7_release_L4b, hq2, z10, nI_leI, nI_ltI, nI_eq, nI_clamp, nI_add, nI_n0, nI_e0, nI_p0, nI_l0, nI_g0, false_or, if_true, if_false, ite_t, ite_f, hasBit_t (B := P) (p := j) hP (by omega) hb, Option.bind_some, c10, nI_1]
      | false =>
        refine ⟨(nI (cntB (fun i => !P.testBit i) (j + 1)), nI (j + 1), fqPJ (fqPI τ (q + 1) (cntB (fun i => !P.testBit i) j) (nI (qb j))) (q + 2) (cntB (fun i => !P.testBit i) j) (lN (qs j))), ⟨rfl, rfl, ?_, fun r hr hrb => ?_⟩, fun rec => ?_⟩
        · exact ((h3.mono (fun c k z => by omega)).tr (eqW_PI (by omega))).tr (eqW_PJ (by omega))
        · rcases Nat.lt_or_ge r j with z | z
          · have hl := cnt_lt (p := fun i => !P.testBit i) hrb z
            obtain ⟨g1, g2⟩ := h4 r z hrb
            refine ⟨?_, ?_⟩
            · rw [fqI_PJ, fqI_n _ _ _ _ _ _ (by omega)]; exact g1
            · rw [fqJ_n _ _ _ _ _ _ (by omega), fqJ_PI]; exact g2
          · have ez : r = j := by omega
            subst ez
            exact ⟨by rw [fqI_PJ, fqI_s], by rw [fqJ_s]⟩
        · rw [cnt_up (p := fun i => !P.testBit i) (r := j) (by simp [hb])]
          simp (disch := omega) only [pX7_release_L4b, hq2, z10, nI_leI, nI_ltI, nI_eq, nI_clamp, nI_add, nI_n0, nI_e0, nI_p0, nI_l0, nI_g0, false_or, if_true, if_false, ite_t, ite_f, hasBit_f (B := P) (p := j) hP (by omega) hb, Option.bind_some, c00, fqN_eq, hvI, hvJ, fqJ_PI, nI_1])
    (by
      rintro ⟨a, b, τ⟩ ⟨rfl, rfl, h3, h4⟩
      have hq2 : fqI τ q 2 = nI w := by rw [h3.I (by omega)]; exact hx.1
      refine ⟨fqPI τ q 2 (nI (cntB (fun i => !P.testBit i) w)), ⟨⟨fqI_s _ _ _ _, fun i hi => ?_⟩, ?_⟩, fun rec => ?_⟩
      · obtain ⟨e1, e2, e3⟩ := he i hi
        obtain ⟨g1, g2⟩ := h4 (e i) e1 e2
        rw [e3] at g1 g2
        exact ⟨by rw [fqI_n _ _ _ _ _ _ (by omega)]; exact g1, by rw [fqJ_PI]; exact g2⟩
      · exact (h3.mono (fun c k z => by omega)).tr (eqW_PI (by omega))
      · simp (disch := omega) only [pX7_release_L4b, hq2, nI_leI, ite_t, fqN_eq])
  exact ⟨τ, h1, h2⟩
theorem takeOut_eq {K w k : Nat} {qb qs : Nat → Nat} {σ : fqS} (hK : 16 < K) (hw : w ≤ 10) (hk : k < w) (hm : Qm w qb qs σ) : ∃ τ, pX9_takeOut K 0 σ (nI k) = some τ ∧ Qm (w - 1) (fun i => if i < k then qb i else qb (i + 1)) (fun i => if i < k then qs i else qs (i + 1)) τ ∧ eqW (fun c k => c = 6 ∨ c = 7 ∨ (c = 0 ∧ k = 11)) σ τ := by
  unfold pX9_takeOut pX9_takeOut_L12
  simp only [fqN_eq, hm.1, z1, pk_sub (show 1 ≤ w by omega)]
  obtain ⟨τ, h1, h2⟩ := fqL_ex (f := fun τ : fqS => τ) (body := fun rec (s : (Int32 × fqS)) => pX9_takeOut_L12b K 0 (nI k) rec s.1 s.2)
    (fun τ => Qm (w - 1) (fun i => if i < k then qb i else qb (i + 1)) (fun i => if i < k then qs i else qs (i + 1)) τ ∧ eqW (fun c k => c = 6 ∨ c = 7 ∨ (c = 0 ∧ k = 11)) σ τ)
    (fun j s => s.1 = nI (k + j) ∧ eqW (fun c k => c = 6 ∨ c = 7 ∨ (c = 0 ∧ k = 11)) σ s.2 ∧ fqI s.2 0 11 = nI (w - 1) ∧ ∀ i, i < w → fqI s.2 6 i = nI (if i < k ∨ k + j ≤ i then qb i else qb (i + 1)) ∧ fqI s.2 7 i = nI (if i < k ∨ k + j ≤ i then qs i else qs (i + 1))) (w - 1 - k) (k := K) (s := (nI k, fqPI σ 0 11 (nI (w - 1)))) (by omega)
    ⟨rfl, eqW_PI (by omega), fqI_s _ _ _ _, fun i hi => by
      rw [fqI_n _ _ _ _ _ _ (by omega), fqI_n _ _ _ _ _ _ (by omega), if_pos (by omega), if_pos (by omega)]
      exact hm.2 i hi⟩
    (by
      rintro j ⟨a, τ⟩ hj ⟨rfl, h3, h4, h5⟩
      have v1 : fqI τ 6 (k + j + 1) = nI (qb (k + j + 1)) := by rw [(h5 (k + j + 1) (by omega)).1, if_pos (by omega)]
      have v2 : fqI τ 7 (k + j + 1) = nI (qs (k + j + 1)) := by rw [(h5 (k + j + 1) (by omega)).2, if_pos (by omega)]
      refine ⟨(nI (k + (j + 1)), fqPI (fqPI τ 6 (k + j) (nI (qb (k + j + 1)))) 7 (k + j) (nI (qs (k + j + 1)))), ⟨rfl, (h3.tr (eqW_PI (by omega))).tr (eqW_PI (by omega)), ?_, fun i hi => ?_⟩, fun rec => ?_⟩
      · rw [fqI_n _ _ _ _ _ _ (by omega), fqI_n _ _ _ _ _ _ (by omega)]; exact h4
      · obtain ⟨g1, g2⟩ := h5 i hi
        by_cases ez : i = k + j
        · subst ez
          rw [fqI_n _ _ _ _ _ _ (by omega), fqI_s, fqI_s, if_neg (by omega), if_neg (by omega)]
          exact ⟨rfl, rfl⟩
        · rw [fqI_n _ _ _ _ _ _ (by omega), fqI_n _ _ _ _ _ _ (by omega), fqI_n _ _ _ _ _ _ (by omega), fqI_n _ _ _ _ _ _ (by omega), g1, g2]
          by_cases z : i < k ∨ k + j ≤ i
          · rw [if_pos z, if_pos z, if_pos (by omega), if_pos (by omega)]
            exact ⟨rfl, rfl⟩
          · rw [if_neg z, if_neg z, if_neg (by omega), if_neg (by omega)]
            exact ⟨rfl, rfl⟩
      · have v2' : fqI (fqPI τ 6 (k + j) (nI (qb (k + j + 1)))) 7 (k + j + 1) = nI (qs (k + j + 1)) := by rw [fqI_n _ _ _ _ _ _ (by omega)]; exact v2
        simp (disch := omega) only [pX9_takeOut_L12b, h4, nI_1, nI_leI, nI_ltI, nI_eq, nI_clamp, nI_add, nI_n0, nI_e0, nI_p0, nI_l0, nI_g0, false_or, if_true, if_false, ite_t, ite_f, fqN_eq, v1, v2']
        rfl)
    (by
      rintro ⟨a, τ⟩ ⟨rfl, h3, h4, h5⟩
      refine ⟨τ, ⟨⟨h4, fun i hi => ?_⟩, h3⟩, fun rec => ?_⟩
      · obtain ⟨g1, g2⟩ := h5 i (by omega)
        show fqI τ 6 i = nI (if i < k then qb i else qb (i + 1)) ∧ fqI τ 7 i = nI (if i < k then qs i else qs (i + 1))
        rw [g1, g2]
        by_cases z : i < k
        · rw [if_pos (Or.inl z), if_pos (Or.inl z), if_pos z, if_pos z]
          exact ⟨rfl, rfl⟩
        · have z2 : ¬ (i < k ∨ k + (w - 1 - k) ≤ i) := by omega
          rw [if_neg z2, if_neg z2, if_neg z, if_neg z]
          exact ⟨rfl, rfl⟩
      · simp (disch := omega) only [pX9_takeOut_L12b, h4, nI_leI, ite_t])
  exact ⟨τ, h1, h2⟩
/-- only the queue changes -/
def qXS (c k : Nat) : Prop := c = 4 ∨ c = 5 ∨ c = 6 ∨ scX c k
def qMS (c k : Nat) : Prop := c = 6 ∨ c = 7 ∨ (c = 0 ∧ k = 11) ∨ scM c k
theorem Rel_q {t n : Nat} {sx sm sx' sm' : fqS} (h : Rel t n sx sm) (hx : eqW qXS sx sx') (hm : eqW qMS sm sm') (hq : Rq n t sx' sm') : Rel t n sx' sm' := by
  obtain ⟨hn, hp, hz, hs, hb, ht, _, hmm, he, hl, hc, hf⟩ := h
  exact ⟨Rn_fr hn hx hm (by unfold qXS scX; omega) (by unfold qMS scM; omega), Rp_fr hp hx hm (fun p k _ => by unfold qXS scX; omega) (fun k => by unfold qMS scM; omega), Rz_fr hz hm (fun k => by unfold qMS scM; omega), Rs_fr hs hx hm (by unfold qXS scX; omega) (by unfold qMS scM; omega), Rb_fr hb hx hm (fun k => by unfold qXS scX; omega) (by unfold qMS scM; omega), Rt_fr ht hx hm (by unfold qXS scX; omega) (by unfold qMS scM; omega), hq, Rm_fr hmm hx hm (fun m k _ => by unfold qXS scX; omega) (fun c k _ _ => by unfold qMS scM; omega), Re_fr he hx hm (by unfold qXS scX; omega) (by unfold qMS scM; omega), Rl_fr hl hx hm (by unfold qXS scX; omega) (by unfold qMS scM; omega), Rc_fr hc hx hm ⟨by unfold qXS scX; omega, fun k => by unfold qXS scX; omega⟩ ⟨by unfold qMS scM; omega, fun k => by unfold qMS scM; omega⟩, Rf_fr hf hx hm (fun k => by unfold qXS scX; omega) (fun k => by unfold qMS scM; omega)⟩
theorem cnt_one (k : Nat) : ∀ w, cntB (fun i => !(2 ^ k).testBit i) w = if w ≤ k then w else w - 1
  | 0 => by rw [if_pos (by omega)]; rfl
  | w + 1 => by
    rw [cntB, cnt_one k w, bit_2p]
    rcases Nat.lt_trichotomy w k with q | q | q
    · rw [if_pos (show w ≤ k by omega), if_pos (show w + 1 ≤ k by omega), if_pos (show (!decide (k = w)) = true by simp; omega)]
    · rw [if_pos (show w ≤ k by omega), if_neg (show ¬ w + 1 ≤ k by omega), if_neg (show ¬ (!decide (k = w)) = true by simp; omega)]; omega
    · rw [if_neg (show ¬ w ≤ k by omega), if_neg (show ¬ w + 1 ≤ k by omega), if_pos (show (!decide (k = w)) = true by simp; omega)]; omega
theorem st_leave (K : Nat) (hK : 16 < K) : lwS_leave Rel K := by
  intro t n sx sm x1 ht hR
  obtain ⟨hn, hNx, hNm⟩ := hR.1
  by_cases hin : x1 < 0 ∨ nI n ≤ x1
  · refine both_bad (bnd_1 (K := K) hR) ?_ ?_
    · simp only [pX8_leave, atX_out hNx hin, Option.bind_some, fqM_none]
    · simp only [pX9_leave, isPl_out hNm hn hin, Option.bind_some, if_true]
  rcases pk_ix x1 (n := n) (by omega) with h | h | ⟨p, hp, rfl⟩
  · exact absurd (Or.inl h) hin
  · exact absurd (Or.inr h) hin
  obtain ⟨w, qb, qs, hf, hx, hm⟩ := Rq_to hR.2.2.2.2.2.2.1
  have hb9 : ∀ k, k < w → qb k < 65536 := fun k hk => Qf_lt hn hf hk
  rcases place_both (n := n) (N := 0) hK hf.1 hx hm hb9 (show p < 16 by omega) with ⟨e1, e2, _⟩ | ⟨k, hk, hbt, e1, e2⟩
  · refine both_bad (bnd_2 (K := K) hR) ?_ ?_
    · simp (disch := omega) only [pX8_leave, atX_in hNx hn hp, Option.bind_some, fqM_some, ite_t, bitOf_eq, e1, if_neg (show ¬ (0 : Int32) ≤ -1 by decide)]
    · simp (disch := omega) only [pX9_leave, isPl_in hNm hn hp, Option.bind_some, c10, if_false, e2, if_neg (show ¬ (0 : Int32) ≤ -1 by decide)]
  have hw := hf.1
  have hk16 := p16 (show k < 16 by omega)
  obtain ⟨e, he1, he2⟩ := cnt_inv (fun i => !(2 ^ k).testBit i) w
  obtain ⟨τ, r1, r2, r3⟩ := release_eq (K := K) (n := n) hK hf.1 (show 2 ^ k < 2 ^ 31 by omega) hx he1
  obtain ⟨υ, u1, u2, u3⟩ := takeOut_eq hK hf.1 hk hm
  have hcw : cntB (fun i => !(2 ^ k).testBit i) w = w - 1 := by rw [cnt_one, if_neg (by omega)]
  rw [hcw] at r2 he1
  have hei : ∀ i, i < w - 1 → e i = if i < k then i else i + 1 := by
    intro i hi
    by_cases z : i < k
    · have q := he2 i (by omega) (by simp [bit_2p]; omega)
      rw [cnt_one, if_pos (by omega)] at q
      rw [if_pos z]; exact q
    · have q := he2 (i + 1) (by omega) (by simp [bit_2p]; omega)
      rw [cnt_one, if_neg (by omega)] at q
      rw [if_neg z]; exact q
  have u2' : Qm (w - 1) (fun i => qb (e i)) (fun i => qs (e i)) υ := Qm_congr u2 (fun i hi => by
    show qb (e i) = _ ∧ qs (e i) = _
    rw [hei i hi]
    by_cases z : i < k
    · refine ⟨?_, ?_⟩ <;> simp only [if_pos z]
    · refine ⟨?_, ?_⟩ <;> simp only [if_neg z])
  refine ⟨lN (w - 1), τ, υ, ?_, ?_, ?_⟩
  · simp (disch := omega) only [pX8_leave, atX_in hNx hn hp, Option.bind_some, fqM_some, ite_t, bitOf_eq, e1, nI_p0, if_true, nI_one, r1, r2.1, nI_l]
  · simp (disch := omega) only [pX9_leave, isPl_in hNm hn hp, Option.bind_some, c10, if_false, e2, nI_p0, if_true, u1, u2.1, nI_l]
  · refine Rel_q (Rel_up hR) (r3.mono (fun c k z => by unfold qXS; omega)) (u3.mono (fun c k z => by unfold qMS; omega)) (Rq_of ⟨by omega, fun i hi => ?_, fun i j hi hj hij => ?_⟩ r2 u2')
    · obtain ⟨a1, a2, a3⟩ := hf.2.1 (e i) (he1 i hi).1
      exact ⟨a1, a2, by omega⟩
    · refine hf.2.2 (e i) (e j) (he1 i hi).1 (he1 j hj).1 (fun q => hij ?_)
      rw [← (he1 i hi).2.2, ← (he1 j hj).2.2, q]
