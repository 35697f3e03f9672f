/-! check -/
theorem copyOf_eq {K n w : Nat} {qb qs : Nat → Nat} {σ : fqS} (hK : 16 < K) (hw : w ≤ 10) (hx : Qx 4 w qb qs σ) : ∃ τ, pX7_copyOf K n σ 7 4 = some τ ∧ Qx 7 w qb qs τ ∧ eqW (fun c _ => c = 7 ∨ c = 8 ∨ c = 9) σ τ := by
  unfold pX7_copyOf pX7_copyOf_L2
  obtain ⟨τ, h1, h2⟩ := fqL_ex (f := fun τ : fqS => τ) (body := fun rec (s : (Int32 × fqS)) => pX7_copyOf_L2b K n 7 4 rec s.1 s.2)
    (fun τ => Qx 7 w qb qs τ ∧ eqW (fun c _ => c = 7 ∨ c = 8 ∨ c = 9) σ τ)
    (fun j z => z.1 = nI j ∧ eqW (fun c _ => c = 7 ∨ c = 8 ∨ c = 9) σ z.2 ∧ ∀ i, i < j → i < w → fqI z.2 8 i = nI (qb i) ∧ fqJ z.2 9 i = lN (qs i)) 10 (k := K) (s := (0, σ)) (by omega)
    ⟨rfl, eqW.rf _, fun i hi => absurd hi (by omega)⟩
    (by
      rintro j ⟨x, υ⟩ hj ⟨rfl, q1, q2⟩
      have hxυ : Qx 4 w qb qs υ := Qx_fr hx q1 ⟨by omega, fun k => by omega⟩
      obtain ⟨v, hv1, hv2⟩ : ∃ v, pX7_partyAt K n υ 4 (nI j) = some v ∧ (j < w → v = nI (qb j)) := by
        rcases Nat.lt_or_ge j w with z | z
        · exact ⟨_, partyAt_in hxυ hw z, fun _ => rfl⟩
        · exact ⟨_, partyAt_out hxυ hw z hj, fun q => absurd q (by omega)⟩
      have hxυ2 : Qx 4 w qb qs (fqPI υ 8 j v) := Qx_fr hxυ (eqW_PI (S := fun c _ => c = 8) rfl) ⟨by omega, fun k => by omega⟩
      obtain ⟨u, hu1, hu2⟩ : ∃ u, pX7_sinceAt K n (fqPI υ 8 j v) 4 (nI j) = some u ∧ (j < w → u = lN (qs j)) := by
        rcases Nat.lt_or_ge j w with z | z
        · exact ⟨_, sinceAt_in hxυ2 hw z, fun _ => rfl⟩
        · exact ⟨_, sinceAt_out hxυ2 hw z hj, fun q => absurd q (by omega)⟩
      refine ⟨(nI (j + 1), fqPJ (fqPI υ 8 j v) 9 j u), ⟨rfl, (q1.tr (eqW_PI (by omega))).tr (eqW_PJ (by omega)), fun i hi hiw => ?_⟩, fun rec => ?_⟩
      · by_cases e : i = j
        · subst e
          rw [fqI_PJ, fqI_s, fqJ_s]
          exact ⟨hv2 hiw, hu2 hiw⟩
        · rw [fqI_PJ, fqI_n _ _ _ _ _ _ (by omega), fqJ_n _ _ _ _ _ _ (by omega), fqJ_PI]
          exact q2 i (by omega) hiw
      · show pX7_copyOf_L2b K n 7 4 rec (nI j) υ = _
        unfold pX7_copyOf_L2b
        rw [z10, ite_f (by rw [nI_leI (by omega) (by omega)]; omega), hv1, Option.bind_some, ite_f (nI_in hj (by omega)), fqN_eq, nI_clamp (by omega)]
        show (pX7_sinceAt K n (fqPI υ 8 j v) 4 (nI j)).bind _ = _
        rw [hu1, Option.bind_some, fqN_eq, nI_1])
    (by
      rintro ⟨x, υ⟩ ⟨rfl, q1, q2⟩
      have hxυ : Qx 4 w qb qs υ := Qx_fr hx q1 ⟨by omega, fun k => by omega⟩
      refine ⟨fqPI υ 7 2 (nI w), ⟨⟨fqI_s _ _ _ _, fun i hi => ?_⟩, q1.tr (eqW_PI (by omega))⟩, fun rec => ?_⟩
      · obtain ⟨a, b⟩ := q2 i (by omega) hi
        show fqI (fqPI υ 7 2 (nI w)) 8 i = _ ∧ fqJ (fqPI υ 7 2 (nI w)) 9 i = _
        rw [fqI_n _ _ _ _ _ _ (by omega), fqJ_PI]
        exact ⟨a, b⟩
      · show pX7_copyOf_L2b K n 7 4 rec (nI 10) υ = _
        unfold pX7_copyOf_L2b
        rw [z10, ite_t (by rw [nI_leI (by omega) (by omega)]; omega), hxυ.1, fqN_eq])
  exact ⟨τ, h1, h2⟩
def cXS (c k : Nat) : Prop := scX c k ∨ (c = 0 ∧ k = 9)
def cMS (c k : Nat) : Prop := scM c k ∨ (c = 0 ∧ k = 21)
theorem Rel_ck {t n : Nat} {sx sm sx' sm' : fqS} (h : Rel t n sx sm) (hx : eqW cXS sx sx') (hm : eqW cMS sm sm') (hc : Rc sx' sm') : Rel t n sx' sm' := by
  obtain ⟨hn, hp, hz, hs, hb, ht, hq, hmm, he, hl, _, hf⟩ := h
  exact ⟨Rn_fr hn hx hm (by unfold cXS scX; omega) (by unfold cMS scM; omega), Rp_fr hp hx hm (fun p k _ => by unfold cXS scX; omega) (fun k => by unfold cMS scM; omega), Rz_fr hz hm (fun k => by unfold cMS scM; omega), Rs_fr hs hx hm (by unfold cXS scX; omega) (by unfold cMS scM; omega), Rb_fr hb hx hm (fun k => by unfold cXS scX; omega) (by unfold cMS scM; omega), Rt_fr ht hx hm (by unfold cXS scX; omega) (by unfold cMS scM; omega), Rq_fr hq hx hm ⟨by unfold cXS scX; omega, fun k => by unfold cXS scX; omega⟩ ⟨by unfold cMS scM; omega, fun k => by unfold cMS scM; omega⟩, Rm_fr hmm hx hm (fun m k _ => by unfold cXS scX; omega) (fun c k _ _ => by unfold cMS scM; omega), Re_fr he hx hm (by unfold cXS scX; omega) (by unfold cMS scM; omega), Rl_fr hl hx hm (by unfold cXS scX; omega) (by unfold cMS scM; omega), hc, Rf_fr hf hx hm (fun k => by unfold cXS scX; omega) (fun k => by unfold cMS scM; omega)⟩
/-- the told pair is the planned one -/
def okTd (c : Nat) (f : Nat → Int32) (a b : Nat → Nat) (i : Nat) : Prop := 2 * i + 1 < c ∧ f (2 * i) = nI (a i) ∧ f (2 * i + 1) = nI (b i)
theorem isTold_eq {K n c i : Nat} {σ : fqS} {f : Nat → Int32} {a b : Nat → Nat} (hc : c ≤ 20) (hi : i < 5) (hf : ∀ j, j < c → fqJ σ 24 j = Int32.toInt64 (f j)) (ha : fqI σ 14 i = nI (a i)) (hb : fqI σ 15 i = nI (b i)) : (okTd c f a b i → pX8_isTold K n σ (nI i) (nI c) = some 1) ∧ (¬ okTd c f a b i → pX8_isTold K n σ (nI i) (nI c) = some 0) := by
  have e2 : (2 : Int32) * nI i = nI (2 * i) := by rw [z2, pk_mul]
  have e3 : (2 : Int32) * nI i + 1 = nI (2 * i + 1) := by rw [e2, nI_1]
  have h1 : pX4_firstAt K n σ (nI i) = some (nI (a i)) := by
    simp (disch := omega) only [pX4_firstAt, z5, nI_leI, nI_n0, if_false, false_or, ite_f, nI_clamp, ha]
  have h2 : pX4_secondAt K n σ (nI i) = some (nI (b i)) := by
    simp (disch := omega) only [pX4_secondAt, z5, nI_leI, nI_n0, if_false, false_or, ite_f, nI_clamp, hb]
  have key : pX8_isTold K n σ (nI i) (nI c) = if 2 * i + 1 < c then (if f (2 * i) = nI (a i) then (if f (2 * i + 1) = nI (b i) then some 1 else some 0) else some 0) else some 0 := by
    unfold pX8_isTold
    rw [e3, e2, ite_f (nI_pos (by omega))]
    by_cases q : 2 * i + 1 < c
    · rw [ite_f (by rw [nI_leI (by omega) (by omega)]; omega), z20, ite_t (by rw [nI_ltI (by omega) (by omega)]; omega), ite_f (nI_in (by omega) (by omega)), h1, Option.bind_some, nI_clamp (by omega), nI_clamp (by omega), hf _ (by omega), hf _ (by omega), if_pos q]
      by_cases q1 : f (2 * i) = nI (a i)
      · rw [if_pos q1, ite_t (by rw [q1]), ite_f (nI_in' (show 2 * i + 1 < 20 by omega) (by omega)), h2, Option.bind_some]
        by_cases q2 : f (2 * i + 1) = nI (b i)
        · rw [if_pos q2, ite_t (by rw [q2])]
        · rw [if_neg q2, ite_f (by rw [wid_eq]; exact q2)]
      · rw [if_neg q1, ite_f (by rw [wid_eq]; exact q1)]
    · rw [if_neg q, ite_t (by rw [nI_leI (by omega) (by omega)]; omega)]
  rw [key]
  constructor
  · rintro ⟨q, q1, q2⟩
    rw [if_pos q, if_pos q1, if_pos q2]
  · intro h
    by_cases q : 2 * i + 1 < c
    · rw [if_pos q]
      by_cases q1 : f (2 * i) = nI (a i)
      · rw [if_pos q1, if_neg (fun q2 => h ⟨q, q1, q2⟩)]
      · rw [if_neg q1]
    · rw [if_neg q]
theorem chM_eq {K c i N : Nat} {σ : fqS} {a b : Nat → Nat} {rec : (Int32 × fqS) → Option (Int64 × fqS)} (hc : c ≤ 20) (hi : i < N) (hN : N ≤ 5) (h31 : fqI σ 0 31 = nI N) (h1 : pX9_playersOf K 0 σ (fqI σ 17 i) = some (nI (a i))) (h2 : pX9_playersOf K 0 σ (fqI σ 18 i) = some (nI (b i))) : (okTd c (fun j => fqI σ 13 j) a b i → pX9_check_L16b K 0 (nI c) rec (nI i) σ = rec (nI (i + 1), σ)) ∧ (¬ okTd c (fun j => fqI σ 13 j) a b i → pX9_check_L16b K 0 (nI c) rec (nI i) σ = some (1 + Int32.toInt64 (nI i), σ)) := by
  have e2 : (2 : Int32) * nI i = nI (2 * i) := by rw [z2, pk_mul]
  have e3 : (2 : Int32) * nI i + 1 = nI (2 * i + 1) := by rw [e2, nI_1]
  have key : pX9_check_L16b K 0 (nI c) rec (nI i) σ = if 2 * i + 1 < c then (if fqI σ 13 (2 * i) = nI (a i) then (if fqI σ 13 (2 * i + 1) = nI (b i) then rec (nI (i + 1), σ) else some (1 + Int32.toInt64 (nI i), σ)) else some (1 + Int32.toInt64 (nI i), σ)) else some (1 + Int32.toInt64 (nI i), σ) := by
    unfold pX9_check_L16b
    rw [h31, ite_f (by rw [nI_leI (by omega) (by omega)]; omega), e3, e2]
    by_cases q : 2 * i + 1 < c
    · rw [ite_f (by rw [nI_leI (by omega) (by omega)]; omega), ite_f (nI_in (show 2 * i < 20 by omega) (by omega)), ite_f (nI_in (show i < 5 by omega) (by omega)), nI_clamp (show i < 2 ^ 31 by omega), h1, Option.bind_some, nI_clamp (show 2 * i < 2 ^ 31 by omega), nI_clamp (show 2 * i + 1 < 2 ^ 31 by omega), if_pos q, nI_1]
      by_cases q1 : fqI σ 13 (2 * i) = nI (a i)
      · rw [if_pos q1, if_pos q1, ite_f (nI_in' (show 2 * i + 1 < 20 by omega) (by omega)), h2, Option.bind_some]
      · rw [if_neg q1, if_neg q1]
    · rw [if_neg q, ite_t (by rw [nI_leI (by omega) (by omega)]; omega)]
  rw [key]
  constructor
  · rintro ⟨q, q1, q2⟩
    rw [if_pos q, if_pos q1, if_pos q2]
  · intro h
    by_cases q : 2 * i + 1 < c
    · rw [if_pos q]
      by_cases q1 : fqI σ 13 (2 * i) = nI (a i)
      · rw [if_pos q1, if_neg (fun q2 => h ⟨q, q1, q2⟩)]
      · rw [if_neg q1]
    · rw [if_neg q]
theorem st_check (K : Nat) (hK : 1024 < K) : lwS_check Rel K := by
  intro t n sx sm ht hR
  obtain ⟨hn, hNx, hNm⟩ := hR.1
  obtain ⟨w, T, qb, qs, sh, hf, hS, hx, hX, hM⟩ := plan_pre (show t ≤ 512 by omega) hR
  obtain ⟨g, hg5, hg, g1, g2⟩ := go_all (K := K) (by omega) hR
  obtain ⟨c, hc, c1, c2, c3⟩ := hR.2.2.2.2.2.2.2.2.2.2.1
  have hw := hf.1
  have hw2 := p10 hw
  obtain ⟨ux, u1, u2, u3⟩ := copyOf_eq (K := K) (n := n) (by omega) hw hx
  have um : eqW (fun c k => c = 0 ∧ k = 21) sm (fqPI sm 0 21 0) := eqW_PI ⟨rfl, rfl⟩
  have hX' : RowX n 7 w T qb qs sh ux := ⟨by rw [u3.I (by omega)]; exact hX.1, by rw [u3.I (by omega)]; exact hX.2.1, u2, fun p hp l hl => by rw [u3.J (by omega)]; exact hX.2.2.2 p hp l hl⟩
  have hM' : RowM n w T qb qs sh (fqPI sm 0 21 0) := RowM_fr hM um (by omega) (by omega) ⟨by omega, fun k => by omega⟩ (fun l => by omega)
  obtain ⟨N, G, τx, τm, hN, hI, e1, e2⟩ := plan_both hK (Or.inr rfl) hg5 hS hX' hM' (Rb_fr hR.2.2.2.2.1 u3 um (fun k => by omega) (by omega)) (Rt_fr hR.2.2.2.2.2.1 u3 um (by omega) (by omega)) (fun σ e => g1 (fun c k => (c = 7 ∨ c = 8 ∨ c = 9) ∨ c = 13) σ ((u3.mono (fun c k h => Or.inl h)).tr (e.mono (fun c k h => Or.inr h.1))) (fun m hm => by omega)) (fun σ e => g2 (fun c k => (c = 0 ∧ k = 21) ∨ pMW c k) σ ((um.mono (fun c k h => Or.inl h)).tr (e.mono (fun c k h => Or.inr h))) (fun m hm => by unfold pMW; omega))
  obtain ⟨⟨qc, qd, hr, hB⟩, fx, fm, pf, ps, p1, p2, p3, p4, p5⟩ := hI
  have x9 : fqI τx 0 9 = nI c := by rw [fx.I (by unfold pXW; omega), u3.I (by omega)]; exact c1
  have x24 : ∀ j, j < c → fqJ τx 24 j = Int32.toInt64 (fqI τm 13 j) := fun j hj => by
    rw [fx.J (by unfold pXW; omega), u3.J (by omega), fm.I (by unfold pMW; omega), um.I (by omega)]
    exact c3 j hj
  have sX : eqW cXS sx (fqPI τx 0 9 0) := ((u3.mono (fun c k h => by unfold cXS scX; omega)).tr (fx.mono (fun c k h => by unfold pXW at h; unfold cXS scX; omega))).tr (eqW_PI (by unfold cXS; omega))
  have sM : eqW cMS sm τm := (um.mono (fun c k h => by unfold cMS; omega)).tr (fm.mono (fun c k h => by unfold pMW at h; unfold cMS scM; omega))
  have hRel : Rel (t + 1) n (fqPI τx 0 9 0) τm := Rel_ck (Rel_up hR) sX sM ⟨0, by omega, fqI_s _ _ _ _, by rw [fm.I (by unfold pMW; omega), fqI_s]; rfl, fun i hi => absurd hi (by omega)⟩
  have y13 : fqI (fqPI τx 0 9 0) 13 2 = nI N := by rw [fqI_n _ _ _ _ _ _ (by omega)]; exact p1
  have hxX : pX8_check K n sx = pX8_check_L31 K n (nI c) (0, fqPI τx 0 9 0) := by
    unfold pX8_check
    rw [u1, Option.bind_some, e1, Option.bind_some, fqN_eq, x9]
  have hxM : pX9_check K 0 sm = pX9_check_L16 K 0 (nI c) (0, τm) := by
    unfold pX9_check
    rw [fqN_eq, e2, Option.bind_some, c2]
  rw [hxX, hxM]
  have told : ∀ i, i < N → (okTd c (fun j => fqI τm 13 j) (fun i => plB qb (pf i) w) (fun i => plB qb (ps i) w) i → pX8_isTold K n (fqPI τx 0 9 0) (nI i) (nI c) = some 1) ∧ (¬ okTd c (fun j => fqI τm 13 j) (fun i => plB qb (pf i) w) (fun i => plB qb (ps i) w) i → pX8_isTold K n (fqPI τx 0 9 0) (nI i) (nI c) = some 0) := by
    intro i hi
    obtain ⟨a1, a2, _⟩ := p4 i hi
    exact isTold_eq hc (by omega) (fun j hj => by rw [fqJ_PI]; exact x24 j hj) (by rw [fqI_n _ _ _ _ _ _ (by omega)]; exact a1) (by rw [fqI_n _ _ _ _ _ _ (by omega)]; exact a2)
  have tolM : ∀ i, i < N → ∀ rec, (okTd c (fun j => fqI τm 13 j) (fun i => plB qb (pf i) w) (fun i => plB qb (ps i) w) i → pX9_check_L16b K 0 (nI c) rec (nI i) τm = rec (nI (i + 1), τm)) ∧ (¬ okTd c (fun j => fqI τm 13 j) (fun i => plB qb (pf i) w) (fun i => plB qb (ps i) w) i → pX9_check_L16b K 0 (nI c) rec (nI i) τm = some (1 + Int32.toInt64 (nI i), τm)) := by
    intro i hi rec
    obtain ⟨_, _, a3, a4, a5, a6, _⟩ := p4 i hi
    exact chM_eq hc hi (by omega) p2 (by rw [a3]; exact playersOf_eq (by omega) hw hB.2.1.2.2.1 (by omega)) (by rw [a4]; exact playersOf_eq (by omega) hw hB.2.1.2.2.1 (by omega))
  have stepX : ∀ i, i < N → okTd c (fun j => fqI τm 13 j) (fun i => plB qb (pf i) w) (fun i => plB qb (ps i) w) i → ∀ rec, pX8_check_L31b K n (nI c) rec (nI i) (fqPI τx 0 9 0) = rec (nI (i + 1), fqPI τx 0 9 0) := by
    intro i hi ho rec
    unfold pX8_check_L31b
    rw [y13, ite_f (by rw [nI_leI (by omega) (by omega)]; omega), (told i hi).1 ho, Option.bind_some, ite_f (by decide), nI_1]
  rcases Classical.em (∃ i, i < N ∧ ¬ okTd c (fun j => fqI τm 13 j) (fun i => plB qb (pf i) w) (fun i => plB qb (ps i) w) i) with hex | hno
  · obtain ⟨i, ⟨hi, hbad⟩, hmin⟩ := pk_least _ hex
    have hok : ∀ j, j < i → okTd c (fun j => fqI τm 13 j) (fun i => plB qb (pf i) w) (fun i => plB qb (ps i) w) j := fun j hj => Classical.byContradiction (fun q => hmin j hj ⟨by omega, q⟩)
    refine ⟨1 + Int32.toInt64 (nI i), fqPI τx 0 9 0, τm, ?_, ?_, hRel⟩
    · unfold pX8_check_L31
      refine fqL_go (fun j => (nI j, fqPI τx 0 9 0)) i rfl (by omega) ?_ (fun j hj rec => stepX j (by omega) (hok j hj) rec)
      intro rec
      show pX8_check_L31b K n (nI c) rec (nI i) (fqPI τx 0 9 0) = _
      unfold pX8_check_L31b
      rw [y13, ite_f (by rw [nI_leI (by omega) (by omega)]; omega), (told i hi).2 hbad, Option.bind_some, ite_t rfl]
    · unfold pX9_check_L16
      exact fqL_go (fun j => (nI j, τm)) i rfl (by omega) (fun rec => (tolM i hi rec).2 hbad) (fun j hj rec => (tolM j (by omega) rec).1 (hok j hj))
  · have hok : ∀ j, j < N → okTd c (fun j => fqI τm 13 j) (fun i => plB qb (pf i) w) (fun i => plB qb (ps i) w) j := fun j hj => Classical.byContradiction (fun q => hno ⟨j, hj, q⟩)
    have e2 : (2 : Int32) * nI N = nI (2 * N) := by rw [z2, pk_mul]
    refine ⟨(if nI c ≤ nI (2 * N) then 0 else 99), fqPI τx 0 9 0, τm, ?_, ?_, hRel⟩
    · unfold pX8_check_L31
      refine fqL_go (fun j => (nI j, fqPI τx 0 9 0)) N rfl (by omega) ?_ (fun j hj rec => stepX j (by omega) (hok j hj) rec)
      intro rec
      show pX8_check_L31b K n (nI c) rec (nI N) (fqPI τx 0 9 0) = _
      unfold pX8_check_L31b
      rw [y13, ite_t (by rw [nI_leI (by omega) (by omega)]; omega), e2]
      by_cases q : nI c ≤ nI (2 * N)
      · rw [if_pos q, if_pos q]
      · rw [if_neg q, if_neg q]
    · unfold pX9_check_L16
      refine fqL_go (fun j => (nI j, τm)) N rfl (by omega) ?_ (fun j hj rec => (tolM j (by omega) rec).1 (hok j hj))
      intro rec
      show pX9_check_L16b K 0 (nI c) rec (nI N) τm = _
      unfold pX9_check_L16b
      rw [p2, ite_t (by rw [nI_leI (by omega) (by omega)]; omega), e2]
      by_cases q : nI c ≤ nI (2 * N)
      · rw [if_pos q, if_pos q]
      · rw [if_neg q, if_neg q]
