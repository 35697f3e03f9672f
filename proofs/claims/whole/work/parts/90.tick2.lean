theorem go_all {t n K : Nat} {sx sm : fqS} (hK : 16 < K) (hR : Rel t n sx sm) : ∃ g, g ≤ 5 ∧ cntB (goX sx) 5 = g ∧ (∀ S σ, eqW S sx σ → (∀ m, m < 5 → ¬ S (18 + m) 0) → pX2_going K n σ = some (nI g)) ∧ ∀ S σ, eqW S sm σ → (∀ m, m < 5 → ¬ S 8 m) → pX9_playing K 0 σ = some (nI g) := by
  have hn := hR.1.1
  have hM := hR.2.2.2.2.2.2.2.1
  refine ⟨cntB (goX sx) 5, cntB_le _ _, rfl, fun S σ e h => ?_, fun S σ e h => ?_⟩
  · rw [going_eq K n σ (by omega)]
    congr 2
    exact cntB_congr (fun m hm => by unfold goX; rw [e.I (h m hm)])
  · rw [playing_eq K σ (by omega)]
    congr 2
    exact cntB_congr (fun m hm => by rw [go_both hn hM hm]; unfold goM; rw [e.I (h m hm)])
def tXS (c k : Nat) : Prop := pXW 4 c k ∨ (18 ≤ c ∧ c ≤ 22) ∨ (c = 0 ∧ k = 12)
def tMS (c k : Nat) : Prop := pMW c k ∨ (8 ≤ c ∧ c ≤ 12) ∨ c = 6 ∨ c = 7 ∨ (c = 0 ∧ (k = 11 ∨ k = 10))
theorem Rel_t {t n : Nat} {sx sm sx' sm' : fqS} (h : Rel t n sx sm) (hx : eqW tXS sx sx') (hm : eqW tMS sm sm') (ht : Rt t sx' sm') (hq : Rq n t sx' sm') (hmm : Rm n t sx' sm') : Rel t n sx' sm' := by
  obtain ⟨hn, hp, hz, hs, hb, _, _, _, he, hl, hc, hf⟩ := h
  exact ⟨Rn_fr hn hx hm (by unfold tXS pXW; omega) (by unfold tMS pMW; omega), Rp_fr hp hx hm (fun p k _ => by unfold tXS pXW; omega) (fun k => by unfold tMS pMW; omega), Rz_fr hz hm (fun k => by unfold tMS pMW; omega), Rs_fr hs hx hm (by unfold tXS pXW; omega) (by unfold tMS pMW; omega), Rb_fr hb hx hm (fun k => by unfold tXS pXW; omega) (by unfold tMS pMW; omega), ht, hq, hmm, Re_fr he hx hm (by unfold tXS pXW; omega) (by unfold tMS pMW; omega), Rl_fr hl hx hm (by unfold tXS pXW; omega) (by unfold tMS pMW; omega), Rc_fr hc hx hm ⟨by unfold tXS pXW; omega, fun k => by unfold tXS pXW; omega⟩ ⟨by unfold tMS pMW; omega, fun k => by unfold tMS pMW; omega⟩, Rf_fr hf hx hm (fun k => by unfold tXS pXW; omega) (fun k => by unfold tMS pMW; omega)⟩
theorem st_tick (K : Nat) (hK : 1024 < K) : lwS_tick Rel K := by
  intro t n sx sm ht hR
  obtain ⟨hn, hNx, hNm⟩ := hR.1
  obtain ⟨w, T, qb, qs, sh, hf, hS, hx, hX, hM⟩ := plan_pre (show t ≤ 512 by omega) hR
  obtain ⟨g, hg5, hg, g1, g2⟩ := go_all (K := K) (by omega) hR
  obtain ⟨tk, tk1, tk2, tk3⟩ := hR.2.2.2.2.2.1
  obtain ⟨N, G, τx, τm, hN, hI, e1, e2⟩ := plan_both hK (Or.inl rfl) hg5 hS hX hM hR.2.2.2.2.1 hR.2.2.2.2.2.1 (fun σ e => g1 _ σ e (fun m hm => by omega)) (fun σ e => g2 _ σ e (fun m hm => by unfold pMW; omega))
  obtain ⟨⟨qc, qd, hr, hB⟩, fx, fm, pf, ps, p1, p2, p3, p4, p5⟩ := hI
  have hw := hf.1
  have hw2 := p10 hw
  have hk1 : fqJ τx 0 12 = lN tk := by rw [fx.J (by unfold pXW; omega)]; exact tk2
  have hk2 : fqI τm 0 10 = nI tk := by rw [fm.I (by unfold pMW; omega)]; exact tk3
  have hRu := Rel_up hR
  have hTI : TI n (t + 1) g N w T 0 qb pf ps τx τm τx τm := by
    refine ⟨eqW.rf _, eqW.rf _, Rm_fr hRu.2.2.2.2.2.2.2.1 fx fm (fun m k hm => by unfold pXW; omega) (fun c k h1 h2 => by unfold pMW; omega), ?_⟩
    rw [Nat.add_zero, ← hg]
    exact cntB_congr (fun m hm => by unfold goX; rw [fx.I (by unfold pXW; omega)])
  obtain ⟨ωx, ωm, w1, w2, w3⟩ := tick_loop hK hn hf hS.1.2.2.1 (show g + N ≤ 5 by omega) hB.2.1.2.2.1 p4 (show tk ≤ t + 1 by omega) hk1 hk2 p1 p2 N 0 (by omega) K K (by omega) (by omega) τx τm hTI
  obtain ⟨v1, v2, v3, v4⟩ := w1
  have hA : gnB pf ps N < 2 ^ w := gnB_lt (fun j hj => ⟨(p4 j hj).2.2.2.2.1, (p4 j hj).2.2.2.2.2.1⟩)
  obtain ⟨e, he1, he2⟩ := cnt_inv (fun i => G.testBit i) w
  obtain ⟨ρ, o1, o2, o3⟩ := outs_eq (K := K) (e := e) hK hw (show gnB pf ps N < 2 ^ 31 by omega) (Qm_fr hB.2.1.2.2.1 v2 ⟨by omega, fun k => by omega⟩) p5 he1 he2
  have hρ31 : fqI ρ 0 31 = nI N := by rw [o3.I (by omega), v2.I (by omega)]; exact p2
  have hρ10 : fqI ρ 0 10 = nI tk := by rw [o3.I (by omega), v2.I (by omega)]; exact hk2
  rw [hρ31, hρ10, nI_1, nI_l (by omega)] at o1
  have fX : eqW tXS sx (fqPJ ωx 0 12 (lN (tk + 1))) := ((fx.mono (fun c k h => Or.inl h)).tr (v1.mono (fun c k h => Or.inr (Or.inl h)))).tr (eqW_PJ (Or.inr (Or.inr ⟨rfl, rfl⟩)))
  have fM : eqW tMS sm (fqPI ρ 0 10 (nI (tk + 1))) := (((fm.mono (fun c k h => Or.inl h)).tr (v2.mono (fun c k h => Or.inr (Or.inl h)))).tr (o3.mono (fun c k h => Or.inr (Or.inr (by omega))))).tr (eqW_PI (Or.inr (Or.inr (by omega))))
  refine ⟨lN N, _, _, ?_, ?_, Rel_t hRu fX fM ⟨tk + 1, by omega, fqJ_s _ _ _ _, fqI_s _ _ _ _⟩ ?_ ?_⟩
  · unfold pX8_tick pX8_tick_L10
    rw [e1, Option.bind_some]
    exact w2
  · unfold pX9_tick pX9_tick_L8
    rw [e2, Option.bind_some]
    exact w3.trans o1
  · have hxq : Qx 4 (rk G w) (fun i => qb (e i)) (fun i => qs (e i)) (fqPJ ωx 0 12 (lN (tk + 1))) := by
      refine Qx_fr (Qx_fr (Qx_congr hB.1.2.2.1 (fun i hi => ?_)) v1 ⟨by omega, fun k => by omega⟩) (eqW_PJ (S := fun c k => c = 0 ∧ k = 12) ⟨rfl, rfl⟩) ⟨by omega, fun k => by omega⟩
      obtain ⟨a1, a2, a3⟩ := he1 i hi
      have b := hr (e i) a1 a2
      rw [show rk G (e i) = i from a3] at b
      exact ⟨b.1.symm, b.2.symm⟩
    have hle : rk G w ≤ w := cntB_le _ _
    refine Rq_of ⟨by omega, fun i hi => ?_, fun i j hi hj hij => ?_⟩ hxq (Qm_fr o2 (eqW_PI (S := fun c k => c = 0 ∧ k = 10) ⟨rfl, rfl⟩) ⟨by omega, fun k => by omega⟩)
    · obtain ⟨a1, a2, a3⟩ := he1 i hi
      obtain ⟨b1, b2, b3⟩ := hf.2.1 (e i) a1
      exact ⟨b1, b2, by omega⟩
    · refine hf.2.2 (e i) (e j) (he1 i hi).1 (he1 j hj).1 (fun q => hij ?_)
      rw [← (he1 i hi).2.2, ← (he1 j hj).2.2, q]
  · refine Rm_fr (Rm_fr v3 (eqW.rf (S := fun _ _ => False) ωx) o3 (fun m k hm => id) (fun c k h1 h2 => by omega)) (eqW_PJ (S := fun c k => c = 0 ∧ k = 12) ⟨rfl, rfl⟩) (eqW_PI (S := fun c k => c = 0 ∧ k = 10) ⟨rfl, rfl⟩) (fun m k hm => by omega) (fun c k h1 h2 => by omega)
