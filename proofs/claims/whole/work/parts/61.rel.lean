/-! what the two objects have to do with each other -/
def Rn (n : Nat) (sx sm : fqS) : Prop := n ≤ 16 ∧ fqI sx 1 2 = nI n ∧ fqI sm 0 1 = nI n
def Rk (sx sm : fqS) (p kd : Nat) : Prop := kd < 3 ∧ fqI sx (26 + 4 * p) 0 = nI kd ∧ fqI sm 2 p = nI kd
def Rh (sx sm : fqS) (p : Nat) (sh : Nat → Nat) : Prop := totN sh 7 = 1000000 ∧ ∀ l, l < 7 → fqJ sx (26 + 4 * p + 1) l = lN (sh l) ∧ fqJ sm 3 (7 * p + l) = lN (sh l)
def Ru (sx sm : fqS) (p kp : Nat) : Prop := kp ≤ 8 ∧ fqI sx (26 + 4 * p) 4 = nI kp ∧ fqI sm 5 p = nI kp ∧ ∀ i, i < kp → fqJ sx (26 + 4 * p + 3) i = fqJ sm 4 (8 * p + i)
def Rp (n : Nat) (sx sm : fqS) : Prop := ∀ p, p < n → (∃ kd, Rk sx sm p kd) ∧ (∃ sh, Rh sx sm p sh) ∧ (∃ kp, Ru sx sm p kp)
def Rz (n : Nat) (sm : fqS) : Prop := ∀ p, n ≤ p → p < 16 → fqI sm 5 p = nI 0
def Rs (sx sm : fqS) : Prop := ∃ T, 1 ≤ T ∧ T ≤ 3 ∧ fqI sx 0 10 = nI T ∧ fqI sm 0 6 = nI T
def Rb (sx sm : fqS) : Prop := ∃ a b c, a ≤ 10000000 ∧ b ≤ 10000000 ∧ c ≤ 10000000 ∧ fqJ sx 23 0 = lN a ∧ fqI sm 0 7 = nI a ∧ fqJ sx 23 1 = lN b ∧ fqI sm 0 8 = nI b ∧ fqJ sx 23 2 = lN c ∧ fqI sm 0 9 = nI c
def Rt (t : Nat) (sx sm : fqS) : Prop := ∃ k, k ≤ t ∧ fqJ sx 0 12 = lN k ∧ fqI sm 0 10 = nI k
def Rqp (n t : Nat) (sx sm : fqS) (w : Nat) (qb qs : Nat → Nat) : Prop := (∀ k, k < w → 0 < qb k ∧ qb k < 2 ^ n ∧ qs k ≤ t ∧ fqI sx 5 k = nI (qb k) ∧ fqI sm 6 k = nI (qb k) ∧ fqJ sx 6 k = lN (qs k) ∧ fqI sm 7 k = nI (qs k)) ∧ (∀ i j, i < w → j < w → i ≠ j → qb i &&& qb j = 0)
def Rq (n t : Nat) (sx sm : fqS) : Prop := ∃ w, w ≤ 10 ∧ fqI sx 4 2 = nI w ∧ fqI sm 0 11 = nI w ∧ ∃ qb qs, Rqp n t sx sm w qb qs
def Rmo (sx sm : fqS) (m : Nat) : Prop := fqI sm 8 m = nI 0 ∧ fqI sx (18 + m) 0 = nI 0 ∧ fqI sx (18 + m) 1 = nI 0 ∧ fqI sx (18 + m) 2 = nI 0
def Rmi (n t : Nat) (sx sm : fqS) (m f s d k : Nat) : Prop := fqI sm 8 m = nI 1 ∧ f < 2 ^ n ∧ s < 2 ^ n ∧ d < 2 ^ n ∧ f &&& s = 0 ∧ (∃ p, f.testBit p = true ∧ d.testBit p = false) ∧ (∃ p, s.testBit p = true ∧ d.testBit p = false) ∧ k ≤ t ∧ fqI sx (18 + m) 0 = nI f ∧ fqI sm 9 m = nI f ∧ fqI sx (18 + m) 1 = nI s ∧ fqI sm 10 m = nI s ∧ fqI sx (18 + m) 2 = nI d ∧ fqI sm 11 m = nI d ∧ fqJ sx (18 + m) 3 = lN k ∧ fqI sm 12 m = nI k
def Rm (n t : Nat) (sx sm : fqS) : Prop := ∀ m, m < 5 → Rmo sx sm m ∨ ∃ f s d k, Rmi n t sx sm m f s d k
def Re (t : Nat) (sx sm : fqS) : Prop := ∃ e, e ≤ t ∧ fqJ sx 16 1 = lN e ∧ fqI sm 0 19 = nI e
def Rl (sx sm : fqS) : Prop := ∃ l, l ≤ 8000000 ∧ fqJ sx 0 11 = lN l ∧ fqI sm 0 20 = nI l
def Rc (sx sm : fqS) : Prop := ∃ c, c ≤ 20 ∧ fqI sx 0 9 = nI c ∧ fqI sm 0 21 = nI c ∧ ∀ i, i < c → fqJ sx 24 i = Int32.toInt64 (fqI sm 13 i)
def Rf (t : Nat) (sx sm : fqS) : Prop := ∀ j, 1 ≤ j → j ≤ 5 → ∃ f, f ≤ t ∧ fqJ sx 25 j = lN f ∧ fqI sm 1 j = nI f
def Rel (t n : Nat) (sx sm : fqS) : Prop := Rn n sx sm ∧ Rp n sx sm ∧ Rz n sm ∧ Rs sx sm ∧ Rb sx sm ∧ Rt t sx sm ∧ Rq n t sx sm ∧ Rm n t sx sm ∧ Re t sx sm ∧ Rl sx sm ∧ Rc sx sm ∧ Rf t sx sm
/-- two states that differ at most where S says -/
def eqW (S : Nat → Nat → Prop) (s s' : fqS) : Prop := ∀ c k, ¬ S c k → fqI s' c k = fqI s c k ∧ fqJ s' c k = fqJ s c k
theorem eqW.rf {S : Nat → Nat → Prop} (s : fqS) : eqW S s s := fun _ _ _ => ⟨rfl, rfl⟩
theorem eqW.tr {S : Nat → Nat → Prop} {a b c : fqS} (h1 : eqW S a b) (h2 : eqW S b c) : eqW S a c := fun q k h => ⟨(h2 q k h).1.trans (h1 q k h).1, (h2 q k h).2.trans (h1 q k h).2⟩
theorem eqW.mono {S S' : Nat → Nat → Prop} {a b : fqS} (h1 : eqW S a b) (h : ∀ c k, S c k → S' c k) : eqW S' a b := fun q k hq => h1 q k (fun z => hq (h q k z))
theorem eqW.I {S : Nat → Nat → Prop} {a b : fqS} (h : eqW S a b) {c k : Nat} (hc : ¬ S c k) : fqI b c k = fqI a c k := (h c k hc).1
theorem eqW.J {S : Nat → Nat → Prop} {a b : fqS} (h : eqW S a b) {c k : Nat} (hc : ¬ S c k) : fqJ b c k = fqJ a c k := (h c k hc).2
theorem eqW_PI {S : Nat → Nat → Prop} {s : fqS} {c k : Nat} {v : Int32} (h : S c k) : eqW S s (fqPI s c k v) := fun c' k' h' => ⟨by rw [fqI_PI, if_neg (fun q => h' (by rw [q.1, q.2]; exact h))], rfl⟩
theorem eqW_PJ {S : Nat → Nat → Prop} {s : fqS} {c k : Nat} {v : Int64} (h : S c k) : eqW S s (fqPJ s c k v) := fun c' k' h' => ⟨rfl, by rw [fqJ_PJ, if_neg (fun q => h' (by rw [q.1, q.2]; exact h))]⟩
/-- the class's cells that the document's state doesn't rest on -/
def scX (c _k : Nat) : Prop := c = 3 ∨ (7 ≤ c ∧ c ≤ 15) ∨ (26 ≤ c ∧ (c - 26) % 4 = 2)
def scM (c k : Nat) : Prop := (14 ≤ c ∧ c ≤ 19) ∨ (c = 0 ∧ (k = 26 ∨ k = 27 ∨ k = 28 ∨ k = 31))
abbrev eqX (s s' : fqS) : Prop := eqW scX s s'
abbrev eqM (s s' : fqS) : Prop := eqW scM s s'
section FR
variable {S S' : Nat → Nat → Prop} {n t : Nat} {sx sm sx' sm' : fqS}
theorem Rn_fr (h : Rn n sx sm) (hx : eqW S sx sx') (hm : eqW S' sm sm') (a : ¬ S 1 2) (b : ¬ S' 0 1) : Rn n sx' sm' := by
  obtain ⟨h1, h2, h3⟩ := h
  exact ⟨h1, by rw [hx.I a]; exact h2, by rw [hm.I b]; exact h3⟩
theorem Rp_fr (h : Rp n sx sm) (hx : eqW S sx sx') (hm : eqW S' sm sm') (a : ∀ p k, p < n → ¬ S (26 + 4 * p) k ∧ ¬ S (26 + 4 * p + 1) k ∧ ¬ S (26 + 4 * p + 3) k) (b : ∀ k, ¬ S' 2 k ∧ ¬ S' 3 k ∧ ¬ S' 4 k ∧ ¬ S' 5 k) : Rp n sx' sm' := by
  intro p hpn
  obtain ⟨⟨kd, k1, k2, k3⟩, ⟨sh, s1, s2⟩, ⟨kp, u1, u2, u3, u4⟩⟩ := h p hpn
  exact ⟨⟨kd, k1, by rw [hx.I (a p _ hpn).1]; exact k2, by rw [hm.I (b _).1]; exact k3⟩, ⟨sh, s1, fun l hl => ⟨by rw [hx.J (a p _ hpn).2.1]; exact (s2 l hl).1, by rw [hm.J (b _).2.1]; exact (s2 l hl).2⟩⟩, ⟨kp, u1, by rw [hx.I (a p _ hpn).1]; exact u2, by rw [hm.I (b _).2.2.2]; exact u3, fun i hi => by rw [hx.J (a p _ hpn).2.2, hm.J (b _).2.2.1]; exact u4 i hi⟩⟩
theorem Rz_fr (h : Rz n sm) (hm : eqW S' sm sm') (b : ∀ k, ¬ S' 5 k) : Rz n sm' := fun p h1 h2 => by rw [hm.I (b p)]; exact h p h1 h2
theorem Rs_fr (h : Rs sx sm) (hx : eqW S sx sx') (hm : eqW S' sm sm') (a : ¬ S 0 10) (b : ¬ S' 0 6) : Rs sx' sm' := by
  obtain ⟨T, h1, h2, h3, h4⟩ := h
  exact ⟨T, h1, h2, by rw [hx.I a]; exact h3, by rw [hm.I b]; exact h4⟩
theorem Rb_fr (h : Rb sx sm) (hx : eqW S sx sx') (hm : eqW S' sm sm') (a : ∀ k, ¬ S 23 k) (b : ¬ S' 0 7 ∧ ¬ S' 0 8 ∧ ¬ S' 0 9) : Rb sx' sm' := by
  obtain ⟨x, y, z, h1, h2, h3, h4, h5, h6, h7, h8, h9⟩ := h
  exact ⟨x, y, z, h1, h2, h3, by rw [hx.J (a _)]; exact h4, by rw [hm.I b.1]; exact h5, by rw [hx.J (a _)]; exact h6, by rw [hm.I b.2.1]; exact h7, by rw [hx.J (a _)]; exact h8, by rw [hm.I b.2.2]; exact h9⟩
theorem Rt_fr (h : Rt t sx sm) (hx : eqW S sx sx') (hm : eqW S' sm sm') (a : ¬ S 0 12) (b : ¬ S' 0 10) : Rt t sx' sm' := by
  obtain ⟨k, h1, h2, h3⟩ := h
  exact ⟨k, h1, by rw [hx.J a]; exact h2, by rw [hm.I b]; exact h3⟩
theorem Rq_fr (h : Rq n t sx sm) (hx : eqW S sx sx') (hm : eqW S' sm sm') (a : ¬ S 4 2 ∧ ∀ k, ¬ S 5 k ∧ ¬ S 6 k) (b : ¬ S' 0 11 ∧ ∀ k, ¬ S' 6 k ∧ ¬ S' 7 k) : Rq n t sx' sm' := by
  obtain ⟨w, h1, h2, h3, qb, qs, h4, h5⟩ := h
  refine ⟨w, h1, by rw [hx.I a.1]; exact h2, by rw [hm.I b.1]; exact h3, qb, qs, fun k hk => ?_, h5⟩
  obtain ⟨g1, g2, g3, g4, g5, g6, g7⟩ := h4 k hk
  exact ⟨g1, g2, g3, by rw [hx.I (a.2 k).1]; exact g4, by rw [hm.I (b.2 k).1]; exact g5, by rw [hx.J (a.2 k).2]; exact g6, by rw [hm.I (b.2 k).2]; exact g7⟩
theorem Rm_fr1 {m : Nat} (h : Rmo sx sm m ∨ ∃ f s d k, Rmi n t sx sm m f s d k) (hx : eqW S sx sx') (hm : eqW S' sm sm') (a : ∀ k, ¬ S (18 + m) k) (b : ∀ c, 8 ≤ c → c ≤ 12 → ¬ S' c m) : Rmo sx' sm' m ∨ ∃ f s d k, Rmi n t sx' sm' m f s d k := by
  rcases h with ⟨g1, g2, g3, g4⟩ | ⟨f, s, d, k, g1, g2, g3, g4, g5, g6, g7, g8, g9, g10, g11, g12, g13, g14, g15, g16⟩
  · exact Or.inl ⟨by rw [hm.I (b 8 (by omega) (by omega))]; exact g1, by rw [hx.I (a _)]; exact g2, by rw [hx.I (a _)]; exact g3, by rw [hx.I (a _)]; exact g4⟩
  · exact Or.inr ⟨f, s, d, k, by rw [hm.I (b 8 (by omega) (by omega))]; exact g1, g2, g3, g4, g5, g6, g7, g8, by rw [hx.I (a _)]; exact g9, by rw [hm.I (b 9 (by omega) (by omega))]; exact g10, by rw [hx.I (a _)]; exact g11, by rw [hm.I (b 10 (by omega) (by omega))]; exact g12, by rw [hx.I (a _)]; exact g13, by rw [hm.I (b 11 (by omega) (by omega))]; exact g14, by rw [hx.J (a _)]; exact g15, by rw [hm.I (b 12 (by omega) (by omega))]; exact g16⟩
theorem Rm_fr (h : Rm n t sx sm) (hx : eqW S sx sx') (hm : eqW S' sm sm') (a : ∀ m k, m < 5 → ¬ S (18 + m) k) (b : ∀ c k, 8 ≤ c → c ≤ 12 → ¬ S' c k) : Rm n t sx' sm' := fun m hm5 => Rm_fr1 (h m hm5) hx hm (fun k => a m k hm5) (fun c h1 h2 => b c m h1 h2)
theorem Re_fr (h : Re t sx sm) (hx : eqW S sx sx') (hm : eqW S' sm sm') (a : ¬ S 16 1) (b : ¬ S' 0 19) : Re t sx' sm' := by
  obtain ⟨k, h1, h2, h3⟩ := h
  exact ⟨k, h1, by rw [hx.J a]; exact h2, by rw [hm.I b]; exact h3⟩
theorem Rl_fr (h : Rl sx sm) (hx : eqW S sx sx') (hm : eqW S' sm sm') (a : ¬ S 0 11) (b : ¬ S' 0 20) : Rl sx' sm' := by
  obtain ⟨k, h1, h2, h3⟩ := h
  exact ⟨k, h1, by rw [hx.J a]; exact h2, by rw [hm.I b]; exact h3⟩
theorem Rc_fr (h : Rc sx sm) (hx : eqW S sx sx') (hm : eqW S' sm sm') (a : ¬ S 0 9 ∧ ∀ k, ¬ S 24 k) (b : ¬ S' 0 21 ∧ ∀ k, ¬ S' 13 k) : Rc sx' sm' := by
  obtain ⟨c, h1, h2, h3, h4⟩ := h
  exact ⟨c, h1, by rw [hx.I a.1]; exact h2, by rw [hm.I b.1]; exact h3, fun i hi => by rw [hx.J (a.2 i), hm.I (b.2 i)]; exact h4 i hi⟩
theorem Rf_fr (h : Rf t sx sm) (hx : eqW S sx sx') (hm : eqW S' sm sm') (a : ∀ k, ¬ S 25 k) (b : ∀ k, ¬ S' 1 k) : Rf t sx' sm' := by
  intro j h1 h2
  obtain ⟨f, g1, g2, g3⟩ := h j h1 h2
  exact ⟨f, g1, by rw [hx.J (a j)]; exact g2, by rw [hm.I (b j)]; exact g3⟩
/-- the relation rests on nothing else -/
theorem Rel_eq (hx : eqX sx sx') (hm : eqM sm sm') (h : Rel t n sx sm) : Rel t n sx' sm' := by
  obtain ⟨hn, hp, hz, hs, hb, ht, hq, hmm, he, hl, hc, hf⟩ := h
  exact ⟨Rn_fr hn hx hm (by unfold scX; omega) (by unfold scM; omega), Rp_fr hp hx hm (fun p k _ => by unfold scX; omega) (fun k => by unfold scM; omega), Rz_fr hz hm (fun k => by unfold scM; omega), Rs_fr hs hx hm (by unfold scX; omega) (by unfold scM; omega), Rb_fr hb hx hm (fun k => by unfold scX; omega) (by unfold scM; omega), Rt_fr ht hx hm (by unfold scX; omega) (by unfold scM; omega), Rq_fr hq hx hm ⟨by unfold scX; omega, fun k => by unfold scX; omega⟩ ⟨by unfold scM; omega, fun k => by unfold scM; omega⟩, Rm_fr hmm hx hm (fun m k _ => by unfold scX; omega) (fun c k _ _ => by unfold scM; omega), Re_fr he hx hm (by unfold scX; omega) (by unfold scM; omega), Rl_fr hl hx hm (by unfold scX; omega) (by unfold scM; omega), Rc_fr hc hx hm ⟨by unfold scX; omega, fun k => by unfold scX; omega⟩ ⟨by unfold scM; omega, fun k => by unfold scM; omega⟩, Rf_fr hf hx hm (fun k => by unfold scX; omega) (fun k => by unfold scM; omega)⟩
end FR
/-- a call more -/
theorem Rel_up {t n : Nat} {sx sm : fqS} (h : Rel t n sx sm) : Rel (t + 1) n sx sm := by
  obtain ⟨hn, hp, hz, hs, hb, ⟨k, k1, k2⟩, ⟨w, w1, w2, w3, qb, qs, w4, w5⟩, hm, ⟨e, e1, e2⟩, hl, hc, hf⟩ := h
  refine ⟨hn, hp, hz, hs, hb, ⟨k, by omega, k2⟩, ⟨w, w1, w2, w3, qb, qs, fun k hk => ?_, w5⟩, fun m hm5 => ?_, ⟨e, by omega, e2⟩, hl, hc, fun j h1 h2 => ?_⟩
  · obtain ⟨g1, g2, g3, g4⟩ := w4 k hk
    exact ⟨g1, g2, by omega, g4⟩
  · rcases hm m hm5 with g | ⟨f, s, d, k, g1, g2, g3, g4, g5, g6, g7, g8, g9⟩
    · exact Or.inl g
    · exact Or.inr ⟨f, s, d, k, g1, g2, g3, g4, g5, g6, g7, by omega, g9⟩
  · obtain ⟨f, g1, g2⟩ := hf j h1 h2
    exact ⟨f, by omega, g2⟩
