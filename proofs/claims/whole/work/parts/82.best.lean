/-! the least uneven two of a list, and the sets of places -/
section BEST
variable {α β : Type}
def bstS (D : α → α → Nat) (a : α) (s : Option (α × α)) (b : α) : Option (α × α) :=
  match s with
  | none => some (a, b)
  | some c => if D a b < D c.1 c.2 then some (a, b) else some c
def bst1 (D : α → α → Nat) (Q : α → α → Bool) (a : α) (L : List α) (s : Option (α × α)) : Option (α × α) := L.foldl (fun s b => if Q a b then bstS D a s b else s) s
def bst2 (D : α → α → Nat) (P : α → Bool) (Q : α → α → Bool) (M L : List α) (s : Option (α × α)) : Option (α × α) := L.foldl (fun s a => if P a then bst1 D Q a M s else s) s
theorem bstS_map (f : α → β) (D : β → β → Nat) (a b : α) (s : Option (α × α)) : bstS D (f a) (s.map (fun c => (f c.1, f c.2))) (f b) = (bstS (fun x y => D (f x) (f y)) a s b).map (fun c => (f c.1, f c.2)) := by
  cases s with
  | none => rfl
  | some c =>
    show (if D (f a) (f b) < D (f c.1) (f c.2) then _ else _) = Option.map _ (if D (f a) (f b) < D (f c.1) (f c.2) then _ else _)
    by_cases h : D (f a) (f b) < D (f c.1) (f c.2)
    · rw [if_pos h, if_pos h]; rfl
    · rw [if_neg h, if_neg h]; rfl
theorem bst1_map (f : α → β) (D : β → β → Nat) (Q : β → β → Bool) (a : α) : ∀ (L : List α) (s : Option (α × α)), bst1 D Q (f a) (L.map f) (s.map (fun c => (f c.1, f c.2))) = (bst1 (fun x y => D (f x) (f y)) (fun x y => Q (f x) (f y)) a L s).map (fun c => (f c.1, f c.2))
  | [], s => rfl
  | b :: L, s => by
    have ih := bst1_map f D Q a L
    show bst1 D Q (f a) (L.map f) (if Q (f a) (f b) then bstS D (f a) (s.map (fun c => (f c.1, f c.2))) (f b) else s.map (fun c => (f c.1, f c.2))) = Option.map _ (bst1 (fun x y => D (f x) (f y)) (fun x y => Q (f x) (f y)) a L (if Q (f a) (f b) then bstS (fun x y => D (f x) (f y)) a s b else s))
    cases Q (f a) (f b) with
    | true => rw [if_pos rfl, if_pos rfl, bstS_map, ih]
    | false => rw [if_neg (by decide), if_neg (by decide), ih]
theorem bst2_map (f : α → β) (D : β → β → Nat) (P : β → Bool) (Q : β → β → Bool) (M : List α) : ∀ (L : List α) (s : Option (α × α)), bst2 D P Q (M.map f) (L.map f) (s.map (fun c => (f c.1, f c.2))) = (bst2 (fun x y => D (f x) (f y)) (fun x => P (f x)) (fun x y => Q (f x) (f y)) M L s).map (fun c => (f c.1, f c.2))
  | [], s => rfl
  | a :: L, s => by
    have ih := bst2_map f D P Q M L
    show bst2 D P Q (M.map f) (L.map f) (if P (f a) then bst1 D Q (f a) (M.map f) (s.map (fun c => (f c.1, f c.2))) else s.map (fun c => (f c.1, f c.2))) = Option.map _ (bst2 (fun x y => D (f x) (f y)) (fun x => P (f x)) (fun x y => Q (f x) (f y)) M L (if P (f a) then bst1 (fun x y => D (f x) (f y)) (fun x y => Q (f x) (f y)) a M s else s))
    cases P (f a) with
    | true => rw [if_pos rfl, if_pos rfl, bst1_map, ih]
    | false => rw [if_neg (by decide), if_neg (by decide), ih]
/-- a property of the two that are kept -/
theorem bst1_ok {D : α → α → Nat} {Q : α → α → Bool} {a : α} {G : α × α → Prop} : ∀ (L : List α) (s : Option (α × α)), (∀ c, s = some c → G c) → (∀ b, b ∈ L → Q a b = true → G (a, b)) → ∀ c, bst1 D Q a L s = some c → G c
  | [], s, hs, _, c, h => hs c h
  | b :: L, s, hs, hL, c, h => by
    refine bst1_ok L (if Q a b then bstS D a s b else s) ?_ (fun b hb => hL b (List.mem_cons_of_mem _ hb)) c h
    intro c' hc'
    cases hq : Q a b with
    | false => rw [hq, if_neg (by decide)] at hc'; exact hs c' hc'
    | true =>
      rw [hq, if_pos rfl] at hc'
      have hb := hL b List.mem_cons_self hq
      cases s with
      | none => cases hc'; exact hb
      | some d =>
        have e : (if D a b < D d.1 d.2 then some (a, b) else some d) = some c' := hc'
        by_cases z : D a b < D d.1 d.2
        · rw [if_pos z] at e; cases e; exact hb
        · rw [if_neg z] at e; cases e; exact hs _ rfl
theorem bst2_ok {D : α → α → Nat} {P : α → Bool} {Q : α → α → Bool} {G : α × α → Prop} (M : List α) : ∀ (L : List α) (s : Option (α × α)), (∀ c, s = some c → G c) → (∀ a b, a ∈ L → b ∈ M → P a = true → Q a b = true → G (a, b)) → ∀ c, bst2 D P Q M L s = some c → G c
  | [], s, hs, _, c, h => hs c h
  | a :: L, s, hs, hL, c, h => by
    refine bst2_ok M L (if P a then bst1 D Q a M s else s) ?_ (fun a b ha => hL a b (List.mem_cons_of_mem _ ha)) c h
    intro c' hc'
    cases hp : P a with
    | false => rw [hp, if_neg (by decide)] at hc'; exact hs c' hc'
    | true =>
      rw [hp, if_pos rfl] at hc'
      exact bst1_ok M s hs (fun b hb hq => hL a b List.mem_cons_self hb hp hq) c' hc'
theorem bst1_congr {D D' : α → α → Nat} {Q Q' : α → α → Bool} {a : α} {G : α → Prop} (ha : G a) (hD : ∀ x y, G x → G y → D x y = D' x y) (hQ : ∀ x y, G x → G y → Q x y = Q' x y) : ∀ (L : List α) (s : Option (α × α)), (∀ b, b ∈ L → G b) → (∀ c, s = some c → G c.1 ∧ G c.2) → bst1 D Q a L s = bst1 D' Q' a L s
  | [], s, _, _ => rfl
  | b :: L, s, hL, hs => by
    have hb := hL b List.mem_cons_self
    have e : (if Q a b then bstS D a s b else s) = (if Q' a b then bstS D' a s b else s) := by
      rw [hQ a b ha hb]
      cases s with
      | none => rfl
      | some c =>
        have hc := hs c rfl
        show (if Q' a b then (if D a b < D c.1 c.2 then _ else _) else _) = (if Q' a b then (if D' a b < D' c.1 c.2 then _ else _) else _)
        rw [hD a b ha hb, hD c.1 c.2 hc.1 hc.2]
    show bst1 D Q a L (if Q a b then bstS D a s b else s) = bst1 D' Q' a L (if Q' a b then bstS D' a s b else s)
    rw [e]
    refine bst1_congr ha hD hQ L _ (fun b hb => hL b (List.mem_cons_of_mem _ hb)) ?_
    intro c hc
    exact bst1_ok (D := D') (Q := Q') (a := a) (G := fun c => G c.1 ∧ G c.2) [b] s hs (fun b' hb' _ => by
      rw [List.mem_singleton] at hb'; subst hb'; exact ⟨ha, hb⟩) c hc
theorem bst2_congr {D D' : α → α → Nat} {P P' : α → Bool} {Q Q' : α → α → Bool} {G : α → Prop} (hD : ∀ x y, G x → G y → D x y = D' x y) (hP : ∀ x, G x → P x = P' x) (hQ : ∀ x y, G x → G y → Q x y = Q' x y) (M : List α) (hM : ∀ b, b ∈ M → G b) : ∀ (L : List α) (s : Option (α × α)), (∀ b, b ∈ L → G b) → (∀ c, s = some c → G c.1 ∧ G c.2) → bst2 D P Q M L s = bst2 D' P' Q' M L s
  | [], s, _, _ => rfl
  | a :: L, s, hL, hs => by
    have ha := hL a List.mem_cons_self
    have e : (if P a then bst1 D Q a M s else s) = (if P' a then bst1 D' Q' a M s else s) := by
      rw [hP a ha, bst1_congr ha hD hQ M s hM hs]
    show bst2 D P Q M L (if P a then bst1 D Q a M s else s) = bst2 D' P' Q' M L (if P' a then bst1 D' Q' a M s else s)
    rw [e]
    refine bst2_congr hD hP hQ M hM L _ (fun b hb => hL b (List.mem_cons_of_mem _ hb)) ?_
    intro c hc
    cases hp : P' a with
    | false => rw [hp, if_neg (by decide)] at hc; exact hs c hc
    | true =>
      rw [hp, if_pos rfl] at hc
      exact bst1_ok (D := D') (Q := Q') (a := a) (G := fun c => G c.1 ∧ G c.2) M s hs (fun b hb _ => ⟨ha, hM b hb⟩) c hc
theorem bst1_filter (D : α → α → Nat) (Q : α → α → Bool) (t : α → Bool) (a : α) : ∀ (L : List α) (s : Option (α × α)), bst1 D Q a (L.filter t) s = bst1 D (fun x y => t y && Q x y) a L s
  | [], s => rfl
  | b :: L, s => by
    show _ = bst1 D (fun x y => t y && Q x y) a L (if (t b && Q a b) then bstS D a s b else s)
    cases e : t b with
    | true =>
      rw [List.filter_cons_of_pos e]
      exact bst1_filter D Q t a L (if Q a b then bstS D a s b else s)
    | false =>
      rw [List.filter_cons_of_neg (by rw [e]; decide)]
      exact bst1_filter D Q t a L s
theorem bst2_filter (D : α → α → Nat) (P : α → Bool) (Q : α → α → Bool) (t : α → Bool) (M : List α) : ∀ (L : List α) (s : Option (α × α)), bst2 D P Q (M.filter t) (L.filter t) s = bst2 D (fun x => t x && P x) (fun x y => t y && Q x y) M L s
  | [], s => rfl
  | b :: L, s => by
    show _ = bst2 D (fun x => t x && P x) (fun x y => t y && Q x y) M L (if (t b && P b) then bst1 D (fun x y => t y && Q x y) b M s else s)
    cases e : t b with
    | true =>
      rw [List.filter_cons_of_pos e]
      rw [← bst1_filter D Q t b M s]
      exact bst2_filter D P Q t M L (if P b then bst1 D Q b (M.filter t) s else s)
    | false =>
      rw [List.filter_cons_of_neg (by rw [e]; decide)]
      exact bst2_filter D P Q t M L s
theorem bst1_snoc (D : α → α → Nat) (Q : α → α → Bool) (a b : α) (L : List α) (s : Option (α × α)) : bst1 D Q a (L ++ [b]) s = if Q a b then bstS D a (bst1 D Q a L s) b else bst1 D Q a L s := by
  unfold bst1
  rw [List.foldl_append]
  rfl
theorem bst2_snoc (D : α → α → Nat) (P : α → Bool) (Q : α → α → Bool) (M : List α) (a : α) (L : List α) (s : Option (α × α)) : bst2 D P Q M (L ++ [a]) s = if P a then bst1 D Q a M (bst2 D P Q M L s) else bst2 D P Q M L s := by
  unfold bst2
  rw [List.foldl_append]
  rfl
end BEST
/-- the sets of places that stay, beside the sets of places that they were -/
def rk (F w : Nat) : Nat := cntB (fun i => F.testBit i) w
def zL (F : Nat) : Nat → List (Nat × Nat)
  | 0 => [(0, 0)]
  | w + 1 => if F.testBit w then zL F w ++ (zL F w).map (fun z => (2 ^ rk F w + z.1, 2 ^ w + z.2)) else zL F w
theorem rk_t {F w : Nat} (h : F.testBit w = true) : rk F (w + 1) = rk F w + 1 := cnt_up (p := fun i => F.testBit i) h
theorem rk_f {F w : Nat} (h : F.testBit w = false) : rk F (w + 1) = rk F w := cnt_no (p := fun i => F.testBit i) h
theorem rng2 (r : Nat) : List.range (2 ^ (r + 1)) = List.range (2 ^ r) ++ (List.range (2 ^ r)).map (2 ^ r + ·) := by
  rw [show 2 ^ (r + 1) = 2 ^ r + 2 ^ r by rw [Nat.pow_succ]; omega, List.range_add]
theorem zL_fst (F : Nat) : ∀ w, (zL F w).map (fun z => z.1) = List.range (2 ^ rk F w)
  | 0 => rfl
  | w + 1 => by
    have ih := zL_fst F w
    rw [zL]
    cases e : F.testBit w with
    | false => rw [rk_f e, if_neg (by decide), ih]
    | true =>
      rw [rk_t e, if_pos rfl, rng2, List.map_append, ih, List.map_map, ← ih, List.map_map]
      rfl
theorem hiBit {w x k : Nat} (hx : x < 2 ^ w) : (2 ^ w + x).testBit k = (decide (k = w) || x.testBit k) := by
  have h := Nat.testBit_two_pow_mul_add (i := w) 1 hx k
  rw [Nat.mul_one] at h
  rw [h]
  rcases Nat.lt_trichotomy k w with q | q | q
  · rw [if_pos q]; simp [show ¬ k = w by omega]
  · subst q; simp
  · have e : (1 : Nat).testBit (k - w) = false := bit_lt (n := 1) (by decide) (by omega)
    rw [if_neg (by omega), bit_lt hx (by omega), e]
    simp [show ¬ k = w by omega]
theorem adn_hi {w x F : Nat} (hw : w < 31) (hx : x < 2 ^ w) : adn (2 ^ w + x) F = 0 ↔ F.testBit w = true ∧ adn x F = 0 := by
  have h1 : 2 ^ w + x < 2 ^ (w + 1) := by rw [Nat.pow_succ]; omega
  constructor
  · intro h
    have hb := (bits_0 (adn_lt (b := F) h1)).mp h
    refine ⟨?_, (bits_0 (adn_lt (b := F) hx)).mpr (fun i hi => ?_)⟩
    · have q := hb w (by omega)
      rw [adn_bit (by omega), hiBit hx] at q
      simpa using q
    · have q := hb i (by omega)
      rw [adn_bit (by omega), hiBit hx] at q
      rw [adn_bit (by omega)]
      simpa [show ¬ i = w by omega] using q
  · rintro ⟨h2, h3⟩
    refine (bits_0 (adn_lt (b := F) h1)).mpr (fun i hi => ?_)
    rw [adn_bit (by omega), hiBit hx]
    rcases Nat.lt_or_ge i w with q | q
    · have z := (bits_0 (adn_lt (b := F) hx)).mp h3 i q
      rw [adn_bit (by omega)] at z
      simpa [show ¬ i = w by omega] using z
    · rw [show i = w by omega, h2]; simp
theorem zL_snd (F : Nat) : ∀ w, w < 31 → (zL F w).map (fun z => z.2) = (List.range (2 ^ w)).filter (fun a => decide (adn a F = 0))
  | 0, _ => by
    have e : adn 0 F = 0 := by unfold adn; exact Nat.zero_and _
    show [0] = List.filter _ [0]
    rw [List.filter_cons_of_pos (by rw [e]; rfl)]
    rfl
  | w + 1, hw => by
    have ih := zL_snd F w (by omega)
    have hf : ∀ a, a ∈ List.range (2 ^ w) → ((fun a => decide (adn a F = 0)) ∘ (2 ^ w + ·)) a = (F.testBit w && decide (adn a F = 0)) := by
      intro a ha
      have hl := List.mem_range.mp ha
      show decide (adn (2 ^ w + a) F = 0) = _
      have h := adn_hi (F := F) (show w < 31 by omega) hl
      by_cases q : adn (2 ^ w + a) F = 0
      · obtain ⟨q1, q2⟩ := h.mp q
        simp [q, q1, q2]
      · rw [decide_eq_false q]
        cases e : F.testBit w with
        | false => rfl
        | true =>
          have q3 : ¬ adn a F = 0 := fun z => q (h.mpr ⟨e, z⟩)
          simp [q3]
    rw [zL, rng2, List.filter_append, ← ih, List.filter_map, List.filter_congr hf]
    cases e : F.testBit w with
    | false => simp
    | true =>
      rw [if_pos rfl, List.map_append, List.map_map]
      simp only [Bool.true_and]
      rw [← ih, List.map_map]
      rfl
theorem zL_ok (F : Nat) : ∀ (w : Nat) (z : Nat × Nat), z ∈ zL F w → z.1 < 2 ^ rk F w ∧ z.2 < 2 ^ w ∧ ∀ k, k < w → z.2.testBit k = (F.testBit k && z.1.testBit (rk F k))
  | 0, z, h => by
    rw [zL, List.mem_singleton] at h
    subst h
    exact ⟨Nat.two_pow_pos _, Nat.two_pow_pos _, fun k hk => absurd hk (by omega)⟩
  | w + 1, z, h => by
    have ih := zL_ok F w
    have h2 : 2 ^ (w + 1) = 2 ^ w + 2 ^ w := by rw [Nat.pow_succ]; omega
    rw [zL] at h
    cases e : F.testBit w with
    | false =>
      rw [e, if_neg (by decide)] at h
      obtain ⟨a1, a2, a3⟩ := ih z h
      rw [rk_f e]
      refine ⟨a1, by omega, fun k hk => ?_⟩
      rcases Nat.lt_or_ge k w with q | q
      · exact a3 k q
      · rw [show k = w by omega, bit_lt a2 (Nat.le_refl _), e]; rfl
    | true =>
      have h3 : 2 ^ (rk F w + 1) = 2 ^ rk F w + 2 ^ rk F w := by rw [Nat.pow_succ]; omega
      rw [e, if_pos rfl, List.mem_append] at h
      rw [rk_t e]
      rcases h with h | h
      · obtain ⟨a1, a2, a3⟩ := ih z h
        refine ⟨by omega, by omega, fun k hk => ?_⟩
        rcases Nat.lt_or_ge k w with q | q
        · exact a3 k q
        · rw [show k = w by omega, bit_lt a2 (Nat.le_refl _), bit_lt a1 (Nat.le_refl _)]; simp
      · obtain ⟨y, hy, rfl⟩ := List.mem_map.mp h
        obtain ⟨a1, a2, a3⟩ := ih y hy
        refine ⟨by show 2 ^ rk F w + y.1 < _; omega, by show 2 ^ w + y.2 < _; omega, fun k hk => ?_⟩
        show (2 ^ w + y.2).testBit k = (F.testBit k && (2 ^ rk F w + y.1).testBit (rk F k))
        rw [hiBit a2, hiBit a1]
        rcases Nat.lt_or_ge k w with q | q
        · rw [a3 k q]
          cases hk2 : F.testBit k with
          | false => simp [show ¬ k = w by omega]
          | true =>
            have hl : rk F k < rk F w := cnt_lt (p := fun i => F.testBit i) hk2 q
            simp [show ¬ k = w by omega, show ¬ rk F k = rk F w by omega]
        · rw [show k = w by omega, e]; simp
theorem zL_and {F w : Nat} {y z : Nat × Nat} (hy : y ∈ zL F w) (hz : z ∈ zL F w) : (y.1 &&& z.1 = 0) ↔ (y.2 &&& z.2 = 0) := by
  obtain ⟨a1, a2, a3⟩ := zL_ok F w y hy
  obtain ⟨b1, b2, b3⟩ := zL_ok F w z hz
  rw [bits_0 (and_lt (b := z.1) a1), bits_0 (and_lt (b := z.2) a2)]
  constructor
  · intro h k hk
    rw [Nat.testBit_and, a3 k hk, b3 k hk]
    cases e : F.testBit k with
    | false => rfl
    | true =>
      have q := h (rk F k) (cnt_lt (p := fun i => F.testBit i) e hk)
      rw [Nat.testBit_and] at q
      simpa using q
  · intro h i hi
    obtain ⟨k, k1, k2, k3⟩ := cnt_surj (fun i => F.testBit i) w i hi
    have q := h k k1
    have k3' : rk F k = i := k3
    rw [Nat.testBit_and, a3 k k1, b3 k k1, k3', k2] at q
    rw [Nat.testBit_and]
    simpa using q
/-- the players of the parties at some places -/
def plB (qb : Nat → Nat) (s : Nat) : Nat → Nat
  | 0 => 0
  | j + 1 => if s.testBit j then plB qb s j ||| qb j else plB qb s j
theorem zL_pl {F : Nat} {qb qc : Nat → Nat} {s S : Nat} : ∀ {w : Nat}, (∀ k, k < w → S.testBit k = (F.testBit k && s.testBit (rk F k))) → (∀ k, k < w → F.testBit k = true → qc (rk F k) = qb k) → plB qc s (rk F w) = plB qb S w
  | 0, _, _ => rfl
  | w + 1, h1, h2 => by
    have ih := zL_pl (w := w) (fun k hk => h1 k (by omega)) (fun k hk => h2 k (by omega))
    have e1 := h1 w (by omega)
    rw [plB, e1]
    cases e : F.testBit w with
    | false => rw [rk_f e, ih]; rfl
    | true => rw [rk_t e, plB, ih, h2 w (by omega) e, Bool.true_and]
theorem plB_lt {qb : Nat → Nat} {s n : Nat} : ∀ {w : Nat}, (∀ k, k < w → qb k < 2 ^ n) → plB qb s w < 2 ^ n
  | 0, _ => Nat.two_pow_pos n
  | w + 1, h => by
    have ih := plB_lt (s := s) (w := w) (fun k hk => h k (by omega))
    rw [plB]
    split
    · exact or_lt ih (h w (by omega))
    · exact ih
theorem plB_bit {qb : Nat → Nat} {s p : Nat} : ∀ {w : Nat}, (plB qb s w).testBit p = true ↔ ∃ k, k < w ∧ s.testBit k = true ∧ (qb k).testBit p = true
  | 0 => by
    rw [plB, Nat.zero_testBit]
    exact ⟨fun h => by (cases h), fun ⟨k, hk, _⟩ => absurd hk (by omega)⟩
  | w + 1 => by
    have ih := plB_bit (qb := qb) (s := s) (p := p) (w := w)
    rw [plB]
    cases e : s.testBit w with
    | true =>
      rw [if_pos rfl, Nat.testBit_or, Bool.or_eq_true, ih]
      constructor
      · rintro (⟨k, h1, h2, h3⟩ | h)
        · exact ⟨k, by omega, h2, h3⟩
        · exact ⟨w, by omega, e, h⟩
      · rintro ⟨k, h1, h2, h3⟩
        rcases Nat.lt_or_ge k w with q | q
        · exact Or.inl ⟨k, q, h2, h3⟩
        · rw [show k = w by omega] at h3; exact Or.inr h3
    | false =>
      rw [if_neg (by decide), ih]
      constructor
      · rintro ⟨k, h1, h2, h3⟩
        exact ⟨k, by omega, h2, h3⟩
      · rintro ⟨k, h1, h2, h3⟩
        rcases Nat.lt_or_ge k w with q | q
        · exact ⟨k, q, h2, h3⟩
        · rw [show k = w by omega, e] at h2; cases h2
theorem plB_and {n t w : Nat} {qb qs : Nat → Nat} (hf : Qf n t w qb qs) {a b : Nat} (h : a &&& b = 0) : plB qb a w &&& plB qb b w = 0 := by
  apply Nat.eq_of_testBit_eq
  intro p
  rw [Nat.zero_testBit, Nat.testBit_and]
  cases e1 : (plB qb a w).testBit p with
  | false => rfl
  | true =>
    cases e2 : (plB qb b w).testBit p with
    | false => rfl
    | true =>
      obtain ⟨i, i1, i2, i3⟩ := plB_bit.mp e1
      obtain ⟨j, j1, j2, j3⟩ := plB_bit.mp e2
      exfalso
      by_cases q : i = j
      · subst q
        have z : (a &&& b).testBit i = true := by rw [Nat.testBit_and, i2, j2]; rfl
        rw [h, Nat.zero_testBit] at z
        cases z
      · have z : (qb i &&& qb j).testBit p = true := by rw [Nat.testBit_and, i3, j3]; rfl
        rw [hf.2.2 i j i1 j1 q, Nat.zero_testBit] at z
        cases z
