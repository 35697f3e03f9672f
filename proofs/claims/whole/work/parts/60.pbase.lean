/-! pure rows: states, loops, small numbers -/
theorem fqI_PI (σ : fqS) (c k : Nat) (v : Int32) (c' k' : Nat) : fqI (fqPI σ c k v) c' k' = if c' = c ∧ k' = k then v else fqI σ c' k' := by
  unfold fqI fqPI va_up upd
  by_cases h : c' = c
  · subst h
    by_cases h2 : k' = k
    · subst h2; simp
    · simp [h2]
  · simp [h]
theorem fqI_PJ (σ : fqS) (c k : Nat) (v : Int64) (c' k' : Nat) : fqI (fqPJ σ c k v) c' k' = fqI σ c' k' := rfl
theorem fqJ_PI (σ : fqS) (c k : Nat) (v : Int32) (c' k' : Nat) : fqJ (fqPI σ c k v) c' k' = fqJ σ c' k' := rfl
theorem fqJ_PJ (σ : fqS) (c k : Nat) (v : Int64) (c' k' : Nat) : fqJ (fqPJ σ c k v) c' k' = if c' = c ∧ k' = k then v else fqJ σ c' k' := by
  unfold fqJ fqPJ va_up vp_updL
  by_cases h : c' = c
  · subst h
    by_cases h2 : k' = k
    · subst h2; simp
    · simp [h2]
  · simp [h]
theorem fqI_s (σ : fqS) (c k : Nat) (v : Int32) : fqI (fqPI σ c k v) c k = v := by rw [fqI_PI, if_pos ⟨rfl, rfl⟩]
theorem fqJ_s (σ : fqS) (c k : Nat) (v : Int64) : fqJ (fqPJ σ c k v) c k = v := by rw [fqJ_PJ, if_pos ⟨rfl, rfl⟩]
theorem fqI_n (σ : fqS) (c k : Nat) (v : Int32) (c' k' : Nat) (h : ¬ (c' = c ∧ k' = k)) : fqI (fqPI σ c k v) c' k' = fqI σ c' k' := by rw [fqI_PI, if_neg h]
theorem fqJ_n (σ : fqS) (c k : Nat) (v : Int64) (c' k' : Nat) (h : ¬ (c' = c ∧ k' = k)) : fqJ (fqPJ σ c k v) c' k' = fqJ σ c' k' := by rw [fqJ_PJ, if_neg h]
theorem ite_t {α : Sort _} {c : Prop} [Decidable c] {a b : α} (h : c) : (if c then a else b) = a := if_pos h
theorem ite_f {α : Sort _} {c : Prop} [Decidable c] {a b : α} (h : ¬ c) : (if c then a else b) = b := if_neg h
theorem fqN_eq {γ : Type} (x : fqS) (f : fqS → Option γ) : fqN x f = f x := rfl
theorem fqB2_some {α β γ : Type} (a : α) (b : β) (f : α → β → Option γ) : fqB2 (some (a, b)) f = f a b := rfl
theorem fqM_none {α : Type} (a : Option α) (b : Nat → Option α) : fqM none a b = a := rfl
theorem fqM_some {α : Type} (p : Nat) (a : Option α) (b : Nat → Option α) : fqM (some p) a b = b p := rfl
/-- a loop that goes through the states st 0, st 1, .., st N and ends there -/
theorem fqL_at {S α : Type} {body : (S → Option α) → S → Option α} (st : Nat → S) {r : Option α} {N : Nat} (hx : ∀ rec, body rec (st N) = r) (hs : ∀ j, j < N → ∀ rec, body rec (st j) = rec (st (j + 1))) : ∀ (k i : Nat), i ≤ N → N - i < k → fqL body k (st i) = r := by
  intro k
  induction k with
  | zero => intro i h1 h2; exact absurd h2 (by omega)
  | succ k ih =>
    intro i h1 h2
    show body (fqL body k) (st i) = r
    rcases Nat.lt_or_ge i N with h | h
    · rw [hs i h]; exact ih (i + 1) h (by omega)
    · rw [show i = N by omega]; exact hx _
theorem fqL_go {S α : Type} {body : (S → Option α) → S → Option α} (st : Nat → S) {r : Option α} (N : Nat) {k : Nat} {s0 : S} (h0 : s0 = st 0) (hk : N < k) (hx : ∀ rec, body rec (st N) = r) (hs : ∀ j, j < N → ∀ rec, body rec (st j) = rec (st (j + 1))) : fqL body k s0 = r := by
  subst h0
  exact fqL_at st hx hs k 0 (by omega) (by omega)
-- small ints
theorem z0 : (0 : Int32) = nI 0 := rfl
theorem z1 : (1 : Int32) = nI 1 := rfl
theorem z2 : (2 : Int32) = nI 2 := rfl
theorem z3 : (3 : Int32) = nI 3 := rfl
theorem z4 : (4 : Int32) = nI 4 := rfl
theorem z5 : (5 : Int32) = nI 5 := rfl
theorem z6 : (6 : Int32) = nI 6 := rfl
theorem z7 : (7 : Int32) = nI 7 := rfl
theorem z8 : (8 : Int32) = nI 8 := rfl
theorem z10 : (10 : Int32) = nI 10 := rfl
theorem z16 : (16 : Int32) = nI 16 := rfl
theorem z20 : (20 : Int32) = nI 20 := rfl
theorem z112 : (112 : Int32) = nI 112 := rfl
theorem z175 : (175 : Int32) = nI 175 := rfl
theorem z1023 : (1023 : Int32) = nI 1023 := rfl
theorem nI_lt0 {a : Nat} (h : a < 2 ^ 31) : (nI a < nI 0) ↔ False := ⟨fun q => absurd q (by rw [nI_0]; exact nI_pos h), False.elim⟩
theorem nI_n0 {a : Nat} (h : a < 2 ^ 31) : (nI a < 0) ↔ False := ⟨fun q => absurd q (nI_pos h), False.elim⟩
theorem nI_e0 {a : Nat} (h : a < 2 ^ 31) : (nI a = 0) ↔ a = 0 := by rw [z0, nI_eq h (by omega)]
theorem nI_p0 {a : Nat} (h : a < 2 ^ 31) : (0 ≤ nI a) ↔ True := ⟨fun _ => trivial, fun _ => nI_pos' h⟩
theorem nI_l0 {a : Nat} (h : a < 2 ^ 31) : (nI a ≤ 0) ↔ a = 0 := by rw [z0, nI_leI h (by omega)]; omega
theorem nI_g0 {a : Nat} (h : a < 2 ^ 31) : (0 < nI a) ↔ 0 < a := by rw [z0, nI_ltI (by omega) h]
theorem c10 : ((1 : Int32) = 0) = False := by simp
theorem c00 : ((0 : Int32) = 0) = True := by simp
def sumJ (f : Nat → Int64) : Nat → Int64
  | 0 => 0
  | n + 1 => sumJ f n + f n
theorem sumJ_congr {f g : Nat → Int64} : ∀ {n : Nat}, (∀ i, i < n → f i = g i) → sumJ f n = sumJ g n
  | 0, _ => rfl
  | n + 1, h => by rw [sumJ, sumJ, sumJ_congr (fun i hi => h i (by omega)), h n (by omega)]
theorem sumJ_add (f : Nat → Int64) (a : Int64) : ∀ n, a + sumJ f n = Nat.rec a (fun i s => s + f i) n
  | 0 => by show a + 0 = a; rw [Int64.add_zero]
  | n + 1 => by
    show a + (sumJ f n + f n) = _
    rw [← Int64.add_assoc, sumJ_add f a n]
def totN (f : Nat → Nat) : Nat → Nat
  | 0 => 0
  | n + 1 => totN f n + f n
theorem totN_congr {f g : Nat → Nat} : ∀ {n : Nat}, (∀ i, i < n → f i = g i) → totN f n = totN g n
  | 0, _ => rfl
  | n + 1, h => by rw [totN, totN, totN_congr (fun i hi => h i (by omega)), h n (by omega)]
theorem sumJ_lN {f : Nat → Int64} {g : Nat → Nat} : ∀ {n : Nat}, (∀ i, i < n → f i = lN (g i)) → sumJ f n = lN (totN g n)
  | 0, _ => rfl
  | n + 1, h => by rw [sumJ, totN, sumJ_lN (fun i hi => h i (by omega)), h n (by omega), lN_add]
theorem totN_le_part (f : Nat → Nat) : ∀ {n i : Nat}, i < n → f i ≤ totN f n
  | 0, _, h => absurd h (by omega)
  | n + 1, i, h => by
    rw [totN]
    rcases Nat.lt_or_ge i n with q | q
    · have := totN_le_part f q; omega
    · rw [show i = n by omega]; omega
theorem ownMean_eq (k n : Nat) (σ : fqS) (p : Nat) (hk : 7 < k) : pX5_ownMean k n σ p = some (sumJ (fun l => Int32.toInt64 (nI l) * fqJ σ (26 + 4 * p + 1) l) 7) := by
  unfold pX5_ownMean pX5_ownMean_L4
  refine fqL_go (fun j => (sumJ (fun l => Int32.toInt64 (nI l) * fqJ σ (26 + 4 * p + 1) l) j, nI j)) 7 rfl hk ?_ ?_
  · intro rec
    simp (disch := omega) only [pX5_ownMean_L4b, z7, nI_leI, ite_t]
  · intro j hj rec
    simp (disch := omega) only [pX5_ownMean_L4b, z7, z0, z1, nI_leI, nI_lt0, false_or, nI_clamp, nI_add, ite_t, ite_f, sumJ]
theorem meanOf_eq (k : Nat) (σ : fqS) (p : Nat) (hp : p < 16) (hk : 7 < k) : pX9_meanOf k 0 σ (nI p) = some (sumJ (fun l => Int32.toInt64 (nI l) * fqJ σ 3 (7 * p + l)) 7) := by
  unfold pX9_meanOf pX9_meanOf_L5
  refine fqL_go (fun j => (sumJ (fun l => Int32.toInt64 (nI l) * fqJ σ 3 (7 * p + l)) j, nI j)) 7 rfl hk ?_ ?_
  · intro rec
    simp (disch := omega) only [pX9_meanOf_L5b, z7, nI_leI, ite_t]
  · intro j hj rec
    simp (disch := omega) only [pX9_meanOf_L5b, z7, z0, z1, nI_leI, nI_lt0, false_or, nI_clamp, nI_add, pk_mul, ite_t, ite_f, sumJ]
