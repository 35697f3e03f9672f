/-! moving a table: numbers -/
theorem totN_mono (d : Nat → Nat) (j : Nat) : ∀ m, totN d j ≤ totN d (j + m)
  | 0 => Nat.le_refl _
  | m + 1 => by
    have e : totN d (j + (m + 1)) = totN d (j + m) + d (j + m) := rfl
    have := totN_mono d j m
    omega
theorem lft_N {d : Nat → Int64} {dn : Nat → Nat} (e : ∀ l, l < 7 → d l = lN (dn l)) (ht : totN dn 7 ≤ 1000000) : ∀ j, j ≤ 7 → lft d j = lN (1000000 - totN dn j)
  | 0, _ => rfl
  | j + 1, hj => by
    have m := totN_mono dn (j + 1) (7 - (j + 1))
    rw [show j + 1 + (7 - (j + 1)) = 7 by omega] at m
    have e2 : totN dn (j + 1) = totN dn j + dn j := rfl
    rw [lft, lft_N e ht j (by omega), e j (by omega), lN_sub (by omega)]
    congr 1
    omega
theorem pick {P : Nat → (Nat → Nat) → Prop} {n : Nat} (h : ∀ p, p < n → ∃ s, P p s) : ∃ SH : Nat → Nat → Nat, ∀ p, p < n → P p (SH p) := ⟨fun p => if q : p < n then Classical.choose (h p q) else fun _ => 0, fun p q => by
  have e : (if q : p < n then Classical.choose (h p q) else fun _ => 0) = Classical.choose (h p q) := dif_pos q
  show P p (if q : p < n then Classical.choose (h p q) else fun _ => 0)
  rw [e]
  exact Classical.choose_spec (h p q)⟩
def sumN (B : Nat) (f : Nat → Nat) : Nat → Nat
  | 0 => 0
  | j + 1 => if B.testBit j then sumN B f j + f j else sumN B f j
theorem sumB_N {B : Nat} {f : Nat → Int64} {g : Nat → Nat} : ∀ {m : Nat}, (∀ i, i < m → B.testBit i = true → f i = lN (g i)) → sumB B f m = lN (sumN B g m)
  | 0, _ => rfl
  | m + 1, h => by
    rw [sumB, sumN, sumB_N (fun i hi => h i (by omega))]
    cases e : B.testBit m with
    | true =>
      rw [h m (by omega) e]
      exact lN_add _ _
    | false => rfl
theorem sumN_bd {B a b : Nat} {g : Nat → Nat} (h : ∀ i, B.testBit i = true → a ≤ g i ∧ g i ≤ b) : ∀ m, a * cntB (fun i => B.testBit i) m ≤ sumN B g m ∧ sumN B g m ≤ b * cntB (fun i => B.testBit i) m
  | 0 => ⟨Nat.le_refl _, Nat.le_refl _⟩
  | m + 1 => by
    obtain ⟨h1, h2⟩ := sumN_bd h m
    rw [sumN, cntB]
    cases e : B.testBit m with
    | true =>
      obtain ⟨q1, q2⟩ := h m e
      rw [if_pos rfl, if_pos rfl, Nat.mul_add, Nat.mul_add, Nat.mul_one, Nat.mul_one]
      omega
    | false =>
      rw [if_neg (by decide), if_neg (by decide), Nat.add_zero]
      exact ⟨h1, h2⟩
def odN (l m : Nat) : Nat := 500 + 70 * l - 70 * m
theorem odC_N : ∀ l, l < 7 → ∀ m, m < 7 → odC l m = lN (odN l m) := by decide
theorem odN_bd {l m : Nat} (hl : l < 7) (hm : m < 7) : 80 ≤ odN l m ∧ odN l m ≤ 920 := by unfold odN; omega
theorem totN_bd {sh g : Nat → Nat} {a b : Nat} : ∀ {j : Nat}, (∀ m, m < j → a ≤ g m ∧ g m ≤ b) → a * totN sh j ≤ totN (fun m => sh m * g m) j ∧ totN (fun m => sh m * g m) j ≤ b * totN sh j
  | 0, _ => ⟨Nat.le_refl _, Nat.le_refl _⟩
  | j + 1, h => by
    obtain ⟨h1, h2⟩ := totN_bd (sh := sh) (j := j) (fun m hm => h m (by omega))
    obtain ⟨q1, q2⟩ := h j (by omega)
    have m1 := Nat.mul_le_mul_left (sh j) q1
    have m2 := Nat.mul_le_mul_left (sh j) q2
    rw [totN, totN, Nat.mul_add, Nat.mul_add, Nat.mul_comm a (sh j), Nat.mul_comm b (sh j)]
    omega
theorem cAt_N {S : Nat → Nat → Int64} {n B l : Nat} (hn : n ≤ 16) (hB : B < 2 ^ n) (h0 : B ≠ 0) (hl : l < 7) (hS : ∀ p, p < n → ∃ sh, totN sh 7 = 1000000 ∧ ∀ l, l < 7 → S p l = lN (sh l)) : ∃ c, 80000 ≤ c ∧ c ≤ 920000 ∧ cAt S B l = lN c := by
  obtain ⟨SH, hSH⟩ := pick hS
  have hp := pop_pos hn hB h0
  have hp2 := pop_le B
  have e : ∀ i, i < 16 → B.testBit i = true → oddS S l i = lN (totN (fun m => SH i m * odN l m) 7) := by
    intro i _ hb
    obtain ⟨_, s2⟩ := hSH i (bit_in hB hb)
    unfold oddS
    exact sumJ_lN (fun m hm => by rw [s2 m hm, odC_N l hl m hm, lN_mul])
  have bd : ∀ i, B.testBit i = true → 80000000 ≤ totN (fun m => SH i m * odN l m) 7 ∧ totN (fun m => SH i m * odN l m) 7 ≤ 920000000 := by
    intro i hb
    obtain ⟨s1, _⟩ := hSH i (bit_in hB hb)
    have q := totN_bd (sh := SH i) (g := fun m => odN l m) (a := 80) (b := 920) (j := 7) (fun m hm => odN_bd hl hm)
    rw [s1] at q
    omega
  obtain ⟨q1, q2⟩ := sumN_bd bd 16
  have ep : cntB (fun i => B.testBit i) 16 = pop B := rfl
  rw [ep] at q1 q2
  refine ⟨sumN B (fun i => totN (fun m => SH i m * odN l m) 7) 16 / (1000 * pop B), ?_, ?_, ?_⟩
  · rw [Nat.le_div_iff_mul_le (by omega)]
    omega
  · apply Nat.div_le_of_le_mul
    rw [show 1000 * pop B * 920000 = 920000000 * pop B by omega]
    exact q2
  · unfold cAt
    rw [sumB_N e, show (1000 : Int64) = lN 1000 from rfl, lN_mul, pk_lDiv (by omega) (by omega) (by omega)]
def fac (r : Nat) (c : Int64) : Int64 := if r = 2 then c else if r = 1 then c * (1000000 - c) / 1000000 else 1000000 - c
theorem fac_N {r c : Nat} (h1 : 80000 ≤ c) (h2 : c ≤ 920000) : ∃ f, 1 ≤ f ∧ f ≤ 1000000 ∧ fac r (lN c) = lN f := by
  have es : (1000000 : Int64) - lN c = lN (1000000 - c) := lN_sub (a := 1000000) (by omega)
  unfold fac
  by_cases e2 : r = 2
  · rw [if_pos e2]; exact ⟨c, by omega, by omega, rfl⟩
  · rw [if_neg e2]
    by_cases e1 : r = 1
    · have lo : 80000 * 80000 ≤ c * (1000000 - c) := Nat.mul_le_mul h1 (by omega)
      have hi : c * (1000000 - c) ≤ 920000 * 920000 := Nat.mul_le_mul h2 (by omega)
      rw [if_pos e1, es, lN_mul]
      refine ⟨c * (1000000 - c) / 1000000, ?_, ?_, pk_lDiv (b := 1000000) (by omega) (by omega) (by omega)⟩
      · omega
      · omega
    · rw [if_neg e1]; exact ⟨1000000 - c, by omega, by omega, es⟩
def mvAll (T F : Nat → Int64) : Int64 := sumJ (fun l => T l * F l) 7
def mvQ (T F : Nat → Int64) (l : Nat) : Int64 := T l * F l * 1000000 / mvAll T F
def grt (q : Nat → Int64) : Nat → Nat
  | 0 => 0
  | j + 1 => if q j ≤ q (grt q j) then grt q j else j
def mv (T F : Nat → Int64) (l : Nat) : Int64 := if l = grt (mvQ T F) 7 then mvQ T F l + lft (mvQ T F) 7 else mvQ T F l
theorem grt_lt (q : Nat → Int64) : ∀ {j : Nat}, 0 < j → grt q j < j
  | 0, h => absurd h (by omega)
  | j + 1, _ => by
    rw [grt]
    split
    · rcases Nat.eq_zero_or_pos j with e | e
      · subst e; exact Nat.zero_lt_one
      · have := grt_lt q e; omega
    · omega
theorem grt_congr {q q' : Nat → Int64} : ∀ {j : Nat}, (∀ i, i < j → q i = q' i) → grt q j = grt q' j
  | 0, _ => rfl
  | j + 1, h => by
    have ih := grt_congr (j := j) (fun i hi => h i (by omega))
    have b : grt q' j < j + 1 := by
      rcases Nat.eq_zero_or_pos j with e | e
      · subst e; exact Nat.zero_lt_one
      · have := grt_lt q' e; omega
    rw [grt, grt, ih, h j (by omega), h _ b]
theorem mvQ_congr {T T' F F' : Nat → Int64} (h : ∀ l, l < 7 → T l = T' l) (h2 : ∀ l, l < 7 → F l = F' l) {l : Nat} (hl : l < 7) : mvQ T F l = mvQ T' F' l := by
  have e : mvAll T F = mvAll T' F' := sumJ_congr (fun i hi => by rw [h i hi, h2 i hi])
  unfold mvQ
  rw [e, h l hl, h2 l hl]
theorem mv_congr {T T' F F' : Nat → Int64} (h : ∀ l, l < 7 → T l = T' l) (h2 : ∀ l, l < 7 → F l = F' l) {l : Nat} (hl : l < 7) : mv T F l = mv T' F' l := by
  have e : ∀ i, i < 7 → mvQ T F i = mvQ T' F' i := fun i hi => mvQ_congr h h2 hi
  unfold mv
  rw [e l hl, grt_congr e, lft_congr e]
theorem mv_N {T F : Nat → Int64} {sh fa : Nat → Nat} (hT : ∀ l, l < 7 → T l = lN (sh l)) (hs : totN sh 7 = 1000000) (hF : ∀ l, l < 7 → F l = lN (fa l)) (hf : ∀ l, l < 7 → 1 ≤ fa l ∧ fa l ≤ 1000000) : 0 < mvAll T F ∧ mvAll T F ≠ 0 ∧ ∃ sh', totN sh' 7 = 1000000 ∧ ∀ l, l < 7 → mv T F l = lN (sh' l) := by
  obtain ⟨A, hA⟩ : ∃ A, A = totN (fun l => sh l * fa l) 7 := ⟨_, rfl⟩
  have bd := totN_bd (sh := sh) (g := fa) (a := 1) (b := 1000000) (j := 7) hf
  rw [← hA, hs] at bd
  have eA : mvAll T F = lN A := by
    rw [hA]
    exact sumJ_lN (fun l hl => by rw [hT l hl, hF l hl, lN_mul])
  obtain ⟨q, hq⟩ : ∃ q : Nat → Nat, ∀ l, q l = sh l * fa l * 1000000 / A := ⟨_, fun _ => rfl⟩
  have eq1 : ∀ l, l < 7 → mvQ T F l = lN (q l) := by
    intro l hl
    have h1 : sh l * fa l ≤ A := by rw [hA]; exact totN_le_part (fun l => sh l * fa l) hl
    unfold mvQ
    rw [eA, hT l hl, hF l hl, lN_mul, show (1000000 : Int64) = lN 1000000 from rfl, lN_mul, pk_lDiv (by omega) (by omega) (by omega), hq l]
  have tq : ∀ j, totN q j * A ≤ totN (fun l => sh l * fa l) j * 1000000 := by
    intro j
    induction j with
    | zero => exact Nat.le_of_eq (by simp [totN])
    | succ j ih =>
      have d := Nat.div_mul_le_self (sh j * fa j * 1000000) A
      rw [← hq j] at d
      rw [totN, totN, Nat.add_mul, Nat.add_mul]
      omega
  have t7 : totN q 7 ≤ 1000000 := by
    have h := tq 7
    rw [← hA, Nat.mul_comm A] at h
    exact Nat.le_of_mul_le_mul_right h (by omega)
  have el := lft_N eq1 t7 7 (Nat.le_refl _)
  have hg := grt_lt (mvQ T F) (j := 7) (by omega)
  refine ⟨by rw [eA]; exact (pk_lLT (a := 0) (by omega) (by omega)).mpr (by omega), by rw [eA]; exact fun z => absurd ((pk_lEQ (b := 0) (by omega) (by omega)).mp z) (by omega), va_up q (grt (mvQ T F) 7) (q (grt (mvQ T F) 7) + (1000000 - totN q 7)), ?_, fun l hl => ?_⟩
  · have u := totN_up q (q (grt (mvQ T F) 7) + (1000000 - totN q 7)) _ hg
    omega
  · unfold mv
    by_cases e : l = grt (mvQ T F) 7
    · rw [if_pos e, eq1 l hl, el, lN_add, e, va_up_self]
    · rw [if_neg e, eq1 l hl, va_up_ne _ _ e]
