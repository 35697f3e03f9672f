/-! Integer.bitCount of a small number -/
theorem and_byte (x m : Nat) : x &&& m = 256 * ((x / 256) &&& (m / 256)) + ((x % 256) &&& (m % 256)) := by
  have h : (x % 2 ^ 8) &&& (m % 2 ^ 8) < 2 ^ 8 := and_lt (Nat.mod_lt _ (by decide))
  show x &&& m = 2 ^ 8 * ((x / 2 ^ 8) &&& (m / 2 ^ 8)) + ((x % 2 ^ 8) &&& (m % 2 ^ 8))
  apply Nat.eq_of_testBit_eq
  intro i
  rw [Nat.testBit_two_pow_mul_add _ h]
  split
  · rename_i q
    rw [Nat.testBit_and, Nat.testBit_and, Nat.testBit_mod_two_pow, Nat.testBit_mod_two_pow]
    simp [q]
  · rename_i q
    rw [Nat.testBit_and, Nat.testBit_and, Nat.testBit_div_two_pow, Nat.testBit_div_two_pow]
    rw [show i - 8 + 8 = i by omega]
def bA (y : Nat) : Nat := y - (y / 2 &&& 85)
def bB (y : Nat) : Nat := (y &&& 51) + (y / 4 &&& 51)
def bC (y : Nat) : Nat := (y + y / 16) % 16
theorem by_A : ∀ l, l < 256 → ((l / 2 &&& 85) ≤ l ∧ (l / 2 &&& 5592405) = (l / 2 &&& 85) ∧ ((128 + l / 2) &&& 85) = (l / 2 &&& 85) ∧ bA l < 256) := by decide +kernel
theorem by_B : ∀ l, l < 256 → ((l &&& 3355443) = (l &&& 51) ∧ (l / 4 &&& 3355443) = (l / 4 &&& 51) ∧ ((64 + l / 4) &&& 51) = (l / 4 &&& 51) ∧ ((128 + l / 4) &&& 51) = (l / 4 &&& 51) ∧ ((192 + l / 4) &&& 51) = (l / 4 &&& 51)) := by decide +kernel
theorem by_C : ∀ l, l < 256 → (bB (bA l) % 16 ≤ 4 ∧ bB (bA l) / 16 ≤ 4 ∧ bC (bB (bA l)) = cntB (fun i => l.testBit i) 8) := by decide +kernel
theorem by_D : ∀ l, l < 256 → (l &&& 986895) = l % 16 ∧ (l &&& 15) = l % 16 := by decide +kernel
theorem sw_A {h l : Nat} (hh : h < 256) (hl : l < 256) : swA (256 * h + l) = 256 * bA h + bA l ∧ ((256 * h + l) / 2 &&& 1431655765) ≤ 256 * h + l := by
  obtain ⟨a1, a2, a3, a4⟩ := by_A l hl
  obtain ⟨b1, b2, b3, b4⟩ := by_A h hh
  have e := and_byte ((256 * h + l) / 2) 1431655765
  rw [show (256 * h + l) / 2 / 256 = h / 2 by omega, show 1431655765 / 256 = 5592405 from rfl, show 1431655765 % 256 = 85 from rfl, b2] at e
  have e2 : ((256 * h + l) / 2 % 256 &&& 85) = (l / 2 &&& 85) := by
    rcases (show h % 2 = 0 ∨ h % 2 = 1 by omega) with q | q
    · rw [show (256 * h + l) / 2 % 256 = l / 2 by omega]
    · rw [show (256 * h + l) / 2 % 256 = 128 + l / 2 by omega, a3]
  rw [e2] at e
  unfold swA bA
  rw [e]
  omega
theorem sw_B {h l : Nat} (hh : h < 256) (hl : l < 256) : swB (256 * h + l) = 256 * bB h + bB l := by
  obtain ⟨a1, a2, a3, a4, a5⟩ := by_B l hl
  obtain ⟨b1, b2, _, _, _⟩ := by_B h hh
  have e := and_byte ((256 * h + l) / 4) 858993459
  have e' := and_byte (256 * h + l) 858993459
  rw [show (256 * h + l) / 4 / 256 = h / 4 by omega, show 858993459 / 256 = 3355443 from rfl, show 858993459 % 256 = 51 from rfl, b2] at e
  rw [show (256 * h + l) / 256 = h by omega, show 858993459 / 256 = 3355443 from rfl, show 858993459 % 256 = 51 from rfl, b1, show (256 * h + l) % 256 = l by omega] at e'
  have e2 : ((256 * h + l) / 4 % 256 &&& 51) = (l / 4 &&& 51) := by
    rcases (show h % 4 = 0 ∨ h % 4 = 1 ∨ h % 4 = 2 ∨ h % 4 = 3 by omega) with q | q | q | q
    · rw [show (256 * h + l) / 4 % 256 = l / 4 by omega]
    · rw [show (256 * h + l) / 4 % 256 = 64 + l / 4 by omega, a3]
    · rw [show (256 * h + l) / 4 % 256 = 128 + l / 4 by omega, a4]
    · rw [show (256 * h + l) / 4 % 256 = 192 + l / 4 by omega, a5]
  rw [e2] at e
  unfold swB bB
  rw [e, e']
  omega
theorem sw_C {h l : Nat} (h1 : h % 16 ≤ 4) (h2 : h / 16 ≤ 4) (l1 : l % 16 ≤ 4) (l2 : l / 16 ≤ 4) : swC (256 * h + l) = 256 * bC h + bC l := by
  obtain ⟨a, b, rfl, ha, hb⟩ : ∃ a b, h = 16 * a + b ∧ a ≤ 4 ∧ b ≤ 4 := ⟨h / 16, h % 16, by omega, h2, h1⟩
  obtain ⟨c, d, rfl, hc, hd⟩ : ∃ c d, l = 16 * c + d ∧ c ≤ 4 ∧ d ≤ 4 := ⟨l / 16, l % 16, by omega, l2, l1⟩
  have e := and_byte (256 * (16 * a + b) + (16 * c + d) + (256 * (16 * a + b) + (16 * c + d)) / 16) 252645135
  have e0 : 256 * (16 * a + b) + (16 * c + d) + (256 * (16 * a + b) + (16 * c + d)) / 16 = 256 * (17 * a + b) + (17 * c + d + 16 * b) := by omega
  rw [show 252645135 / 256 = 986895 from rfl, show 252645135 % 256 = 15 from rfl, (by_D _ (by omega)).1, (by_D _ (by omega)).2] at e
  unfold swC bC
  rw [e, e0]
  rw [show (256 * (17 * a + b) + (17 * c + d + 16 * b)) / 256 = 17 * a + b by omega, show (256 * (17 * a + b) + (17 * c + d + 16 * b)) % 256 = 17 * c + d + 16 * b by omega, show (16 * a + b) / 16 = a by omega, show (16 * c + d) / 16 = c by omega]
  omega
theorem sw_E {x y : Nat} (hx : x ≤ 8) (hy : y ≤ 8) : swE (swD (256 * x + y)) = x + y ∧ swD (256 * x + y) < 65536 := by
  unfold swE swD
  rw [show (256 * x + y) / 256 = x by omega, show (256 * x + y + x) / 65536 = 0 by omega, show (63 : Nat) = 2 ^ 6 - 1 from rfl, Nat.and_two_pow_sub_one_eq_mod]
  omega
theorem sw_all (B : Nat) (hB : B < 65536) : swA B < 65536 ∧ swB (swA B) < 65536 ∧ swC (swB (swA B)) < 65536 ∧ swD (swC (swB (swA B))) < 65536 ∧ swE (swD (swC (swB (swA B)))) = pop B ∧ (B / 2 &&& 1431655765) ≤ B := by
  obtain ⟨h, l, hh, hl, rfl⟩ : ∃ h l, h < 256 ∧ l < 256 ∧ B = 256 * h + l := ⟨B / 256, B % 256, by omega, by omega, by omega⟩
  obtain ⟨a1, a2⟩ := sw_A hh hl
  obtain ⟨_, _, _, x4⟩ := by_A h hh
  obtain ⟨_, _, _, y4⟩ := by_A l hl
  obtain ⟨c1, c2, c3⟩ := by_C h hh
  obtain ⟨d1, d2, d3⟩ := by_C l hl
  have b1 := sw_B x4 y4
  have k1 := sw_C c1 c2 d1 d2
  have p8 : ∀ y : Nat, cntB (fun i => y.testBit i) 8 ≤ 8 := fun y => cntB_le _ 8
  have q1 := p8 h
  have q2 := p8 l
  have ep : pop (256 * h + l) = cntB (fun i => h.testBit i) 8 + cntB (fun i => l.testBit i) 8 := by
    have t : ∀ j, (256 * h + l).testBit j = if j < 8 then l.testBit j else h.testBit (j - 8) := fun j => Nat.testBit_two_pow_mul_add (i := 8) h (by omega) j
    unfold pop
    simp only [cntB, t]
    simp
    omega
  rw [a1, b1, k1]
  rw [c3, d3, ep]
  obtain ⟨s1, s2⟩ := sw_E q1 q2
  exact ⟨by omega, by omega, by omega, s2, s1, a2⟩
theorem ush1 {a : Nat} (h : a < 2 ^ 32) : ((nI a).toUInt32 >>> (((1 : Int32)).toUInt32 &&& Int32.toUInt32 31)).toInt32 = nI (a / 2) := pk_ushrN h 1 1 (by decide)
theorem ush2 {a : Nat} (h : a < 2 ^ 32) : ((nI a).toUInt32 >>> (((2 : Int32)).toUInt32 &&& Int32.toUInt32 31)).toInt32 = nI (a / 4) := pk_ushrN h 2 2 (by decide)
theorem ush4 {a : Nat} (h : a < 2 ^ 32) : ((nI a).toUInt32 >>> (((4 : Int32)).toUInt32 &&& Int32.toUInt32 31)).toInt32 = nI (a / 16) := pk_ushrN h 4 4 (by decide)
theorem ush8 {a : Nat} (h : a < 2 ^ 32) : ((nI a).toUInt32 >>> (((8 : Int32)).toUInt32 &&& Int32.toUInt32 31)).toInt32 = nI (a / 256) := pk_ushrN h 8 8 (by decide)
theorem ush16 {a : Nat} (h : a < 2 ^ 32) : ((nI a).toUInt32 >>> (((16 : Int32)).toUInt32 &&& Int32.toUInt32 31)).toInt32 = nI (a / 65536) := pk_ushrN h 16 16 (by decide)
theorem bitCount_eq (k n : Nat) (σ : fqS) (B : Nat) (hB : B < 65536) : pJ6_bitCount_0f7a4 k n σ (nI B) = some (nI (pop B)) := by
  obtain ⟨b1, b2, b3, b4, b5, b6⟩ := sw_all B hB
  have e1 : nI B - ((((nI B).toUInt32 >>> (((1 : Int32)).toUInt32 &&& Int32.toUInt32 31)).toInt32) &&& (1431655765 : Int32)) = nI (swA B) := by
    rw [ush1 (by omega), show (1431655765 : Int32) = nI 1431655765 from rfl, nI_and, pk_sub b6]
    rfl
  have e2 : ∀ a, a < 65536 → (nI a &&& (858993459 : Int32)) + ((((nI a).toUInt32 >>> (((2 : Int32)).toUInt32 &&& Int32.toUInt32 31)).toInt32) &&& (858993459 : Int32)) = nI (swB a) := by
    intro a ha
    rw [ush2 (by omega), show (858993459 : Int32) = nI 858993459 from rfl, nI_and, nI_and, nI_add]
    rfl
  have e3 : ∀ a, a < 65536 → (nI a + (((nI a).toUInt32 >>> (((4 : Int32)).toUInt32 &&& Int32.toUInt32 31)).toInt32)) &&& (252645135 : Int32) = nI (swC a) := by
    intro a ha
    rw [ush4 (by omega), show (252645135 : Int32) = nI 252645135 from rfl, nI_add, nI_and]
    rfl
  have e4 : ∀ a, a < 65536 → nI a + (((nI a).toUInt32 >>> (((8 : Int32)).toUInt32 &&& Int32.toUInt32 31)).toInt32) = nI (swD a) := by
    intro a ha
    rw [ush8 (by omega), nI_add]
    rfl
  have e5 : ∀ a, a < 65536 → (nI a + (((nI a).toUInt32 >>> (((16 : Int32)).toUInt32 &&& Int32.toUInt32 31)).toInt32)) &&& (63 : Int32) = nI (swE a) := by
    intro a ha
    rw [ush16 (by omega), show (63 : Int32) = nI 63 from rfl, nI_add, nI_and]
    rfl
  unfold pJ6_bitCount_0f7a4
  rw [e1, e2 _ b1, e3 _ b2, e4 _ b3, e5 _ b4, b5]
