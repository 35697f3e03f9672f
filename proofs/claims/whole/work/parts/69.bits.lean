/-! bits of small numbers -/
theorem nI_bv (a : Nat) : (nI a).toBitVec = BitVec.ofNat 32 a := rfl
theorem nI_and (a b : Nat) : nI a &&& nI b = nI (a &&& b) := by
  apply Int32.toBitVec_inj.mp
  rw [Int32.toBitVec_and, nI_bv, nI_bv, nI_bv]
  apply BitVec.eq_of_getLsbD_eq
  intro i hi
  simp [hi]
theorem nI_or (a b : Nat) : nI a ||| nI b = nI (a ||| b) := by
  apply Int32.toBitVec_inj.mp
  rw [Int32.toBitVec_or, nI_bv, nI_bv, nI_bv]
  apply BitVec.eq_of_getLsbD_eq
  intro i hi
  simp [hi]
theorem nI_xor (a b : Nat) : nI a ^^^ nI b = nI (a ^^^ b) := by
  apply Int32.toBitVec_inj.mp
  rw [Int32.toBitVec_xor, nI_bv, nI_bv, nI_bv]
  apply BitVec.eq_of_getLsbD_eq
  intro i hi
  simp [hi]
def adn (a b : Nat) : Nat := a &&& (b ^^^ (2 ^ 32 - 1))
theorem nI_adn (a b : Nat) : nI a &&& (nI b ^^^ (-1)) = nI (adn a b) := by
  rw [show (-1 : Int32) = nI (2 ^ 32 - 1) from rfl, nI_xor, nI_and]
  rfl
theorem adn_bit {a b i : Nat} (h : i < 32) : (adn a b).testBit i = (a.testBit i && !b.testBit i) := by
  unfold adn
  rw [Nat.testBit_and, Nat.testBit_xor, Nat.testBit_two_pow_sub_one]
  simp [h]
theorem bit_lt {a n i : Nat} (h : a < 2 ^ n) (hi : n ≤ i) : a.testBit i = false := Nat.testBit_lt_two_pow (Nat.lt_of_lt_of_le h (Nat.pow_le_pow_right (by omega) hi))
theorem and_lt {a b n : Nat} (h : a < 2 ^ n) : a &&& b < 2 ^ n := Nat.lt_of_le_of_lt Nat.and_le_left h
theorem or_lt {a b n : Nat} (h : a < 2 ^ n) (h2 : b < 2 ^ n) : a ||| b < 2 ^ n := Nat.or_lt_two_pow h h2
theorem adn_lt {a b n : Nat} (h : a < 2 ^ n) : adn a b < 2 ^ n := and_lt h
theorem sh31 : ∀ n, n < 32 → ((nI n &&& 31).toBitVec.smod 32).toNat = n := by decide
theorem nI_shr1 {B p : Nat} (hB : B < 2 ^ 31) (hp : p < 32) : nI B >>> (nI p &&& 31) = nI (B / 2 ^ p) := pk_shrN hB _ p (sh31 p hp)
theorem nI_one {p : Nat} (hp : p < 31) : (1 : Int32) <<< (nI p &&& 31) = nI (2 ^ p) := by
  have h : 2 ^ p < 2 ^ 31 := Nat.pow_lt_pow_right (by omega) hp
  have e := pk_shlN (n := 1) (nI p &&& 31) p (sh31 p (by omega)) (by omega)
  rw [Nat.one_mul] at e
  exact e
theorem nI_bit {B p : Nat} (hB : B < 2 ^ 31) (hp : p < 32) : (nI B >>> (nI p &&& 31)) &&& 1 = nI (if B.testBit p then 1 else 0) := by
  rw [nI_shr1 hB hp, z1, nI_and, Nat.and_one_is_mod, Nat.testBit_eq_decide_div_mod_eq]
  congr 1
  by_cases h : B / 2 ^ p % 2 = 1
  · rw [h]; simp
  · rw [if_neg (by simpa using h)]; omega
theorem nI_bit1 {B p : Nat} (hB : B < 2 ^ 31) (hp : p < 32) : ((nI B >>> (nI p &&& 31)) &&& 1 = 1) ↔ B.testBit p = true := by
  rw [nI_bit hB hp]
  cases B.testBit p with
  | true => exact ⟨fun _ => rfl, fun _ => rfl⟩
  | false => exact ⟨fun h => absurd h (by decide), fun h => absurd h (by decide)⟩
theorem nI_bit0 {B p : Nat} (hB : B < 2 ^ 31) (hp : p < 32) : ((nI B >>> (nI p &&& 31)) &&& 1 = 0) ↔ B.testBit p = false := by
  rw [nI_bit hB hp]
  cases B.testBit p with
  | true => exact ⟨fun h => absurd h (by decide), fun h => absurd h (by decide)⟩
  | false => exact ⟨fun _ => rfl, fun _ => rfl⟩
theorem hasBit_t {k n : Nat} {σ : fqS} {B p : Nat} (hB : B < 2 ^ 31) (hp : p < 32) (h : B.testBit p = true) : pX8_hasBit k n σ (nI B) (nI p) = some 1 := by
  unfold pX8_hasBit
  rw [if_pos ((nI_bit1 hB hp).mpr h)]
theorem hasBit_f {k n : Nat} {σ : fqS} {B p : Nat} (hB : B < 2 ^ 31) (hp : p < 32) (h : B.testBit p = false) : pX8_hasBit k n σ (nI B) (nI p) = some 0 := by
  unfold pX8_hasBit
  rw [if_neg (fun q => by rw [(nI_bit1 hB hp).mp q] at h; cases h)]
theorem bitOf_eq {k n : Nat} {σ : fqS} {p : Nat} (hp : p < 31) : pX8_bitOf k n σ (nI p) = some (nI (2 ^ p)) := by
  unfold pX8_bitOf
  rw [nI_one hp]
theorem bits_0 {a n : Nat} (h : a < 2 ^ n) : a = 0 ↔ ∀ i, i < n → a.testBit i = false := by
  constructor
  · intro e i _
    rw [e, Nat.zero_testBit]
  · intro e
    apply Nat.eq_of_testBit_eq
    intro i
    rw [Nat.zero_testBit]
    rcases Nat.lt_or_ge i n with q | q
    · exact e i q
    · exact bit_lt h q
theorem bits_n0 {a : Nat} (h : a ≠ 0) : ∃ i, a.testBit i = true := by
  apply Classical.byContradiction
  intro q
  apply h
  apply Nat.eq_of_testBit_eq
  intro i
  rw [Nat.zero_testBit]
  cases e : a.testBit i with
  | false => rfl
  | true => exact absurd ⟨i, e⟩ q
theorem bit_2p {p i : Nat} : (2 ^ p).testBit i = decide (p = i) := Nat.testBit_two_pow
/-- how many bits -/
def pop (B : Nat) : Nat := cntB (fun i => B.testBit i) 16
theorem onesM_eq (k : Nat) (σ : fqS) (B : Nat) (hB : B < 2 ^ 31) (hk : 16 < k) : pX9_ones k 0 σ (nI B) = some (nI (pop B)) := by
  unfold pX9_ones pX9_ones_L4
  refine fqL_go (fun j => (nI (cntB (fun i => B.testBit i) j), nI j)) 16 rfl hk ?_ ?_
  · intro rec
    simp (disch := omega) only [pX9_ones_L4b, z16, nI_leI, ite_t]
    rfl
  · intro j hj rec
    simp (disch := omega) only [pX9_ones_L4b, z16, nI_leI, ite_f, nI_bit, nI_add, nI_1, cntB]
def swA (x : Nat) : Nat := x - (x / 2 &&& 1431655765)
def swB (x : Nat) : Nat := (x &&& 858993459) + (x / 4 &&& 858993459)
def swC (x : Nat) : Nat := (x + x / 16) &&& 252645135
def swD (x : Nat) : Nat := x + x / 256
def swE (x : Nat) : Nat := x + x / 65536 &&& 63
