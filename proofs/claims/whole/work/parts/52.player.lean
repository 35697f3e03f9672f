/-! admit and player: the makings of a player -/
def fqEven : Nat → Int64 := (vp_updL (vp_updL (vp_updL (vp_updL (vp_updL (vp_updL (vp_updL (fun _ => 0) 0 (142857 : Int64)) 1 (142857 : Int64)) 2 (142857 : Int64)) 3 (142858 : Int64)) 4 (142857 : Int64)) 5 (142857 : Int64)) 6 (142857 : Int64))
def fqAd (ad : Nat → Nat) (n q q1 q2 q3 : Nat) : Nat → Nat := fun c => if c = 26 + 4 * n then q else if c = 26 + 4 * n + 1 then q1 else if c = 26 + 4 * n + 2 then q2 else if c = 26 + 4 * n + 3 then q3 else ad c
def fqNew (σ : fqS) (n : Nat) (x1 : Int32) (f : Nat → Int64) : fqS := (fun c => if c = 26 + 4 * n then (fun k => if k = 0 then x1 else 0) else σ.1 c, fun c => if c = 26 + 4 * n + 1 then f else if c = 26 + 4 * n + 2 then (fun _ => 0) else if c = 26 + 4 * n + 3 then (fun _ => 0) else σ.2 c)
theorem fqAd_old {ad : Nat → Nat} {n q q1 q2 q3 c : Nat} (h : c < ZX n) : fqAd ad n q q1 q2 q3 c = ad c := by
  unfold ZX at h
  unfold fqAd
  rw [if_neg (by omega), if_neg (by omega), if_neg (by omega), if_neg (by omega)]
theorem fqW_len {T : fqT} {Z : Nat → Nat} {ad : Nat → Nat} {n : Nat} {σ : fqS} : (fqW T Z ad n σ).length = Z n := by simp [fqW]
theorem tx_cong {cy : Nat → ClassId} {ad ad' : Nat → Nat} {n n' i : Nat} {f : Nat → Int32} {g : Nat → Int64} (h : ∀ c, c < ZX n → ad' c = ad c) (hi : i < ZX n) (h2 : i ≠ 2) : TX cy ad' n' i f g = TX cy ad n i f g := by
  by_cases h26 : i < 26
  · have hl : ∀ c, c < 26 → ad' c = ad c := fun c hc => h c (by unfold ZX; omega)
    have hc : i = 0 ∨ i = 1 ∨ i = 3 ∨ i = 4 ∨ i = 5 ∨ i = 6 ∨ i = 7 ∨ i = 8 ∨ i = 9 ∨ i = 10 ∨ i = 11 ∨ i = 12 ∨ i = 13 ∨ i = 14 ∨ i = 15 ∨ i = 16 ∨ i = 17 ∨ i = 18 ∨ i = 19 ∨ i = 20 ∨ i = 21 ∨ i = 22 ∨ i = 23 ∨ i = 24 ∨ i = 25 := by omega
    rcases hc with rfl | rfl | rfl | rfl | rfl | rfl | rfl | rfl | rfl | rfl | rfl | rfl | rfl | rfl | rfl | rfl | rfl | rfl | rfl | rfl | rfl | rfl | rfl | rfl | rfl
    · show (.inr (8, [.ref (ad' 1), .ref (ad' 4), .ref (ad' 7), .ref (ad' 10), .ref (ad' 13), .ref (ad' 16), .ref (ad' 23), .ref (ad' 24), .ref (ad' 25), .int (f 9), .int (f 10), .long (g 11), .long (g 12)]) : va_E) = .inr (8, [.ref (ad 1), .ref (ad 4), .ref (ad 7), .ref (ad 10), .ref (ad 13), .ref (ad 16), .ref (ad 23), .ref (ad 24), .ref (ad 25), .int (f 9), .int (f 10), .long (g 11), .long (g 12)])
      rw [hl 1 (by omega), hl 4 (by omega), hl 7 (by omega), hl 10 (by omega), hl 13 (by omega), hl 16 (by omega), hl 23 (by omega), hl 24 (by omega), hl 25 (by omega)]
    · show (.inr (6, [.ref (ad' 2), .ref (ad' 3), .int (f 2)]) : va_E) = .inr (6, [.ref (ad 2), .ref (ad 3), .int (f 2)])
      rw [hl 2 (by omega), hl 3 (by omega)]
    · rfl
    · show (.inr (7, [.ref (ad' 5), .ref (ad' 6), .int (f 2)]) : va_E) = .inr (7, [.ref (ad 5), .ref (ad 6), .int (f 2)])
      rw [hl 5 (by omega), hl 6 (by omega)]
    · rfl
    · rfl
    · show (.inr (7, [.ref (ad' 8), .ref (ad' 9), .int (f 2)]) : va_E) = .inr (7, [.ref (ad 8), .ref (ad 9), .int (f 2)])
      rw [hl 8 (by omega), hl 9 (by omega)]
    · rfl
    · rfl
    · show (.inr (3, [.ref (ad' 11), .ref (ad' 12), .int (f 2), .int (f 3), .int (f 4), .long (g 5)]) : va_E) = .inr (3, [.ref (ad 11), .ref (ad 12), .int (f 2), .int (f 3), .int (f 4), .long (g 5)])
      rw [hl 11 (by omega), hl 12 (by omega)]
    · rfl
    · rfl
    · show (.inr (4, [.ref (ad' 14), .ref (ad' 15), .int (f 2)]) : va_E) = .inr (4, [.ref (ad 14), .ref (ad 15), .int (f 2)])
      rw [hl 14 (by omega), hl 15 (by omega)]
    · rfl
    · rfl
    · show (.inr (2, [.ref (ad' 17), .long (g 1)]) : va_E) = .inr (2, [.ref (ad 17), .long (g 1)])
      rw [hl 17 (by omega)]
    · have e : fqMRow ad' = fqMRow ad := funext fun j => by
        unfold fqMRow
        by_cases hj : j < 5
        · rw [if_pos hj, if_pos hj, hl (18 + j) (by omega)]
        · rw [if_neg hj, if_neg hj]
      show (.inl (cy 3, 5, .inr (.inr (.inr (.inr (fqMRow ad'))))) : va_E) = .inl (cy 3, 5, .inr (.inr (.inr (.inr (fqMRow ad)))))
      rw [e]
    · rfl
    · rfl
    · rfl
    · rfl
    · rfl
    · rfl
    · rfl
    · rfl
  · rw [tx_big cy ad' n' i (by omega), tx_big cy ad n i (by omega)]
    unfold TXp
    unfold ZX at hi h
    by_cases hz : (i - 26) % 4 = 0
    · rw [if_pos hz, if_pos hz, h (i + 1) (by omega), h (i + 2) (by omega), h (i + 3) (by omega)]
    · rw [if_neg hz, if_neg hz]
