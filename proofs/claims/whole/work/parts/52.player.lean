/-! the makings of a player -/
def fqEven : Nat → Int64 := (vp_updL (vp_updL (vp_updL (vp_updL (vp_updL (vp_updL (vp_updL (fun _ => 0) 0 (142857 : Int64)) 1 (142857 : Int64)) 2 (142857 : Int64)) 3 (142858 : Int64)) 4 (142857 : Int64)) 5 (142857 : Int64)) 6 (142857 : Int64))
def fqAd (ad : Nat → Nat) (n q q1 q2 q3 : Nat) : Nat → Nat := fun c => if c = 26 + 4 * n then q else if c = 26 + 4 * n + 1 then q1 else if c = 26 + 4 * n + 2 then q2 else if c = 26 + 4 * n + 3 then q3 else ad c
def fqNew (σ : fqS) (n : Nat) (x1 : Int32) (f : Nat → Int64) : fqS := (fun c => if c = 26 + 4 * n then (fun k => if k = 0 then x1 else 0) else σ.1 c, fun c => if c = 26 + 4 * n + 1 then f else if c = 26 + 4 * n + 2 then (fun _ => 0) else if c = 26 + 4 * n + 3 then (fun _ => 0) else σ.2 c)
theorem fqAd_old {ad : Nat → Nat} {n q q1 q2 q3 c : Nat} (h : c < ZX n) : fqAd ad n q q1 q2 q3 c = ad c := by
  unfold ZX at h
  unfold fqAd
  rw [if_neg (by omega), if_neg (by omega), if_neg (by omega), if_neg (by omega)]
theorem fqW_len {T : fqT} {Z : Nat → Nat} {ad : Nat → Nat} {n : Nat} {σ : fqS} : (fqW T Z ad n σ).length = Z n := by simp [fqW]
theorem tx_cong {cy : Nat → ClassId} {ad ad' : Nat → Nat} {n n' i : Nat} {f : Nat → Int32} {g : Nat → Int64} (h : ∀ c, c < ZX n → ad' c = ad c) (hi : i < ZX n) (h2 : i ≠ 2) : TX cy ad' n' i f g = TX cy ad n i f g := by
  by_cases h26 : i < 26
  · have hl : ∀ c, c < 26 → ad' c = ad c := fun c hc => h c (by unfold ZX; omega)
    have hc : i = 0 ∨ i = 1 ∨ i = 3 ∨ i = 4 ∨ i = 5 ∨ i = 6 ∨ i = 7 ∨ i = 8 ∨ i = 9 ∨ i = 10 ∨ i = 11 ∨ i = 12 ∨ i = 13 ∨ i = 14 ∨ i = 15 ∨ i = 16 ∨ i = 17 ∨ i = 18 ∨ i = 19 ∨ i = 20 ∨ i = 21 ∨ i = 22 ∨ i = 23 ∨ i = 24 ∨ i = 25 := by omega
    rcases hc with rfl | rfl | rfl | rfl | rfl | rfl | rfl | rfl | rfl | rfl | rfl | rfl | rfl | rfl | rfl | rfl | rfl | rfl | rfl | rfl | rfl | rfl | rfl | rfl | rfl
    · show (.inr (8, [.ref (ad' 1), .ref (ad' 4), .ref (ad' 7), .ref (ad' 10), .ref (ad' 13), .ref (ad' 16), .ref (ad' 23), .ref (ad' 24), .ref (ad' 25), .int (f 9), .int (f 10), .long (g 11), .long (g 12)]) : va_E) = .inr (8, [.ref (ad 1), .ref (ad 4), .ref (ad 7), .ref (ad 10), .ref (ad 13), .ref (ad 16), .ref (ad 23), .ref (ad 24), .ref (ad 25), .int (f 9), .int (f 10), .long (g 11), .long (g 12)])
      rw [hl 1 (by omega), hl 4 (by omega), hl 7 (by omega), hl 10 (by omega), hl 13 (by omega), hl 16 (by omega), hl 23 (by omega), hl 24 (by omega), hl 25 (by omega)]
    · show (.inr (6, [.ref (ad' 2), .ref (ad' 3), .int (f 2)]) : va_E) = .inr (6, [.ref (ad 2), .ref (ad 3), .int (f 2)])
      rw [hl 2 (by omega), hl 3 (by omega)]
    · rfl
    · show (.inr (7, [.ref (ad' 5), .ref (ad' 6), .int (f 2)]) : va_E) = .inr (7, [.ref (ad 5), .ref (ad 6), .int (f 2)])
      rw [hl 5 (by omega), hl 6 (by omega)]
    · rfl
    · rfl
    · show (.inr (7, [.ref (ad' 8), .ref (ad' 9), .int (f 2)]) : va_E) = .inr (7, [.ref (ad 8), .ref (ad 9), .int (f 2)])
      rw [hl 8 (by omega), hl 9 (by omega)]
    · rfl
    · rfl
    · show (.inr (3, [.ref (ad' 11), .ref (ad' 12), .int (f 2), .int (f 3), .int (f 4), .long (g 5)]) : va_E) = .inr (3, [.ref (ad 11), .ref (ad 12), .int (f 2), .int (f 3), .int (f 4), .long (g 5)])
      rw [hl 11 (by omega), hl 12 (by omega)]
    · rfl
    · rfl
    · show (.inr (4, [.ref (ad' 14), .ref (ad' 15), .int (f 2)]) : va_E) = .inr (4, [.ref (ad 14), .ref (ad 15), .int (f 2)])
      rw [hl 14 (by omega), hl 15 (by omega)]
    · rfl
    · rfl
    · show (.inr (2, [.ref (ad' 17), .long (g 1)]) : va_E) = .inr (2, [.ref (ad 17), .long (g 1)])
      rw [hl 17 (by omega)]
    · have e : fqMRow ad' = fqMRow ad := funext fun j => by
        unfold fqMRow
        by_cases hj : j < 5
        · rw [if_pos hj, if_pos hj, hl (18 + j) (by omega)]
        · rw [if_neg hj, if_neg hj]
      show (.inl (cy 3, 5, .inr (.inr (.inr (.inr (fqMRow ad'))))) : va_E) = .inl (cy 3, 5, .inr (.inr (.inr (.inr (fqMRow ad)))))
      rw [e]
    · rfl
    · rfl
    · rfl
    · rfl
    · rfl
    · rfl
    · rfl
    · rfl
  · rw [tx_big cy ad' n' i (by omega), tx_big cy ad n i (by omega)]
    unfold TXp
    unfold ZX at hi h
    by_cases hz : (i - 26) % 4 = 0
    · rw [if_pos hz, if_pos hz, h (i + 1) (by omega), h (i + 2) (by omega), h (i + 3) (by omega)]
    · rw [if_neg hz, if_neg hz]
theorem fq_grow {cy : Nat → ClassId} {ad : Nat → Nat} {n : Nat} {σ : fqS} {q q1 q2 q3 : Nat} {x1 : Int32} {f : Nat → Int64} : (fqW (TX cy) ZX ad n σ).set 2 (ad 2, .inl (cy 4, 16, .inr (.inr (.inr (.inr (va_up (fun i => (fqRow n i).map (fun p => ad (26 + 4 * p))) n (some q))))))) ++ [(q, .inr (5, [.int x1, .ref q1, .ref q2, .ref q3, .int (0 : Int32)])), (q1, .inl (cy 1, 7, .inr (.inl f))), (q2, .inl (cy 1, 7, .inr (.inl (fun _ => 0)))), (q3, .inl (cy 1, 8, .inr (.inl (fun _ => 0))))] = fqW (TX cy) ZX (fqAd ad n q q1 q2 q3) (n + 1) (fqNew σ n x1 f) := by
  have hz : ZX (n + 1) = ZX n + 4 := by unfold ZX; omega
  have hz0 : ZX n = 26 + 4 * n := rfl
  apply List.ext_getElem?
  intro i
  rcases Nat.lt_or_ge i (ZX n) with h | h
  · rw [List.getElem?_append_left (by rw [List.length_set, fqW_len]; exact h), fqW_get (show i < ZX (n + 1) by omega), List.getElem?_set, fqAd_old h]
    have hs1 : (fqNew σ n x1 f).1 i = σ.1 i := by
      show (if i = 26 + 4 * n then _ else σ.1 i) = _
      rw [if_neg (by omega)]
    have hs2 : (fqNew σ n x1 f).2 i = σ.2 i := by
      show (if i = 26 + 4 * n + 1 then f else if i = 26 + 4 * n + 2 then (fun _ => 0) else if i = 26 + 4 * n + 3 then (fun _ => 0) else σ.2 i) = _
      rw [if_neg (by omega), if_neg (by omega), if_neg (by omega)]
    rw [hs1, hs2]
    by_cases h2 : 2 = i
    · subst h2
      rw [if_pos rfl, if_pos (by rw [fqW_len]; exact h)]
      have e : va_up (fun i => (fqRow n i).map (fun p => ad (26 + 4 * p))) n (some q) = fun i => (fqRow (n + 1) i).map (fun p => fqAd ad n q q1 q2 q3 (26 + 4 * p)) := funext fun j => by
        unfold va_up fqRow
        by_cases hj : j = n
        · subst hj
          rw [if_pos rfl, if_pos (by omega)]
          show some q = some (fqAd ad j q q1 q2 q3 (26 + 4 * j))
          unfold fqAd
          rw [if_pos rfl]
        · rw [if_neg hj]
          show Option.map (fun p => ad (26 + 4 * p)) (if j < n then some j else none) = _
          by_cases hj2 : j < n
          · rw [if_pos hj2, if_pos (by omega)]
            show some (ad (26 + 4 * j)) = some (fqAd ad n q q1 q2 q3 (26 + 4 * j))
            rw [fqAd_old (by unfold ZX; omega)]
          · rw [if_neg hj2, if_neg (by omega)]
            rfl
      rw [e]
      rfl
    · rw [if_neg h2, fqW_get h, tx_cong (n := n) (fun c hc => fqAd_old hc) h (Ne.symm h2)]
  · rw [List.getElem?_append_right (by rw [List.length_set, fqW_len]; exact h), List.length_set, fqW_len]
    have t0 := tx_p cy (fqAd ad n q q1 q2 q3) (n + 1) n
    have t1 := tx_p1 cy (fqAd ad n q q1 q2 q3) (n + 1) n
    have t2 := tx_p2 cy (fqAd ad n q q1 q2 q3) (n + 1) n
    have t3 := tx_p3 cy (fqAd ad n q q1 q2 q3) (n + 1) n
    have a0 : fqAd ad n q q1 q2 q3 (26 + 4 * n) = q := by unfold fqAd; rw [if_pos rfl]
    have a1 : fqAd ad n q q1 q2 q3 (26 + 4 * n + 1) = q1 := by unfold fqAd; rw [if_neg (by omega), if_pos rfl]
    have a2 : fqAd ad n q q1 q2 q3 (26 + 4 * n + 2) = q2 := by unfold fqAd; rw [if_neg (by omega), if_neg (by omega), if_pos rfl]
    have a3 : fqAd ad n q q1 q2 q3 (26 + 4 * n + 3) = q3 := by unfold fqAd; rw [if_neg (by omega), if_neg (by omega), if_neg (by omega), if_pos rfl]
    by_cases c0 : i = 26 + 4 * n
    · subst c0
      rw [fqW_get (by omega), hz0, Nat.sub_self, t0, a0, a1, a2, a3]
      have e : (fqNew σ n x1 f).1 (26 + 4 * n) = fun k => if k = 0 then x1 else 0 := by
        show (if 26 + 4 * n = 26 + 4 * n then _ else _) = _
        rw [if_pos rfl]
      rw [e]
      rfl
    · by_cases c1 : i = 26 + 4 * n + 1
      · subst c1
        rw [fqW_get (by omega), hz0, t1, a1, show 26 + 4 * n + 1 - (26 + 4 * n) = 1 by omega]
        have e : (fqNew σ n x1 f).2 (26 + 4 * n + 1) = f := by
          show (if 26 + 4 * n + 1 = 26 + 4 * n + 1 then f else _) = _
          rw [if_pos rfl]
        rw [e]
        rfl
      · by_cases c2 : i = 26 + 4 * n + 2
        · subst c2
          rw [fqW_get (by omega), hz0, t2, a2, show 26 + 4 * n + 2 - (26 + 4 * n) = 2 by omega]
          have e : (fqNew σ n x1 f).2 (26 + 4 * n + 2) = fun _ => 0 := by
            show (if 26 + 4 * n + 2 = 26 + 4 * n + 1 then f else if 26 + 4 * n + 2 = 26 + 4 * n + 2 then (fun _ => 0) else _) = _
            rw [if_neg (by omega), if_pos rfl]
          rw [e]
          rfl
        · by_cases c3 : i = 26 + 4 * n + 3
          · subst c3
            rw [fqW_get (by omega), hz0, t3, a3, show 26 + 4 * n + 3 - (26 + 4 * n) = 3 by omega]
            have e : (fqNew σ n x1 f).2 (26 + 4 * n + 3) = fun _ => 0 := by
              show (if 26 + 4 * n + 3 = 26 + 4 * n + 1 then f else if 26 + 4 * n + 3 = 26 + 4 * n + 2 then (fun _ => 0) else if 26 + 4 * n + 3 = 26 + 4 * n + 3 then (fun _ => 0) else _) = _
              rw [if_neg (by omega), if_neg (by omega), if_pos rfl]
            rw [e]
            rfl
          · rw [List.getElem?_eq_none (by show 4 ≤ _; omega), List.getElem?_eq_none (by rw [fqW_len]; omega)]
/-- a maker's call beside a world: the new object is the last cell -/
theorem h_callI2 {X : fqX} {rm : Room} {cy : Nat → ClassId} {cc : ByteArray} {nL : Nat} {Ts : List Cond} {own : String} {cells slots : Nat} {W0 : va_W} {pc : Nat} {lv : List (Nat × Value)} {rest : List Value} (E : fqE X rm cy cc nL Ts own) {y : MethodName} {bytes : ByteArray} {maxL nn index mc ms : Nat} {ws ws' : List Cond} {rmc : Room} {S : Type} {b : Nat} {o : va_E} (As : List Value) (w1 : S → va_W) (hM : ∀ (l : Launch) (D : va_G) (sz : Nat), Met l y ws rmc (fhPc D cy sz [(b, o)] (.ref b :: As)) (fhQv D sz [(b, o)] w1) mc ms (va_A [(b, o)] sz)) (hG : GoodIn Ts ws) (hw9 : ws = Cond.code y bytes maxL none :: ws') (hrc : rmc.cells = mc) (hrs : rmc.slots = ms) (hini : Cond.initialized y.cls ∈ Ts) (hlk : Cond.methodLink own index y ∈ Ts) (hins : Cond.instanceMethod y ∈ Ts) (hy1 : y.name = "<init>") (hd : y.cls ≠ "java/lang/invoke/MethodHandle" ∧ y.cls ≠ "java/lang/invoke/VarHandle" ∧ (parseMethodDescriptor y.desc).map (fun d => d.parameters.length) = some nn) (hR9 : rmc.frames + 1 ≤ rm.frames ∧ 8 + (maxL + 11) + rmc.locals ≤ rm.locals) (hn : As.length = nn) {st : List Value} (hst : st = As.reverse ++ .ref b :: rest) (hroom : (rest.map fun v => v.category).sum ≤ 8) (hdg : decode cc pc = .ok (.invokespecial index, 3)) (hcs : cells + mc ≤ rm.cells ∧ slots + ms ≤ rm.slots)
    (k : ∀ u : S, fqH X nL (cells + mc) (slots + ms) (W0 ++ w1 u) (pc + 3) lv rest) : fqH X nL cells slots (W0 ++ [(b, o)]) pc lv st := by
  obtain ⟨p, l, e, R, s, m, args, below, meth, c, Q, D, A⟩ := X
  obtain ⟨⟨hx, hb, hml, hown, hts⟩, hK, hA, hR⟩ := E
  intro H locs ls hw hl
  have hlast : (W0 ++ [(b, o)])[W0.length]? = some (b, o) := by simp
  have hleft : ∀ (j : Nat) (q : Nat × va_E), W0[j]? = some q → (W0 ++ [(b, o)])[j]? = some q ∧ j < W0.length := fun j q hq => by
    have hlt := (List.getElem?_eq_some_iff.mp hq).1
    exact ⟨by rw [List.getElem?_append_left hlt]; exact hq, hlt⟩
  have hPc : va_P D vwCl [(b, o)] H := fun j q hq => by
    have hz : j < 1 := (List.getElem?_eq_some_iff.mp hq).1
    rw [show j = 0 by omega] at hq
    cases hq
    exact hw.1 _ _ hlast
  have hDc : va_D (fun _ => True) [(b, o)] := ⟨fun i j p q h1 h2 _ => by
    have hz : i < 1 := (List.getElem?_eq_some_iff.mp h1).1
    have hz2 : j < 1 := (List.getElem?_eq_some_iff.mp h2).1
    omega, fun _ _ _ => trivial⟩
  have hin : ∀ q, va_A [(b, o)] H.size q → q = b ∨ H.size ≤ q := fun q h => by
    rcases h with ⟨j, e9, h⟩ | h
    · have hz : j < 1 := (List.getElem?_eq_some_iff.mp h).1
      rw [show j = 0 by omega] at h
      cases h
      exact Or.inl rfl
    · exact Or.inr h
  have hFc : ∀ q, va_A [(b, o)] H.size q → A q := fun q h => by
    rcases hin q h with rfl | h
    · exact hw.2.1.2 _ _ hlast
    · exact hA q (Nat.le_trans hw.2.2.1 h)
  have hold : ∀ (j : Nat) (q : Nat × va_E), W0[j]? = some q → q.1 < H.size ∧ ¬ va_A [(b, o)] H.size q.1 := fun j q hq => by
    obtain ⟨h1, h2⟩ := hleft j q hq
    have hlt := (hw.1 j q h1).lt
    refine ⟨hlt, fun h => ?_⟩
    rcases hin _ h with h | h
    · have := hw.2.1.1 j W0.length q (b, o) h1 hlast h
      omega
    · omega
  exact va_callv (va_runI (As := As) (rest := rest) ⟨hx, hb, hml, hown, hts⟩ (hM l D H.size) (cwI nn hts hG hw9 hrc hrs (hts _ hini) (hts _ hlk) (hts _ hins) hy1 hd (by rw [hR]; exact hR9)) ⟨fhPc_blind, fun U hU hW => ⟨rfl, by rw [hU], by rw [hU]; exact hPc, hK.warm hW, hDc⟩⟩ rfl hn hl.1 hst (lv_room hroom) hdg (by rw [hR]; exact hcs)) hw.2.2 (fun q _ h => hFc q h) hFc (fun u t H1 locs ht hvm hp hB hz hk hS => by
    obtain ⟨hP1, hD1⟩ := hB
    rw [ht] at hP1
    refine k u H1 locs ls ⟨va_P.app (fun j q hq => ?_) hP1, va_D.app ⟨fun i j x y h1 h2 h3 => ?_, fun j q hq => ?_⟩ (hD1.weaken (fun _ q _ h => hFc q.1 h)) (fun i j x y h1 h2 h3 => ?_), hS⟩ hl
    · obtain ⟨g1, g2⟩ := hold j q hq
      exact (hw.1 j q (hleft j q hq).1).kept (hk q.1 g1 g2)
    · exact hw.2.1.1 i j x y (hleft i x h1).1 (hleft j y h2).1 h3
    · exact hw.2.1.2 j q (hleft j q hq).1
    · exact (hold i x h1).2 (by rw [h3]; exact hD1.2 j y h2))
