theorem fq_z {α : Type} {y : Int64} {x : Option α} {z : α} (hf : (if y = 0 then none else x) = some z) : ¬ y = 0 ∧ x = some z := by
  by_cases h : y = 0
  · rw [if_pos h] at hf; cases hf
  · rw [if_neg h] at hf; exact ⟨h, hf⟩
def fqM {α : Type} (o : Option Nat) (a : Option α) (b : Nat → Option α) : Option α := match o with
  | none => a
  | some p => b p
theorem fqM_n {α : Type} {a : Option α} {b : Nat → Option α} {z : Option α} (h : fqM none a b = z) : a = z := h
theorem fqM_s {α : Type} {a : Option α} {b : Nat → Option α} {z : Option α} {p : Nat} (h : fqM (some p) a b = z) : b p = z := h
theorem fq_lt {i : Int32} {n : Nat} (h : vp_in i n) : i.toNatClampNeg < n := Nat.not_le.mp fun q => h (Or.inr q)
theorem g_mminI {X : fqX} {rm : Room} {cy : Nat → ClassId} {cc : ByteArray} {nL : Nat} {Ts : List Cond} {own : String} {T : fqT} {Z : Nat → Nat} {ad : Nat → Nat} {n cells slots : Nat} {σ : fqS} {pc : Nat} {lv : List (Nat × Value)} {rest : List Value} (E : fqE X rm cy cc nL Ts own) {x y : Int32} {index : Nat} (hl1 : Cond.methodLink own index Lib.Math.min.name ∈ Ts) (hl2 : Cond.static Lib.Math.min.name ∈ Ts) (hl3 : Cond.initialized "java/lang/Math" ∈ Ts) (hl4 : Cond.code Lib.Math.min.name Lib.Math.min.code 2 (some .int) ∈ Ts) (hfr : 1 ≤ rm.frames) (hlo : (rest.map fun v => v.category).sum + 13 ≤ rm.locals) (hcs : cells ≤ rm.cells ∧ slots ≤ rm.slots) (hdg : decode cc pc = .ok (.invokestatic index, 3))
    (k : fqG X T Z ad n nL cells slots σ (pc + 3) lv (.int (if y < x then y else x) :: rest)) : fqG X T Z ad n nL cells slots σ pc lv (.int y :: .int x :: rest) := by
  obtain ⟨p, l, e, R, s, m, args, below, meth, c, Q, D, A⟩ := X
  obtain ⟨⟨hx, hb, hml, hown, hts⟩, hK, hA, hR⟩ := E
  exact fun H locs ls hw hl => va_mmin hx hb (hml.trans hl.1.symm) hown (hts _ hl1) (hts _ hl2) (hts _ hl3) (hts _ hl4) (by rw [hR]; exact hfr) (by rw [hR]; exact hlo) (by rw [hR]; exact hcs.1) (by rw [hR]; exact hcs.2) hdg (k H locs ls hw hl)
theorem g_mminL {X : fqX} {rm : Room} {cy : Nat → ClassId} {cc : ByteArray} {nL : Nat} {Ts : List Cond} {own : String} {T : fqT} {Z : Nat → Nat} {ad : Nat → Nat} {n cells slots : Nat} {σ : fqS} {pc : Nat} {lv : List (Nat × Value)} {rest : List Value} (E : fqE X rm cy cc nL Ts own) {x y : Int64} {index : Nat} (hl1 : Cond.methodLink own index Lib.MathLoose.min_long.x ∈ Ts) (hl2 : Cond.static Lib.MathLoose.min_long.x ∈ Ts) (hl3 : Cond.initialized "java/lang/Math" ∈ Ts) (hl4 : Cond.code Lib.MathLoose.min_long.x Lib.MathLoose.min_long.code 4 (some .long) ∈ Ts) (hfr : 1 ≤ rm.frames) (hlo : (rest.map fun v => v.category).sum + 15 ≤ rm.locals) (hcs : cells ≤ rm.cells ∧ slots ≤ rm.slots) (hdg : decode cc pc = .ok (.invokestatic index, 3))
    (k : fqG X T Z ad n nL cells slots σ (pc + 3) lv (.long (if y < x then y else x) :: rest)) : fqG X T Z ad n nL cells slots σ pc lv (.long y :: .long x :: rest) := by
  obtain ⟨p, l, e, R, s, m, args, below, meth, c, Q, D, A⟩ := X
  obtain ⟨⟨hx, hb, hml, hown, hts⟩, hK, hA, hR⟩ := E
  exact fun H locs ls hw hl => va_mmin_long hx hb (hml.trans hl.1.symm) hown (hts _ hl1) (hts _ hl2) (hts _ hl3) (hts _ hl4) (by rw [hR]; exact hfr) (by rw [hR]; exact hlo) (by rw [hR]; exact hcs.1) (by rw [hR]; exact hcs.2) hdg (k H locs ls hw hl)
theorem g_mabsL {X : fqX} {rm : Room} {cy : Nat → ClassId} {cc : ByteArray} {nL : Nat} {Ts : List Cond} {own : String} {T : fqT} {Z : Nat → Nat} {ad : Nat → Nat} {n cells slots : Nat} {σ : fqS} {pc : Nat} {lv : List (Nat × Value)} {rest : List Value} (E : fqE X rm cy cc nL Ts own) {x : Int64} {index : Nat} (hl1 : Cond.methodLink own index Lib.MathLoose.abs_long.x ∈ Ts) (hl2 : Cond.static Lib.MathLoose.abs_long.x ∈ Ts) (hl3 : Cond.initialized "java/lang/Math" ∈ Ts) (hl4 : Cond.code Lib.MathLoose.abs_long.x Lib.MathLoose.abs_long.code 2 (some .long) ∈ Ts) (hfr : 1 ≤ rm.frames) (hlo : (rest.map fun v => v.category).sum + 13 ≤ rm.locals) (hcs : cells ≤ rm.cells ∧ slots ≤ rm.slots) (hdg : decode cc pc = .ok (.invokestatic index, 3))
    (k : fqG X T Z ad n nL cells slots σ (pc + 3) lv (.long (if 0 < x then x else -x) :: rest)) : fqG X T Z ad n nL cells slots σ pc lv (.long x :: rest) := by
  obtain ⟨p, l, e, R, s, m, args, below, meth, c, Q, D, A⟩ := X
  obtain ⟨⟨hx, hb, hml, hown, hts⟩, hK, hA, hR⟩ := E
  exact fun H locs ls hw hl => va_mabs_long hx hb (hml.trans hl.1.symm) hown (hts _ hl1) (hts _ hl2) (hts _ hl3) (hts _ hl4) (by rw [hR]; exact hfr) (by rw [hR]; exact hlo) (by rw [hR]; exact hcs.1) (by rw [hR]; exact hcs.2) hdg (k H locs ls hw hl)
def fqR_l (X : fqX) (T : fqT) (Z : Nat → Nat) (ad : Nat → Nat) (n nL : Nat) (cc : ByteArray) (r : Int64) (σ' : fqS) : Prop := ∀ (v : Int64) (σ1 : fqS) (pc : Nat) (lv : List (Nat × Value)), decode cc pc = .ok (.lreturn, 1) → (v, σ1) = (r, σ') → fqG X T Z ad n nL 0 0 σ1 pc lv [.long v]
theorem fq_enter_l {l : Launch} {y : MethodName} {ws : List Cond} {rm : Room} {cc : ByteArray} {maxL : Nat} {av : List Value} {T : fqT} {Z : Nat → Nat} {D : va_G} {cy : Nat → ClassId} {ad : Nat → Nat} {sz n : Nat} {σ σ' : fqS} {r : Int64} {own : String} (ws' : List Cond) (hy : plainName y.cls = true) (hw0 : ws = Cond.code y cc maxL (some .long) :: ws') (hlen : (lg_sl av).length ≤ maxL) (hown : y.cls = own)
    (body : ∀ X : fqX, fqE X rm cy cc maxL ws own → fqR_l X T Z ad n maxL cc r σ' → fqG X T Z ad n maxL 0 0 σ 0 (lv_args 0 av) []) : Met l y ws rm (fqPc T Z D cy ad sz n σ av) (fqQl T Z D ad sz n σ r σ') 0 0 (fqA T Z ad sz n σ) := by
  refine Met.ofW (cc := cc) (maxL := maxL) (ret := (some .long)) hy hw0 ?_
  intro p e s m args below meth c s₁ B hml hv
  obtain ⟨rfl, hsz, hP, hK, hD0⟩ := hv
  subst hsz
  have hl := lv_entry av (n := maxL) hlen
  rw [lg_entry_eq]
  have hD := hD0.self (sz := s.heap.size)
  have hlocks := B.notSynchronized
  exact body (p, l, e, _, s, m, _, below, meth, c, _, D, fqA T Z ad s.heap.size n σ) ⟨⟨B.exec, B.bytes, hml, hown ▸ findClass_of_methodNamed B.named, atoms_spec (ws := ws) B.pre⟩, hK, fun q h => Or.inr h, rfl⟩
    (fun v σ1 pc lv hd he => by
      cases he
      exact fun H locs ls hw hl => W.lret B.exec B.bytes B.returns (fun t ht hW => ⟨⟨_, (), rfl, rfl, by rw [ht]; exact hw.1, hw.2.1⟩, hw.2.2.F ht⟩) hw.2.2.2.2 hd) s.heap [] _ ⟨hP, hD, va_S.rf⟩ hl
def fqR_i (X : fqX) (T : fqT) (Z : Nat → Nat) (ad : Nat → Nat) (n nL : Nat) (cc : ByteArray) (r : Int32) (σ' : fqS) : Prop := ∀ (v : Int32) (σ1 : fqS) (pc : Nat) (lv : List (Nat × Value)), decode cc pc = .ok (.ireturn, 1) → (v, σ1) = (r, σ') → fqG X T Z ad n nL 0 0 σ1 pc lv [.int v]
theorem fq_enter_i {l : Launch} {y : MethodName} {ws : List Cond} {rm : Room} {cc : ByteArray} {maxL : Nat} {av : List Value} {T : fqT} {Z : Nat → Nat} {D : va_G} {cy : Nat → ClassId} {ad : Nat → Nat} {sz n : Nat} {σ σ' : fqS} {r : Int32} {own : String} (ws' : List Cond) (hy : plainName y.cls = true) (hw0 : ws = Cond.code y cc maxL (some .int) :: ws') (hlen : (lg_sl av).length ≤ maxL) (hown : y.cls = own)
    (body : ∀ X : fqX, fqE X rm cy cc maxL ws own → fqR_i X T Z ad n maxL cc r σ' → fqG X T Z ad n maxL 0 0 σ 0 (lv_args 0 av) []) : Met l y ws rm (fqPc T Z D cy ad sz n σ av) (fqQi T Z D ad sz n σ r σ') 0 0 (fqA T Z ad sz n σ) := by
  refine Met.ofW (cc := cc) (maxL := maxL) (ret := (some .int)) hy hw0 ?_
  intro p e s m args below meth c s₁ B hml hv
  obtain ⟨rfl, hsz, hP, hK, hD0⟩ := hv
  subst hsz
  have hl := lv_entry av (n := maxL) hlen
  rw [lg_entry_eq]
  have hD := hD0.self (sz := s.heap.size)
  have hlocks := B.notSynchronized
  exact body (p, l, e, _, s, m, _, below, meth, c, _, D, fqA T Z ad s.heap.size n σ) ⟨⟨B.exec, B.bytes, hml, hown ▸ findClass_of_methodNamed B.named, atoms_spec (ws := ws) B.pre⟩, hK, fun q h => Or.inr h, rfl⟩
    (fun v σ1 pc lv hd he => by
      cases he
      exact fun H locs ls hw hl => W.iret B.exec B.bytes B.returns (fun t ht hW => ⟨⟨_, (), rfl, rfl, by rw [ht]; exact hw.1, hw.2.1⟩, hw.2.2.F ht⟩) hw.2.2.2.2 hd) s.heap [] _ ⟨hP, hD, va_S.rf⟩ hl
def fqR_z (X : fqX) (T : fqT) (Z : Nat → Nat) (ad : Nat → Nat) (n nL : Nat) (cc : ByteArray) (r : Int32) (σ' : fqS) : Prop := ∀ (v : Int32) (σ1 : fqS) (pc : Nat) (lv : List (Nat × Value)), narrow .boolean (.int v) = .int v → decode cc pc = .ok (.ireturn, 1) → (v, σ1) = (r, σ') → fqG X T Z ad n nL 0 0 σ1 pc lv [.int v]
theorem fq_enter_z {l : Launch} {y : MethodName} {ws : List Cond} {rm : Room} {cc : ByteArray} {maxL : Nat} {av : List Value} {T : fqT} {Z : Nat → Nat} {D : va_G} {cy : Nat → ClassId} {ad : Nat → Nat} {sz n : Nat} {σ σ' : fqS} {r : Int32} {own : String} (ws' : List Cond) (hy : plainName y.cls = true) (hw0 : ws = Cond.code y cc maxL (some .boolean) :: ws') (hlen : (lg_sl av).length ≤ maxL) (hown : y.cls = own)
    (body : ∀ X : fqX, fqE X rm cy cc maxL ws own → fqR_z X T Z ad n maxL cc r σ' → fqG X T Z ad n maxL 0 0 σ 0 (lv_args 0 av) []) : Met l y ws rm (fqPc T Z D cy ad sz n σ av) (fqQi T Z D ad sz n σ r σ') 0 0 (fqA T Z ad sz n σ) := by
  refine Met.ofW (cc := cc) (maxL := maxL) (ret := (some .boolean)) hy hw0 ?_
  intro p e s m args below meth c s₁ B hml hv
  obtain ⟨rfl, hsz, hP, hK, hD0⟩ := hv
  subst hsz
  have hl := lv_entry av (n := maxL) hlen
  rw [lg_entry_eq]
  have hD := hD0.self (sz := s.heap.size)
  have hlocks := B.notSynchronized
  exact body (p, l, e, _, s, m, _, below, meth, c, _, D, fqA T Z ad s.heap.size n σ) ⟨⟨B.exec, B.bytes, hml, hown ▸ findClass_of_methodNamed B.named, atoms_spec (ws := ws) B.pre⟩, hK, fun q h => Or.inr h, rfl⟩
    (fun v σ1 pc lv hz hd he => by
      cases he
      exact fun H locs ls hw hl => W.zret B.exec B.bytes B.returns hz (fun t ht hW => ⟨⟨_, (), rfl, rfl, by rw [ht]; exact hw.1, hw.2.1⟩, hw.2.2.F ht⟩) hw.2.2.2.2 hd) s.heap [] _ ⟨hP, hD, va_S.rf⟩ hl
def fqR_v (X : fqX) (T : fqT) (Z : Nat → Nat) (ad : Nat → Nat) (n nL : Nat) (cc : ByteArray) (σ' : fqS) : Prop := ∀ (σ1 : fqS) (pc : Nat) (lv : List (Nat × Value)), decode cc pc = .ok (.return_, 1) → σ1 = σ' → fqG X T Z ad n nL 0 0 σ1 pc lv []
theorem fq_enter_v {l : Launch} {y : MethodName} {ws : List Cond} {rm : Room} {cc : ByteArray} {maxL : Nat} {av : List Value} {T : fqT} {Z : Nat → Nat} {D : va_G} {cy : Nat → ClassId} {ad : Nat → Nat} {sz n : Nat} {σ σ' : fqS} {own : String} (ws' : List Cond) (hy : plainName y.cls = true) (hw0 : ws = Cond.code y cc maxL none :: ws') (hlen : (lg_sl av).length ≤ maxL) (hown : y.cls = own)
    (body : ∀ X : fqX, fqE X rm cy cc maxL ws own → fqR_v X T Z ad n maxL cc σ' → fqG X T Z ad n maxL 0 0 σ 0 (lv_args 0 av) []) : Met l y ws rm (fqPc T Z D cy ad sz n σ av) (fqQv T Z D ad sz n σ σ') 0 0 (fqA T Z ad sz n σ) := by
  refine Met.ofW (cc := cc) (maxL := maxL) (ret := none) hy hw0 ?_
  intro p e s m args below meth c s₁ B hml hv
  obtain ⟨rfl, hsz, hP, hK, hD0⟩ := hv
  subst hsz
  have hl := lv_entry av (n := maxL) hlen
  rw [lg_entry_eq]
  have hD := hD0.self (sz := s.heap.size)
  have hlocks := B.notSynchronized
  exact body (p, l, e, _, s, m, _, below, meth, c, _, D, fqA T Z ad s.heap.size n σ) ⟨⟨B.exec, B.bytes, hml, hown ▸ findClass_of_methodNamed B.named, atoms_spec (ws := ws) B.pre⟩, hK, fun q h => Or.inr h, rfl⟩
    (fun σ1 pc lv hd he => by
      cases he
      exact fun H locs ls hw hl => W.vret B.exec B.bytes B.returns (fun t ht hW => ⟨⟨(), rfl, trivial, by rw [ht]; exact hw.1, hw.2.1⟩, hw.2.2.F ht⟩) hw.2.2.2.2 hd) s.heap [] _ ⟨hP, hD, va_S.rf⟩ hl
def fqR_q (X : fqX) (T : fqT) (Z : Nat → Nat) (ad : Nat → Nat) (n nL : Nat) (cc : ByteArray) (r : Option Nat) (σ' : fqS) : Prop := ∀ (v : Option Nat) (σ1 : fqS) (pc : Nat) (lv : List (Nat × Value)), decode cc pc = .ok (.areturn, 1) → (v, σ1) = (r, σ') → fqG X T Z ad n nL 0 0 σ1 pc lv [va_rf v]
theorem fq_enter_q {l : Launch} {y : MethodName} {ws : List Cond} {rm : Room} {cc : ByteArray} {maxL : Nat} {av : List Value} {T : fqT} {Z : Nat → Nat} {D : va_G} {cy : Nat → ClassId} {ad : Nat → Nat} {sz n : Nat} {σ σ' : fqS} {r : Option Nat} {rc : String} {own : String} (ws' : List Cond) (hy : plainName y.cls = true) (hw0 : ws = Cond.code y cc maxL (some (.object rc)) :: ws') (hlen : (lg_sl av).length ≤ maxL) (hown : y.cls = own)
    (body : ∀ X : fqX, fqE X rm cy cc maxL ws own → fqR_q X T Z ad n maxL cc r σ' → fqG X T Z ad n maxL 0 0 σ 0 (lv_args 0 av) []) : Met l y ws rm (fqPc T Z D cy ad sz n σ av) (fqQq T Z D ad sz n σ r σ') 0 0 (fqA T Z ad sz n σ) := by
  refine Met.ofW (cc := cc) (maxL := maxL) (ret := (some (.object rc))) hy hw0 ?_
  intro p e s m args below meth c s₁ B hml hv
  obtain ⟨rfl, hsz, hP, hK, hD0⟩ := hv
  subst hsz
  have hl := lv_entry av (n := maxL) hlen
  rw [lg_entry_eq]
  have hD := hD0.self (sz := s.heap.size)
  have hlocks := B.notSynchronized
  exact body (p, l, e, _, s, m, _, below, meth, c, _, D, fqA T Z ad s.heap.size n σ) ⟨⟨B.exec, B.bytes, hml, hown ▸ findClass_of_methodNamed B.named, atoms_spec (ws := ws) B.pre⟩, hK, fun q h => Or.inr h, rfl⟩
    (fun v σ1 pc lv hd he => by
      cases he
      exact fun H locs ls hw hl => W.aret B.exec B.bytes B.returns (Or.inl ⟨_, rfl⟩) (by cases r with | none => exact Or.inl rfl | some a => exact Or.inr ⟨a, rfl⟩) (fun t ht hW => ⟨⟨_, (), rfl, rfl, by rw [ht]; exact hw.1, hw.2.1⟩, hw.2.2.F ht⟩) hw.2.2.2.2 hd) s.heap [] _ ⟨hP, hD, va_S.rf⟩ hl
/-- the class's cells: 0 FairQueue, 1 Players (2 row, 3 factors), 4 Queue (5 parties, 6 since), 7 the trial (8, 9), 10 Pairings (11 teams, 12 means), 13 Plan (14, 15), 16 Matches (17 row, 18 .. 22 the five), 23 Bounds, 24 told, 25 findings, 26 + 4 p the player p (shares, next, surprises behind it) -/
def fqRow (n i : Nat) : Option Nat := if i < n then some i else none
def fqMRow (ad : Nat → Nat) (i : Nat) : Option Nat := if i < 5 then some (ad (18 + i)) else none
theorem fq_mrow {ad : Nat → Nat} {j : Nat} {rest : List Value} (h : j < 5) : va_rf (fqMRow ad j) :: rest = .ref (ad (18 + j)) :: rest := by
  unfold fqMRow
  rw [if_pos h]
  rfl
def ZX (n : Nat) : Nat := 26 + 4 * n
def TXp (cy : Nat → ClassId) (ad : Nat → Nat) (c : Nat) (f : Nat → Int32) (g : Nat → Int64) : va_E :=
  if (c - 26) % 4 = 0 then .inr (5, [.int (f 0), .ref (ad (c + 1)), .ref (ad (c + 2)), .ref (ad (c + 3)), .int (f 4)])
  else if (c - 26) % 4 = 1 then .inl (cy 1, 7, .inr (.inl g))
  else if (c - 26) % 4 = 2 then .inl (cy 1, 7, .inr (.inl g))
  else .inl (cy 1, 8, .inr (.inl g))
def TX (cy : Nat → ClassId) : fqT := fun ad n c f g => match c with
  | 0 => .inr (8, [.ref (ad 1), .ref (ad 4), .ref (ad 7), .ref (ad 10), .ref (ad 13), .ref (ad 16), .ref (ad 23), .ref (ad 24), .ref (ad 25), .int (f 9), .int (f 10), .long (g 11), .long (g 12)])
  | 1 => .inr (6, [.ref (ad 2), .ref (ad 3), .int (f 2)])
  | 2 => .inl (cy 4, 16, .inr (.inr (.inr (.inr (fun i => (fqRow n i).map (fun p => ad (26 + 4 * p)))))))
  | 3 => .inl (cy 1, 7, .inr (.inl g))
  | 4 => .inr (7, [.ref (ad 5), .ref (ad 6), .int (f 2)])
  | 5 => .inl (cy 0, 10, .inl f)
  | 6 => .inl (cy 1, 10, .inr (.inl g))
  | 7 => .inr (7, [.ref (ad 8), .ref (ad 9), .int (f 2)])
  | 8 => .inl (cy 0, 10, .inl f)
  | 9 => .inl (cy 1, 10, .inr (.inl g))
  | 10 => .inr (3, [.ref (ad 11), .ref (ad 12), .int (f 2), .int (f 3), .int (f 4), .long (g 5)])
  | 11 => .inl (cy 0, 175, .inl f)
  | 12 => .inl (cy 1, 175, .inr (.inl g))
  | 13 => .inr (4, [.ref (ad 14), .ref (ad 15), .int (f 2)])
  | 14 => .inl (cy 0, 5, .inl f)
  | 15 => .inl (cy 0, 5, .inl f)
  | 16 => .inr (2, [.ref (ad 17), .long (g 1)])
  | 17 => .inl (cy 3, 5, .inr (.inr (.inr (.inr (fqMRow ad)))))
  | 18 => .inr (1, [.int (f 0), .int (f 1), .int (f 2), .long (g 3)])
  | 19 => .inr (1, [.int (f 0), .int (f 1), .int (f 2), .long (g 3)])
  | 20 => .inr (1, [.int (f 0), .int (f 1), .int (f 2), .long (g 3)])
  | 21 => .inr (1, [.int (f 0), .int (f 1), .int (f 2), .long (g 3)])
  | 22 => .inr (1, [.int (f 0), .int (f 1), .int (f 2), .long (g 3)])
  | 23 => .inr (0, [.long (g 0), .long (g 1), .long (g 2)])
  | 24 => .inl (cy 1, 20, .inr (.inl g))
  | 25 => .inl (cy 1, 6, .inr (.inl g))
  | k => TXp cy ad k f g
theorem zx_l {c n : Nat} (h : c < 26) : c < ZX n := by unfold ZX; omega
theorem zx_p {p n j : Nat} (h : p < n) (hj : j < 4) : 26 + 4 * p + j < ZX n := by unfold ZX; omega
theorem zx_p0 {p n : Nat} (h : p < n) : 26 + 4 * p < ZX n := by unfold ZX; omega
theorem zx_m {m n : Nat} (h : m < 5) : 18 + m < ZX n := by unfold ZX; omega
theorem zx_q {q n : Nat} (h : q = 4 ∨ q = 7) : q < ZX n := by unfold ZX; omega
theorem zx_qj {q n j : Nat} (h : q = 4 ∨ q = 7) (hj : j < 3) : q + j < ZX n := by unfold ZX; omega
theorem tx_big (cy : Nat → ClassId) (ad : Nat → Nat) (n c : Nat) (h : 26 ≤ c) (f : Nat → Int32) (g : Nat → Int64) : TX cy ad n c f g = TXp cy ad c f g := by
  obtain ⟨k, rfl⟩ : ∃ k, c = k + 26 := ⟨c - 26, by omega⟩
  rfl
theorem tx_p (cy : Nat → ClassId) (ad : Nat → Nat) (n p : Nat) : ∀ f g, TX cy ad n (26 + 4 * p) f g = .inr (5, [.int (f 0), .ref (ad (26 + 4 * p + 1)), .ref (ad (26 + 4 * p + 2)), .ref (ad (26 + 4 * p + 3)), .int (f 4)]) := fun f g => by
  rw [tx_big cy ad n _ (by omega)]
  unfold TXp
  rw [if_pos (by omega)]
theorem tx_p1 (cy : Nat → ClassId) (ad : Nat → Nat) (n p : Nat) : ∀ f g, TX cy ad n (26 + 4 * p + 1) f g = .inl (cy 1, 7, .inr (.inl g)) := fun f g => by
  rw [tx_big cy ad n _ (by omega)]
  unfold TXp
  rw [if_neg (by omega), if_pos (by omega)]
theorem tx_p2 (cy : Nat → ClassId) (ad : Nat → Nat) (n p : Nat) : ∀ f g, TX cy ad n (26 + 4 * p + 2) f g = .inl (cy 1, 7, .inr (.inl g)) := fun f g => by
  rw [tx_big cy ad n _ (by omega)]
  unfold TXp
  rw [if_neg (by omega), if_neg (by omega), if_pos (by omega)]
theorem tx_p3 (cy : Nat → ClassId) (ad : Nat → Nat) (n p : Nat) : ∀ f g, TX cy ad n (26 + 4 * p + 3) f g = .inl (cy 1, 8, .inr (.inl g)) := fun f g => by
  rw [tx_big cy ad n _ (by omega)]
  unfold TXp
  rw [if_neg (by omega), if_neg (by omega), if_neg (by omega)]
theorem tx_m (cy : Nat → ClassId) (ad : Nat → Nat) (n : Nat) {m : Nat} (h : m < 5) : ∀ f g, TX cy ad n (18 + m) f g = .inr (1, [.int (f 0), .int (f 1), .int (f 2), .long (g 3)]) := fun f g => by
  match m, h with
  | 0, _ => rfl
  | 1, _ => rfl
  | 2, _ => rfl
  | 3, _ => rfl
  | 4, _ => rfl
theorem tx_q (cy : Nat → ClassId) (ad : Nat → Nat) (n : Nat) {q : Nat} (h : q = 4 ∨ q = 7) : ∀ f g, TX cy ad n q f g = .inr (7, [.ref (ad (q + 1)), .ref (ad (q + 2)), .int (f 2)]) := fun f g => by
  rcases h with rfl | rfl <;> rfl
theorem tx_q1 (cy : Nat → ClassId) (ad : Nat → Nat) (n : Nat) {q : Nat} (h : q = 4 ∨ q = 7) : ∀ f g, TX cy ad n (q + 1) f g = .inl (cy 0, 10, .inl f) := fun f g => by
  rcases h with rfl | rfl <;> rfl
theorem tx_q2 (cy : Nat → ClassId) (ad : Nat → Nat) (n : Nat) {q : Nat} (h : q = 4 ∨ q = 7) : ∀ f g, TX cy ad n (q + 2) f g = .inl (cy 1, 10, .inr (.inl g)) := fun f g => by
  rcases h with rfl | rfl <;> rfl
def ZM (_ : Nat) : Nat := 20
def TM (cy : Nat → ClassId) : fqT := fun ad _ c f g => match c with
  | 0 => .inr (9, [.ref (ad 1), .int (f 1), .ref (ad 2), .ref (ad 3), .ref (ad 4), .ref (ad 5), .int (f 6), .int (f 7), .int (f 8), .int (f 9), .int (f 10), .int (f 11), .ref (ad 6), .ref (ad 7), .ref (ad 8), .ref (ad 9), .ref (ad 10), .ref (ad 11), .ref (ad 12), .int (f 19), .int (f 20), .int (f 21), .ref (ad 13), .ref (ad 14), .ref (ad 15), .ref (ad 16), .int (f 26), .int (f 27), .long (g 28), .ref (ad 17), .ref (ad 18), .int (f 31), .ref (ad 19)])
  | 1 => .inl (cy 0, 6, .inl f)
  | 2 => .inl (cy 0, 16, .inl f)
  | 3 => .inl (cy 1, 112, .inr (.inl g))
  | 4 => .inl (cy 1, 128, .inr (.inl g))
  | 5 => .inl (cy 0, 16, .inl f)
  | 6 => .inl (cy 0, 10, .inl f)
  | 7 => .inl (cy 0, 10, .inl f)
  | 8 => .inl (cy 2, 5, .inl f)
  | 9 => .inl (cy 0, 5, .inl f)
  | 10 => .inl (cy 0, 5, .inl f)
  | 11 => .inl (cy 0, 5, .inl f)
  | 12 => .inl (cy 0, 5, .inl f)
  | 13 => .inl (cy 0, 20, .inl f)
  | 14 => .inl (cy 1, 112, .inr (.inl g))
  | 15 => .inl (cy 0, 1024, .inl f)
  | 16 => .inl (cy 1, 1024, .inr (.inl g))
  | 17 => .inl (cy 0, 5, .inl f)
  | 18 => .inl (cy 0, 5, .inl f)
  | _ => .inl (cy 1, 7, .inr (.inl g))
