def fqH (X : fqX) (nL cells slots : Nat) (wl : va_W) (pc : Nat) (lv : List (Nat × Value)) (st : List Value) : Prop := match X with
  | (p, l, e, R, s, m, args, below, meth, c, Q, D, A) => ∀ (H : Heap) (locs : List Loc) (ls : Array Slot), (va_P D vwCl wl H ∧ va_D A wl ∧ va_S A s.heap H locs) → lv_has ls nL lv → W p l e R s m args below meth c H locs cells slots Q (F0 m pc ls st)
theorem fqH_of {X : fqX} {T : fqT} {Z : Nat → Nat} {ad : Nat → Nat} {n nL cells slots : Nat} {σ : fqS} {pc : Nat} {lv : List (Nat × Value)} {st : List Value} (h : fqG X T Z ad n nL cells slots σ pc lv st) : fqH X nL cells slots (fqW T Z ad n σ) pc lv st := by
  obtain ⟨p, l, e, R, s, m, args, below, meth, c, Q, D, A⟩ := X
  exact h
theorem fqG_of {X : fqX} {T : fqT} {Z : Nat → Nat} {ad : Nat → Nat} {n nL cells slots : Nat} {σ : fqS} {pc : Nat} {lv : List (Nat × Value)} {st : List Value} (h : fqH X nL cells slots (fqW T Z ad n σ) pc lv st) : fqG X T Z ad n nL cells slots σ pc lv st := by
  obtain ⟨p, l, e, R, s, m, args, below, meth, c, Q, D, A⟩ := X
  exact h
theorem h_wl {X : fqX} {nL cells slots : Nat} {wl wl' : va_W} {pc : Nat} {lv : List (Nat × Value)} {st : List Value} (h : wl = wl') (k : fqH X nL cells slots wl' pc lv st) : fqH X nL cells slots wl pc lv st := h ▸ k
theorem h_widen {X : fqX} {nL cells slots c2 s2 : Nat} {wl : va_W} {pc : Nat} {lv : List (Nat × Value)} {st : List Value} (h1 : cells ≤ c2) (h2 : slots ≤ s2) (k : fqH X nL c2 s2 wl pc lv st) : fqH X nL cells slots wl pc lv st := by
  obtain ⟨p, l, e, R, s, m, args, below, meth, c, Q, D, A⟩ := X
  exact fun H locs ls hw hl => W.widen h1 h2 (k H locs ls hw hl)
section FQH
theorem h_iadd {X : fqX} {rm : Room} {cy : Nat → ClassId} {cc : ByteArray} {nL : Nat} {Ts : List Cond} {own : String} {cells slots : Nat} {wl : va_W} {pc : Nat} {lv : List (Nat × Value)} {rest : List Value} (E : fqE X rm cy cc nL Ts own) {x y : Int32} (hdg : decode cc pc = .ok (.iadd, 1)) 
    (k : fqH X nL cells slots wl (pc + 1) lv (.int (x + y) :: rest)) : fqH X nL cells slots wl pc lv (.int y :: .int x :: rest) := by
  obtain ⟨p, l, e, R, s, m, args, below, meth, c, Q, D, A⟩ := X
  obtain ⟨⟨hx, hb, hml, hown, hts⟩, hK, hA, hR⟩ := E
  exact fun H locs ls hw hl => lv_iadd hx hb hdg  (k H locs ls hw hl)
theorem h_isub {X : fqX} {rm : Room} {cy : Nat → ClassId} {cc : ByteArray} {nL : Nat} {Ts : List Cond} {own : String} {cells slots : Nat} {wl : va_W} {pc : Nat} {lv : List (Nat × Value)} {rest : List Value} (E : fqE X rm cy cc nL Ts own) {x y : Int32} (hdg : decode cc pc = .ok (.isub, 1)) 
    (k : fqH X nL cells slots wl (pc + 1) lv (.int (x - y) :: rest)) : fqH X nL cells slots wl pc lv (.int y :: .int x :: rest) := by
  obtain ⟨p, l, e, R, s, m, args, below, meth, c, Q, D, A⟩ := X
  obtain ⟨⟨hx, hb, hml, hown, hts⟩, hK, hA, hR⟩ := E
  exact fun H locs ls hw hl => lv_isub hx hb hdg  (k H locs ls hw hl)
theorem h_imul {X : fqX} {rm : Room} {cy : Nat → ClassId} {cc : ByteArray} {nL : Nat} {Ts : List Cond} {own : String} {cells slots : Nat} {wl : va_W} {pc : Nat} {lv : List (Nat × Value)} {rest : List Value} (E : fqE X rm cy cc nL Ts own) {x y : Int32} (hdg : decode cc pc = .ok (.imul, 1)) 
    (k : fqH X nL cells slots wl (pc + 1) lv (.int (x * y) :: rest)) : fqH X nL cells slots wl pc lv (.int y :: .int x :: rest) := by
  obtain ⟨p, l, e, R, s, m, args, below, meth, c, Q, D, A⟩ := X
  obtain ⟨⟨hx, hb, hml, hown, hts⟩, hK, hA, hR⟩ := E
  exact fun H locs ls hw hl => lv_imul hx hb hdg  (k H locs ls hw hl)
theorem h_iand {X : fqX} {rm : Room} {cy : Nat → ClassId} {cc : ByteArray} {nL : Nat} {Ts : List Cond} {own : String} {cells slots : Nat} {wl : va_W} {pc : Nat} {lv : List (Nat × Value)} {rest : List Value} (E : fqE X rm cy cc nL Ts own) {x y : Int32} (hdg : decode cc pc = .ok (.iand, 1)) 
    (k : fqH X nL cells slots wl (pc + 1) lv (.int (x &&& y) :: rest)) : fqH X nL cells slots wl pc lv (.int y :: .int x :: rest) := by
  obtain ⟨p, l, e, R, s, m, args, below, meth, c, Q, D, A⟩ := X
  obtain ⟨⟨hx, hb, hml, hown, hts⟩, hK, hA, hR⟩ := E
  exact fun H locs ls hw hl => lv_iand hx hb hdg  (k H locs ls hw hl)
theorem h_ior {X : fqX} {rm : Room} {cy : Nat → ClassId} {cc : ByteArray} {nL : Nat} {Ts : List Cond} {own : String} {cells slots : Nat} {wl : va_W} {pc : Nat} {lv : List (Nat × Value)} {rest : List Value} (E : fqE X rm cy cc nL Ts own) {x y : Int32} (hdg : decode cc pc = .ok (.ior, 1)) 
    (k : fqH X nL cells slots wl (pc + 1) lv (.int (x ||| y) :: rest)) : fqH X nL cells slots wl pc lv (.int y :: .int x :: rest) := by
  obtain ⟨p, l, e, R, s, m, args, below, meth, c, Q, D, A⟩ := X
  obtain ⟨⟨hx, hb, hml, hown, hts⟩, hK, hA, hR⟩ := E
  exact fun H locs ls hw hl => lv_ior hx hb hdg  (k H locs ls hw hl)
theorem h_ixor {X : fqX} {rm : Room} {cy : Nat → ClassId} {cc : ByteArray} {nL : Nat} {Ts : List Cond} {own : String} {cells slots : Nat} {wl : va_W} {pc : Nat} {lv : List (Nat × Value)} {rest : List Value} (E : fqE X rm cy cc nL Ts own) {x y : Int32} (hdg : decode cc pc = .ok (.ixor, 1)) 
    (k : fqH X nL cells slots wl (pc + 1) lv (.int (x ^^^ y) :: rest)) : fqH X nL cells slots wl pc lv (.int y :: .int x :: rest) := by
  obtain ⟨p, l, e, R, s, m, args, below, meth, c, Q, D, A⟩ := X
  obtain ⟨⟨hx, hb, hml, hown, hts⟩, hK, hA, hR⟩ := E
  exact fun H locs ls hw hl => lv_ixor hx hb hdg  (k H locs ls hw hl)
theorem h_ladd {X : fqX} {rm : Room} {cy : Nat → ClassId} {cc : ByteArray} {nL : Nat} {Ts : List Cond} {own : String} {cells slots : Nat} {wl : va_W} {pc : Nat} {lv : List (Nat × Value)} {rest : List Value} (E : fqE X rm cy cc nL Ts own) {x y : Int64} (hdg : decode cc pc = .ok (.ladd, 1)) 
    (k : fqH X nL cells slots wl (pc + 1) lv (.long (x + y) :: rest)) : fqH X nL cells slots wl pc lv (.long y :: .long x :: rest) := by
  obtain ⟨p, l, e, R, s, m, args, below, meth, c, Q, D, A⟩ := X
  obtain ⟨⟨hx, hb, hml, hown, hts⟩, hK, hA, hR⟩ := E
  exact fun H locs ls hw hl => lv_ladd hx hb hdg  (k H locs ls hw hl)
theorem h_lsub {X : fqX} {rm : Room} {cy : Nat → ClassId} {cc : ByteArray} {nL : Nat} {Ts : List Cond} {own : String} {cells slots : Nat} {wl : va_W} {pc : Nat} {lv : List (Nat × Value)} {rest : List Value} (E : fqE X rm cy cc nL Ts own) {x y : Int64} (hdg : decode cc pc = .ok (.lsub, 1)) 
    (k : fqH X nL cells slots wl (pc + 1) lv (.long (x - y) :: rest)) : fqH X nL cells slots wl pc lv (.long y :: .long x :: rest) := by
  obtain ⟨p, l, e, R, s, m, args, below, meth, c, Q, D, A⟩ := X
  obtain ⟨⟨hx, hb, hml, hown, hts⟩, hK, hA, hR⟩ := E
  exact fun H locs ls hw hl => lv_lsub hx hb hdg  (k H locs ls hw hl)
theorem h_lmul {X : fqX} {rm : Room} {cy : Nat → ClassId} {cc : ByteArray} {nL : Nat} {Ts : List Cond} {own : String} {cells slots : Nat} {wl : va_W} {pc : Nat} {lv : List (Nat × Value)} {rest : List Value} (E : fqE X rm cy cc nL Ts own) {x y : Int64} (hdg : decode cc pc = .ok (.lmul, 1)) 
    (k : fqH X nL cells slots wl (pc + 1) lv (.long (x * y) :: rest)) : fqH X nL cells slots wl pc lv (.long y :: .long x :: rest) := by
  obtain ⟨p, l, e, R, s, m, args, below, meth, c, Q, D, A⟩ := X
  obtain ⟨⟨hx, hb, hml, hown, hts⟩, hK, hA, hR⟩ := E
  exact fun H locs ls hw hl => lv_lmul hx hb hdg  (k H locs ls hw hl)
theorem h_ineg {X : fqX} {rm : Room} {cy : Nat → ClassId} {cc : ByteArray} {nL : Nat} {Ts : List Cond} {own : String} {cells slots : Nat} {wl : va_W} {pc : Nat} {lv : List (Nat × Value)} {rest : List Value} (E : fqE X rm cy cc nL Ts own) {x : Int32} (hdg : decode cc pc = .ok (.ineg, 1)) 
    (k : fqH X nL cells slots wl (pc + 1) lv (.int (-x) :: rest)) : fqH X nL cells slots wl pc lv (.int x :: rest) := by
  obtain ⟨p, l, e, R, s, m, args, below, meth, c, Q, D, A⟩ := X
  obtain ⟨⟨hx, hb, hml, hown, hts⟩, hK, hA, hR⟩ := E
  exact fun H locs ls hw hl => lv_ineg hx hb hdg  (k H locs ls hw hl)
theorem h_lneg {X : fqX} {rm : Room} {cy : Nat → ClassId} {cc : ByteArray} {nL : Nat} {Ts : List Cond} {own : String} {cells slots : Nat} {wl : va_W} {pc : Nat} {lv : List (Nat × Value)} {rest : List Value} (E : fqE X rm cy cc nL Ts own) {x : Int64} (hdg : decode cc pc = .ok (.lneg, 1)) 
    (k : fqH X nL cells slots wl (pc + 1) lv (.long (-x) :: rest)) : fqH X nL cells slots wl pc lv (.long x :: rest) := by
  obtain ⟨p, l, e, R, s, m, args, below, meth, c, Q, D, A⟩ := X
  obtain ⟨⟨hx, hb, hml, hown, hts⟩, hK, hA, hR⟩ := E
  exact fun H locs ls hw hl => lv_lneg hx hb hdg  (k H locs ls hw hl)
theorem h_ldiv {X : fqX} {rm : Room} {cy : Nat → ClassId} {cc : ByteArray} {nL : Nat} {Ts : List Cond} {own : String} {cells slots : Nat} {wl : va_W} {pc : Nat} {lv : List (Nat × Value)} {rest : List Value} (E : fqE X rm cy cc nL Ts own) {x y : Int64} (hdg : decode cc pc = .ok (.ldiv, 1)) (hne : ¬ y = 0)
    (k : fqH X nL cells slots wl (pc + 1) lv (.long (x / y) :: rest)) : fqH X nL cells slots wl pc lv (.long y :: .long x :: rest) := by
  obtain ⟨p, l, e, R, s, m, args, below, meth, c, Q, D, A⟩ := X
  obtain ⟨⟨hx, hb, hml, hown, hts⟩, hK, hA, hR⟩ := E
  exact fun H locs ls hw hl => lv_ldiv hx hb hdg hne (k H locs ls hw hl)
theorem h_ishl {X : fqX} {rm : Room} {cy : Nat → ClassId} {cc : ByteArray} {nL : Nat} {Ts : List Cond} {own : String} {cells slots : Nat} {wl : va_W} {pc : Nat} {lv : List (Nat × Value)} {rest : List Value} (E : fqE X rm cy cc nL Ts own) {x y : Int32} (hdg : decode cc pc = .ok (.ishl, 1)) 
    (k : fqH X nL cells slots wl (pc + 1) lv (.int (x <<< (y &&& 31)) :: rest)) : fqH X nL cells slots wl pc lv (.int y :: .int x :: rest) := by
  obtain ⟨p, l, e, R, s, m, args, below, meth, c, Q, D, A⟩ := X
  obtain ⟨⟨hx, hb, hml, hown, hts⟩, hK, hA, hR⟩ := E
  exact fun H locs ls hw hl => lv_ishl hx hb hdg  (k H locs ls hw hl)
theorem h_ishr {X : fqX} {rm : Room} {cy : Nat → ClassId} {cc : ByteArray} {nL : Nat} {Ts : List Cond} {own : String} {cells slots : Nat} {wl : va_W} {pc : Nat} {lv : List (Nat × Value)} {rest : List Value} (E : fqE X rm cy cc nL Ts own) {x y : Int32} (hdg : decode cc pc = .ok (.ishr, 1)) 
    (k : fqH X nL cells slots wl (pc + 1) lv (.int (x >>> (y &&& 31)) :: rest)) : fqH X nL cells slots wl pc lv (.int y :: .int x :: rest) := by
  obtain ⟨p, l, e, R, s, m, args, below, meth, c, Q, D, A⟩ := X
  obtain ⟨⟨hx, hb, hml, hown, hts⟩, hK, hA, hR⟩ := E
  exact fun H locs ls hw hl => lv_ishr hx hb hdg  (k H locs ls hw hl)
theorem h_iushr {X : fqX} {rm : Room} {cy : Nat → ClassId} {cc : ByteArray} {nL : Nat} {Ts : List Cond} {own : String} {cells slots : Nat} {wl : va_W} {pc : Nat} {lv : List (Nat × Value)} {rest : List Value} (E : fqE X rm cy cc nL Ts own) {x y : Int32} (hdg : decode cc pc = .ok (.iushr, 1)) 
    (k : fqH X nL cells slots wl (pc + 1) lv (.int ((x.toUInt32 >>> (y.toUInt32 &&& Int32.toUInt32 31)).toInt32) :: rest)) : fqH X nL cells slots wl pc lv (.int y :: .int x :: rest) := by
  obtain ⟨p, l, e, R, s, m, args, below, meth, c, Q, D, A⟩ := X
  obtain ⟨⟨hx, hb, hml, hown, hts⟩, hK, hA, hR⟩ := E
  exact fun H locs ls hw hl => lv_iushr hx hb hdg rfl (k H locs ls hw hl)
theorem h_i2l {X : fqX} {rm : Room} {cy : Nat → ClassId} {cc : ByteArray} {nL : Nat} {Ts : List Cond} {own : String} {cells slots : Nat} {wl : va_W} {pc : Nat} {lv : List (Nat × Value)} {rest : List Value} (E : fqE X rm cy cc nL Ts own) {x : Int32} (hdg : decode cc pc = .ok (.i2l, 1)) 
    (k : fqH X nL cells slots wl (pc + 1) lv (.long x.toInt64 :: rest)) : fqH X nL cells slots wl pc lv (.int x :: rest) := by
  obtain ⟨p, l, e, R, s, m, args, below, meth, c, Q, D, A⟩ := X
  obtain ⟨⟨hx, hb, hml, hown, hts⟩, hK, hA, hR⟩ := E
  exact fun H locs ls hw hl => lv_i2l hx hb hdg rfl (k H locs ls hw hl)
theorem h_l2i {X : fqX} {rm : Room} {cy : Nat → ClassId} {cc : ByteArray} {nL : Nat} {Ts : List Cond} {own : String} {cells slots : Nat} {wl : va_W} {pc : Nat} {lv : List (Nat × Value)} {rest : List Value} (E : fqE X rm cy cc nL Ts own) {x : Int64} (hdg : decode cc pc = .ok (.l2i, 1)) 
    (k : fqH X nL cells slots wl (pc + 1) lv (.int x.toInt32 :: rest)) : fqH X nL cells slots wl pc lv (.long x :: rest) := by
  obtain ⟨p, l, e, R, s, m, args, below, meth, c, Q, D, A⟩ := X
  obtain ⟨⟨hx, hb, hml, hown, hts⟩, hK, hA, hR⟩ := E
  exact fun H locs ls hw hl => lv_l2i hx hb hdg rfl (k H locs ls hw hl)
theorem h_dup {X : fqX} {rm : Room} {cy : Nat → ClassId} {cc : ByteArray} {nL : Nat} {Ts : List Cond} {own : String} {cells slots : Nat} {wl : va_W} {pc : Nat} {lv : List (Nat × Value)} {rest : List Value} (E : fqE X rm cy cc nL Ts own) {v : Value} (hdg : decode cc pc = .ok (.dup, 1)) (hv : v.category = 1)
    (k : fqH X nL cells slots wl (pc + 1) lv (v :: v :: rest)) : fqH X nL cells slots wl pc lv (v :: rest) := by
  obtain ⟨p, l, e, R, s, m, args, below, meth, c, Q, D, A⟩ := X
  obtain ⟨⟨hx, hb, hml, hown, hts⟩, hK, hA, hR⟩ := E
  exact fun H locs ls hw hl => lv_dup hx hb hdg hv (k H locs ls hw hl)
theorem h_dup2_11 {X : fqX} {rm : Room} {cy : Nat → ClassId} {cc : ByteArray} {nL : Nat} {Ts : List Cond} {own : String} {cells slots : Nat} {wl : va_W} {pc : Nat} {lv : List (Nat × Value)} {rest : List Value} (E : fqE X rm cy cc nL Ts own) {v u : Value} (hdg : decode cc pc = .ok (.dup2, 1)) (hv : v.category = 1) (hu : u.category = 1)
    (k : fqH X nL cells slots wl (pc + 1) lv (v :: u :: v :: u :: rest)) : fqH X nL cells slots wl pc lv (v :: u :: rest) := by
  obtain ⟨p, l, e, R, s, m, args, below, meth, c, Q, D, A⟩ := X
  obtain ⟨⟨hx, hb, hml, hown, hts⟩, hK, hA, hR⟩ := E
  exact fun H locs ls hw hl => lv_dup2_11 hx hb hdg hv hu (k H locs ls hw hl)
theorem h_dup2_2 {X : fqX} {rm : Room} {cy : Nat → ClassId} {cc : ByteArray} {nL : Nat} {Ts : List Cond} {own : String} {cells slots : Nat} {wl : va_W} {pc : Nat} {lv : List (Nat × Value)} {rest : List Value} (E : fqE X rm cy cc nL Ts own) {v : Value} (hdg : decode cc pc = .ok (.dup2, 1)) (hv : v.category = 2)
    (k : fqH X nL cells slots wl (pc + 1) lv (v :: v :: rest)) : fqH X nL cells slots wl pc lv (v :: rest) := by
  obtain ⟨p, l, e, R, s, m, args, below, meth, c, Q, D, A⟩ := X
  obtain ⟨⟨hx, hb, hml, hown, hts⟩, hK, hA, hR⟩ := E
  exact fun H locs ls hw hl => lv_dup2_2 hx hb hdg hv (k H locs ls hw hl)
theorem h_pop {X : fqX} {rm : Room} {cy : Nat → ClassId} {cc : ByteArray} {nL : Nat} {Ts : List Cond} {own : String} {cells slots : Nat} {wl : va_W} {pc : Nat} {lv : List (Nat × Value)} {rest : List Value} (E : fqE X rm cy cc nL Ts own) {v : Value} (hdg : decode cc pc = .ok (.pop, 1)) (hv : v.category = 1)
    (k : fqH X nL cells slots wl (pc + 1) lv (rest)) : fqH X nL cells slots wl pc lv (v :: rest) := by
  obtain ⟨p, l, e, R, s, m, args, below, meth, c, Q, D, A⟩ := X
  obtain ⟨⟨hx, hb, hml, hown, hts⟩, hK, hA, hR⟩ := E
  exact fun H locs ls hw hl => lv_pop hx hb hdg hv (k H locs ls hw hl)
theorem h_iconst {X : fqX} {rm : Room} {cy : Nat → ClassId} {cc : ByteArray} {nL : Nat} {Ts : List Cond} {own : String} {cells slots : Nat} {wl : va_W} {pc : Nat} {lv : List (Nat × Value)} {rest : List Value} (E : fqE X rm cy cc nL Ts own) {i : Int} (v : Int32) (hdg : decode cc pc = .ok (.iconst i, 1)) (hv : Int32.ofInt i = v)
    (k : fqH X nL cells slots wl (pc + 1) lv (.int v :: rest)) : fqH X nL cells slots wl pc lv (rest) := by
  obtain ⟨p, l, e, R, s, m, args, below, meth, c, Q, D, A⟩ := X
  obtain ⟨⟨hx, hb, hml, hown, hts⟩, hK, hA, hR⟩ := E
  exact fun H locs ls hw hl => lv_iconst hx hb hdg hv (k H locs ls hw hl)
theorem h_bipush {X : fqX} {rm : Room} {cy : Nat → ClassId} {cc : ByteArray} {nL : Nat} {Ts : List Cond} {own : String} {cells slots : Nat} {wl : va_W} {pc : Nat} {lv : List (Nat × Value)} {rest : List Value} (E : fqE X rm cy cc nL Ts own) {i : Int} (v : Int32) (hdg : decode cc pc = .ok (.bipush i, 2)) (hv : (Int8.ofInt i).toInt32 = v)
    (k : fqH X nL cells slots wl (pc + 2) lv (.int v :: rest)) : fqH X nL cells slots wl pc lv (rest) := by
  obtain ⟨p, l, e, R, s, m, args, below, meth, c, Q, D, A⟩ := X
  obtain ⟨⟨hx, hb, hml, hown, hts⟩, hK, hA, hR⟩ := E
  exact fun H locs ls hw hl => lv_bipush hx hb hdg hv (k H locs ls hw hl)
theorem h_sipush {X : fqX} {rm : Room} {cy : Nat → ClassId} {cc : ByteArray} {nL : Nat} {Ts : List Cond} {own : String} {cells slots : Nat} {wl : va_W} {pc : Nat} {lv : List (Nat × Value)} {rest : List Value} (E : fqE X rm cy cc nL Ts own) {i : Int} (v : Int32) (hdg : decode cc pc = .ok (.sipush i, 3)) (hv : (Int16.ofInt i).toInt32 = v)
    (k : fqH X nL cells slots wl (pc + 3) lv (.int v :: rest)) : fqH X nL cells slots wl pc lv (rest) := by
  obtain ⟨p, l, e, R, s, m, args, below, meth, c, Q, D, A⟩ := X
  obtain ⟨⟨hx, hb, hml, hown, hts⟩, hK, hA, hR⟩ := E
  exact fun H locs ls hw hl => lv_sipush hx hb hdg hv (k H locs ls hw hl)
theorem h_lconst {X : fqX} {rm : Room} {cy : Nat → ClassId} {cc : ByteArray} {nL : Nat} {Ts : List Cond} {own : String} {cells slots : Nat} {wl : va_W} {pc : Nat} {lv : List (Nat × Value)} {rest : List Value} (E : fqE X rm cy cc nL Ts own) {i : Fin 2} (v : Int64) (hdg : decode cc pc = .ok (.lconst i, 1)) (hv : Int64.ofNat (i : Nat) = v)
    (k : fqH X nL cells slots wl (pc + 1) lv (.long v :: rest)) : fqH X nL cells slots wl pc lv (rest) := by
  obtain ⟨p, l, e, R, s, m, args, below, meth, c, Q, D, A⟩ := X
  obtain ⟨⟨hx, hb, hml, hown, hts⟩, hK, hA, hR⟩ := E
  exact fun H locs ls hw hl => lv_lconst hx hb hdg hv (k H locs ls hw hl)
theorem h_null {X : fqX} {rm : Room} {cy : Nat → ClassId} {cc : ByteArray} {nL : Nat} {Ts : List Cond} {own : String} {cells slots : Nat} {wl : va_W} {pc : Nat} {lv : List (Nat × Value)} {rest : List Value} (E : fqE X rm cy cc nL Ts own)  (hdg : decode cc pc = .ok (.aconst_null, 1)) 
    (k : fqH X nL cells slots wl (pc + 1) lv (.null :: rest)) : fqH X nL cells slots wl pc lv (rest) := by
  obtain ⟨p, l, e, R, s, m, args, below, meth, c, Q, D, A⟩ := X
  obtain ⟨⟨hx, hb, hml, hown, hts⟩, hK, hA, hR⟩ := E
  exact fun H locs ls hw hl => lv_null hx hb hdg  (k H locs ls hw hl)
theorem h_ldc {X : fqX} {rm : Room} {cy : Nat → ClassId} {cc : ByteArray} {nL : Nat} {Ts : List Cond} {own : String} {cells slots : Nat} {wl : va_W} {pc : Nat} {lv : List (Nat × Value)} {rest : List Value} (E : fqE X rm cy cc nL Ts own) {i : Nat} {v : Int32} (hdg : decode cc pc = .ok (.ldc i, 2)) (hc : Cond.constant own i v ∈ Ts)
    (k : fqH X nL cells slots wl (pc + 2) lv (.int v :: rest)) : fqH X nL cells slots wl pc lv (rest) := by
  obtain ⟨p, l, e, R, s, m, args, below, meth, c, Q, D, A⟩ := X
  obtain ⟨⟨hx, hb, hml, hown, hts⟩, hK, hA, hR⟩ := E
  exact fun H locs ls hw hl => lv_ldc hx hb hown (hts _ hc) hdg (k H locs ls hw hl)
theorem h_ldc_w {X : fqX} {rm : Room} {cy : Nat → ClassId} {cc : ByteArray} {nL : Nat} {Ts : List Cond} {own : String} {cells slots : Nat} {wl : va_W} {pc : Nat} {lv : List (Nat × Value)} {rest : List Value} (E : fqE X rm cy cc nL Ts own) {i : Nat} {v : Int32} (hdg : decode cc pc = .ok (.ldc_w i, 3)) (hc : Cond.constant own i v ∈ Ts)
    (k : fqH X nL cells slots wl (pc + 3) lv (.int v :: rest)) : fqH X nL cells slots wl pc lv (rest) := by
  obtain ⟨p, l, e, R, s, m, args, below, meth, c, Q, D, A⟩ := X
  obtain ⟨⟨hx, hb, hml, hown, hts⟩, hK, hA, hR⟩ := E
  exact fun H locs ls hw hl => lv_ldcw hx hb hown (hts _ hc) hdg (k H locs ls hw hl)
theorem h_ldc2_w {X : fqX} {rm : Room} {cy : Nat → ClassId} {cc : ByteArray} {nL : Nat} {Ts : List Cond} {own : String} {cells slots : Nat} {wl : va_W} {pc : Nat} {lv : List (Nat × Value)} {rest : List Value} (E : fqE X rm cy cc nL Ts own) {i : Nat} {v : Int64} (hdg : decode cc pc = .ok (.ldc2_w i, 3)) (hc : Cond.constantLong own i v ∈ Ts)
    (k : fqH X nL cells slots wl (pc + 3) lv (.long v :: rest)) : fqH X nL cells slots wl pc lv (rest) := by
  obtain ⟨p, l, e, R, s, m, args, below, meth, c, Q, D, A⟩ := X
  obtain ⟨⟨hx, hb, hml, hown, hts⟩, hK, hA, hR⟩ := E
  exact fun H locs ls hw hl => lv_ldc2 hx hb hown (hts _ hc) hdg (k H locs ls hw hl)
theorem h_iload_n {X : fqX} {rm : Room} {cy : Nat → ClassId} {cc : ByteArray} {nL : Nat} {Ts : List Cond} {own : String} {cells slots : Nat} {wl : va_W} {pc : Nat} {lv : List (Nat × Value)} {rest : List Value} (E : fqE X rm cy cc nL Ts own) {j : Fin 4} {i : Nat} {x : Int32} (hdg : decode cc pc = .ok (.iload_n j, 1)) (q : Nat) (hq : lv[q]? = some (i, .int x)) (hi : (j : Nat) = i)
    (k : fqH X nL cells slots wl (pc + 1) lv (.int x :: rest)) : fqH X nL cells slots wl pc lv (rest) := by
  obtain ⟨p, l, e, R, s, m, args, below, meth, c, Q, D, A⟩ := X
  obtain ⟨⟨hx, hb, hml, hown, hts⟩, hK, hA, hR⟩ := E
  exact fun H locs ls hw hl => lv_iload_n hx hb hdg hi (lv_at hl q hq) (k H locs ls hw hl)
theorem h_iload {X : fqX} {rm : Room} {cy : Nat → ClassId} {cc : ByteArray} {nL : Nat} {Ts : List Cond} {own : String} {cells slots : Nat} {wl : va_W} {pc : Nat} {lv : List (Nat × Value)} {rest : List Value} (E : fqE X rm cy cc nL Ts own) {i : Nat} {x : Int32} (hdg : decode cc pc = .ok (.iload i, 2)) (q : Nat) (hq : lv[q]? = some (i, .int x))
    (k : fqH X nL cells slots wl (pc + 2) lv (.int x :: rest)) : fqH X nL cells slots wl pc lv (rest) := by
  obtain ⟨p, l, e, R, s, m, args, below, meth, c, Q, D, A⟩ := X
  obtain ⟨⟨hx, hb, hml, hown, hts⟩, hK, hA, hR⟩ := E
  exact fun H locs ls hw hl => lv_iload hx hb hdg (lv_at hl q hq) (k H locs ls hw hl)
theorem h_istore_n {X : fqX} {rm : Room} {cy : Nat → ClassId} {cc : ByteArray} {nL : Nat} {Ts : List Cond} {own : String} {cells slots : Nat} {wl : va_W} {pc : Nat} {lv : List (Nat × Value)} {rest : List Value} (E : fqE X rm cy cc nL Ts own) {j : Fin 4} {i : Nat} {x : Int32} (lv' : List (Nat × Value)) (hdg : decode cc pc = .ok (.istore_n j, 1)) (hi : (j : Nat) = i) (hn : i < nL) (hv : (i, Value.int x) :: lv.filter (fun q => !(q.1 == i) && !(q.1 + 1 == i && q.2.category == 2)) = lv')
    (k : fqH X nL cells slots wl (pc + 1) lv' (rest)) : fqH X nL cells slots wl pc lv (.int x :: rest) := by
  obtain ⟨p, l, e, R, s, m, args, below, meth, c, Q, D, A⟩ := X
  obtain ⟨⟨hx, hb, hml, hown, hts⟩, hK, hA, hR⟩ := E
  exact fun H locs ls hw hl => lv_istore_n hx hb hdg hi hl hn hv (fun ls hl => k H locs ls hw hl)
theorem h_istore {X : fqX} {rm : Room} {cy : Nat → ClassId} {cc : ByteArray} {nL : Nat} {Ts : List Cond} {own : String} {cells slots : Nat} {wl : va_W} {pc : Nat} {lv : List (Nat × Value)} {rest : List Value} (E : fqE X rm cy cc nL Ts own) {i : Nat} {x : Int32} (lv' : List (Nat × Value)) (hdg : decode cc pc = .ok (.istore i, 2)) (hn : i < nL) (hv : (i, Value.int x) :: lv.filter (fun q => !(q.1 == i) && !(q.1 + 1 == i && q.2.category == 2)) = lv')
    (k : fqH X nL cells slots wl (pc + 2) lv' (rest)) : fqH X nL cells slots wl pc lv (.int x :: rest) := by
  obtain ⟨p, l, e, R, s, m, args, below, meth, c, Q, D, A⟩ := X
  obtain ⟨⟨hx, hb, hml, hown, hts⟩, hK, hA, hR⟩ := E
  exact fun H locs ls hw hl => lv_istore hx hb hdg hl hn hv (fun ls hl => k H locs ls hw hl)
theorem h_lload_n {X : fqX} {rm : Room} {cy : Nat → ClassId} {cc : ByteArray} {nL : Nat} {Ts : List Cond} {own : String} {cells slots : Nat} {wl : va_W} {pc : Nat} {lv : List (Nat × Value)} {rest : List Value} (E : fqE X rm cy cc nL Ts own) {j : Fin 4} {i : Nat} {x : Int64} (hdg : decode cc pc = .ok (.lload_n j, 1)) (q : Nat) (hq : lv[q]? = some (i, .long x)) (hi : (j : Nat) = i)
    (k : fqH X nL cells slots wl (pc + 1) lv (.long x :: rest)) : fqH X nL cells slots wl pc lv (rest) := by
  obtain ⟨p, l, e, R, s, m, args, below, meth, c, Q, D, A⟩ := X
  obtain ⟨⟨hx, hb, hml, hown, hts⟩, hK, hA, hR⟩ := E
  exact fun H locs ls hw hl => lv_lload_n hx hb hdg hi (lv_at hl q hq) (k H locs ls hw hl)
theorem h_lload {X : fqX} {rm : Room} {cy : Nat → ClassId} {cc : ByteArray} {nL : Nat} {Ts : List Cond} {own : String} {cells slots : Nat} {wl : va_W} {pc : Nat} {lv : List (Nat × Value)} {rest : List Value} (E : fqE X rm cy cc nL Ts own) {i : Nat} {x : Int64} (hdg : decode cc pc = .ok (.lload i, 2)) (q : Nat) (hq : lv[q]? = some (i, .long x))
    (k : fqH X nL cells slots wl (pc + 2) lv (.long x :: rest)) : fqH X nL cells slots wl pc lv (rest) := by
  obtain ⟨p, l, e, R, s, m, args, below, meth, c, Q, D, A⟩ := X
  obtain ⟨⟨hx, hb, hml, hown, hts⟩, hK, hA, hR⟩ := E
  exact fun H locs ls hw hl => lv_lload hx hb hdg (lv_at hl q hq) (k H locs ls hw hl)
theorem h_lstore_n {X : fqX} {rm : Room} {cy : Nat → ClassId} {cc : ByteArray} {nL : Nat} {Ts : List Cond} {own : String} {cells slots : Nat} {wl : va_W} {pc : Nat} {lv : List (Nat × Value)} {rest : List Value} (E : fqE X rm cy cc nL Ts own) {j : Fin 4} {i : Nat} {x : Int64} (lv' : List (Nat × Value)) (hdg : decode cc pc = .ok (.lstore_n j, 1)) (hi : (j : Nat) = i) (hn : i + 1 < nL) (hv : (i, Value.long x) :: lv.filter (fun q => !(q.1 == i) && (!(q.1 == i + 1) && !(q.1 + 1 == i && q.2.category == 2))) = lv')
    (k : fqH X nL cells slots wl (pc + 1) lv' (rest)) : fqH X nL cells slots wl pc lv (.long x :: rest) := by
  obtain ⟨p, l, e, R, s, m, args, below, meth, c, Q, D, A⟩ := X
  obtain ⟨⟨hx, hb, hml, hown, hts⟩, hK, hA, hR⟩ := E
  exact fun H locs ls hw hl => lv_lstore_n hx hb hdg hi hl hn hv (fun ls hl => k H locs ls hw hl)
theorem h_lstore {X : fqX} {rm : Room} {cy : Nat → ClassId} {cc : ByteArray} {nL : Nat} {Ts : List Cond} {own : String} {cells slots : Nat} {wl : va_W} {pc : Nat} {lv : List (Nat × Value)} {rest : List Value} (E : fqE X rm cy cc nL Ts own) {i : Nat} {x : Int64} (lv' : List (Nat × Value)) (hdg : decode cc pc = .ok (.lstore i, 2)) (hn : i + 1 < nL) (hv : (i, Value.long x) :: lv.filter (fun q => !(q.1 == i) && (!(q.1 == i + 1) && !(q.1 + 1 == i && q.2.category == 2))) = lv')
    (k : fqH X nL cells slots wl (pc + 2) lv' (rest)) : fqH X nL cells slots wl pc lv (.long x :: rest) := by
  obtain ⟨p, l, e, R, s, m, args, below, meth, c, Q, D, A⟩ := X
  obtain ⟨⟨hx, hb, hml, hown, hts⟩, hK, hA, hR⟩ := E
  exact fun H locs ls hw hl => lv_lstore hx hb hdg hl hn hv (fun ls hl => k H locs ls hw hl)
theorem h_aload_n {X : fqX} {rm : Room} {cy : Nat → ClassId} {cc : ByteArray} {nL : Nat} {Ts : List Cond} {own : String} {cells slots : Nat} {wl : va_W} {pc : Nat} {lv : List (Nat × Value)} {rest : List Value} (E : fqE X rm cy cc nL Ts own) {j : Fin 4} {i : Nat} {x : Nat} (hdg : decode cc pc = .ok (.aload_n j, 1)) (q : Nat) (hq : lv[q]? = some (i, .ref x)) (hi : (j : Nat) = i)
    (k : fqH X nL cells slots wl (pc + 1) lv (.ref x :: rest)) : fqH X nL cells slots wl pc lv (rest) := by
  obtain ⟨p, l, e, R, s, m, args, below, meth, c, Q, D, A⟩ := X
  obtain ⟨⟨hx, hb, hml, hown, hts⟩, hK, hA, hR⟩ := E
  exact fun H locs ls hw hl => lv_aload_n hx hb hdg hi (lv_at hl q hq) (k H locs ls hw hl)
theorem h_aload {X : fqX} {rm : Room} {cy : Nat → ClassId} {cc : ByteArray} {nL : Nat} {Ts : List Cond} {own : String} {cells slots : Nat} {wl : va_W} {pc : Nat} {lv : List (Nat × Value)} {rest : List Value} (E : fqE X rm cy cc nL Ts own) {i : Nat} {x : Nat} (hdg : decode cc pc = .ok (.aload i, 2)) (q : Nat) (hq : lv[q]? = some (i, .ref x))
    (k : fqH X nL cells slots wl (pc + 2) lv (.ref x :: rest)) : fqH X nL cells slots wl pc lv (rest) := by
  obtain ⟨p, l, e, R, s, m, args, below, meth, c, Q, D, A⟩ := X
  obtain ⟨⟨hx, hb, hml, hown, hts⟩, hK, hA, hR⟩ := E
  exact fun H locs ls hw hl => lv_aload hx hb hdg (lv_at hl q hq) (k H locs ls hw hl)
theorem h_astore_n {X : fqX} {rm : Room} {cy : Nat → ClassId} {cc : ByteArray} {nL : Nat} {Ts : List Cond} {own : String} {cells slots : Nat} {wl : va_W} {pc : Nat} {lv : List (Nat × Value)} {rest : List Value} (E : fqE X rm cy cc nL Ts own) {j : Fin 4} {i : Nat} {x : Nat} (lv' : List (Nat × Value)) (hdg : decode cc pc = .ok (.astore_n j, 1)) (hi : (j : Nat) = i) (hn : i < nL) (hv : (i, Value.ref x) :: lv.filter (fun q => !(q.1 == i) && !(q.1 + 1 == i && q.2.category == 2)) = lv')
    (k : fqH X nL cells slots wl (pc + 1) lv' (rest)) : fqH X nL cells slots wl pc lv (.ref x :: rest) := by
  obtain ⟨p, l, e, R, s, m, args, below, meth, c, Q, D, A⟩ := X
  obtain ⟨⟨hx, hb, hml, hown, hts⟩, hK, hA, hR⟩ := E
  exact fun H locs ls hw hl => lv_astore_n hx hb hdg hi hl hn hv (fun ls hl => k H locs ls hw hl)
theorem h_astore {X : fqX} {rm : Room} {cy : Nat → ClassId} {cc : ByteArray} {nL : Nat} {Ts : List Cond} {own : String} {cells slots : Nat} {wl : va_W} {pc : Nat} {lv : List (Nat × Value)} {rest : List Value} (E : fqE X rm cy cc nL Ts own) {i : Nat} {x : Nat} (lv' : List (Nat × Value)) (hdg : decode cc pc = .ok (.astore i, 2)) (hn : i < nL) (hv : (i, Value.ref x) :: lv.filter (fun q => !(q.1 == i) && !(q.1 + 1 == i && q.2.category == 2)) = lv')
    (k : fqH X nL cells slots wl (pc + 2) lv' (rest)) : fqH X nL cells slots wl pc lv (.ref x :: rest) := by
  obtain ⟨p, l, e, R, s, m, args, below, meth, c, Q, D, A⟩ := X
  obtain ⟨⟨hx, hb, hml, hown, hts⟩, hK, hA, hR⟩ := E
  exact fun H locs ls hw hl => lv_astore hx hb hdg hl hn hv (fun ls hl => k H locs ls hw hl)
theorem h_aload_nN {X : fqX} {rm : Room} {cy : Nat → ClassId} {cc : ByteArray} {nL : Nat} {Ts : List Cond} {own : String} {cells slots : Nat} {wl : va_W} {pc : Nat} {lv : List (Nat × Value)} {rest : List Value} (E : fqE X rm cy cc nL Ts own) {j : Fin 4} {i : Nat} (hdg : decode cc pc = .ok (.aload_n j, 1)) (q : Nat) (hq : lv[q]? = some (i, .null)) (hi : (j : Nat) = i)
    (k : fqH X nL cells slots wl (pc + 1) lv (.null :: rest)) : fqH X nL cells slots wl pc lv (rest) := by
  obtain ⟨p, l, e, R, s, m, args, below, meth, c, Q, D, A⟩ := X
  obtain ⟨⟨hx, hb, hml, hown, hts⟩, hK, hA, hR⟩ := E
  exact fun H locs ls hw hl => lv_aload_nN hx hb hdg hi (lv_at hl q hq) (k H locs ls hw hl)
theorem h_aloadN {X : fqX} {rm : Room} {cy : Nat → ClassId} {cc : ByteArray} {nL : Nat} {Ts : List Cond} {own : String} {cells slots : Nat} {wl : va_W} {pc : Nat} {lv : List (Nat × Value)} {rest : List Value} (E : fqE X rm cy cc nL Ts own) {i : Nat} (hdg : decode cc pc = .ok (.aload i, 2)) (q : Nat) (hq : lv[q]? = some (i, .null))
    (k : fqH X nL cells slots wl (pc + 2) lv (.null :: rest)) : fqH X nL cells slots wl pc lv (rest) := by
  obtain ⟨p, l, e, R, s, m, args, below, meth, c, Q, D, A⟩ := X
  obtain ⟨⟨hx, hb, hml, hown, hts⟩, hK, hA, hR⟩ := E
  exact fun H locs ls hw hl => lv_aloadN hx hb hdg (lv_at hl q hq) (k H locs ls hw hl)
theorem h_astore_nN {X : fqX} {rm : Room} {cy : Nat → ClassId} {cc : ByteArray} {nL : Nat} {Ts : List Cond} {own : String} {cells slots : Nat} {wl : va_W} {pc : Nat} {lv : List (Nat × Value)} {rest : List Value} (E : fqE X rm cy cc nL Ts own) {j : Fin 4} {i : Nat} (lv' : List (Nat × Value)) (hdg : decode cc pc = .ok (.astore_n j, 1)) (hi : (j : Nat) = i) (hn : i < nL) (hv : (i, Value.null) :: lv.filter (fun q => !(q.1 == i) && !(q.1 + 1 == i && q.2.category == 2)) = lv')
    (k : fqH X nL cells slots wl (pc + 1) lv' (rest)) : fqH X nL cells slots wl pc lv (.null :: rest) := by
  obtain ⟨p, l, e, R, s, m, args, below, meth, c, Q, D, A⟩ := X
  obtain ⟨⟨hx, hb, hml, hown, hts⟩, hK, hA, hR⟩ := E
  exact fun H locs ls hw hl => lv_astore_nN hx hb hdg hi hl hn hv (fun ls hl => k H locs ls hw hl)
theorem h_astoreN {X : fqX} {rm : Room} {cy : Nat → ClassId} {cc : ByteArray} {nL : Nat} {Ts : List Cond} {own : String} {cells slots : Nat} {wl : va_W} {pc : Nat} {lv : List (Nat × Value)} {rest : List Value} (E : fqE X rm cy cc nL Ts own) {i : Nat} (lv' : List (Nat × Value)) (hdg : decode cc pc = .ok (.astore i, 2)) (hn : i < nL) (hv : (i, Value.null) :: lv.filter (fun q => !(q.1 == i) && !(q.1 + 1 == i && q.2.category == 2)) = lv')
    (k : fqH X nL cells slots wl (pc + 2) lv' (rest)) : fqH X nL cells slots wl pc lv (.null :: rest) := by
  obtain ⟨p, l, e, R, s, m, args, below, meth, c, Q, D, A⟩ := X
  obtain ⟨⟨hx, hb, hml, hown, hts⟩, hK, hA, hR⟩ := E
  exact fun H locs ls hw hl => lv_astoreN hx hb hdg hl hn hv (fun ls hl => k H locs ls hw hl)
theorem h_iinc {X : fqX} {rm : Room} {cy : Nat → ClassId} {cc : ByteArray} {nL : Nat} {Ts : List Cond} {own : String} {cells slots : Nat} {wl : va_W} {pc : Nat} {lv : List (Nat × Value)} {rest : List Value} (E : fqE X rm cy cc nL Ts own) {i : Nat} {d : Int} {x : Int32} (v : Int32) (lv' : List (Nat × Value)) (hdg : decode cc pc = .ok (.iinc i d, 3)) (q : Nat) (hq : lv[q]? = some (i, .int x)) (hv : x + Int32.ofInt d = v) (hn : i < nL) (hl' : (i, Value.int v) :: lv.filter (fun q => !(q.1 == i) && !(q.1 + 1 == i && q.2.category == 2)) = lv')
    (k : fqH X nL cells slots wl (pc + 3) lv' (rest)) : fqH X nL cells slots wl pc lv (rest) := by
  obtain ⟨p, l, e, R, s, m, args, below, meth, c, Q, D, A⟩ := X
  obtain ⟨⟨hx, hb, hml, hown, hts⟩, hK, hA, hR⟩ := E
  exact fun H locs ls hw hl => lv_iinc hx hb hdg hl hq hv hn hl' (fun ls hl => k H locs ls hw hl)
theorem h_if_eq {X : fqX} {rm : Room} {cy : Nat → ClassId} {cc : ByteArray} {nL : Nat} {Ts : List Cond} {own : String} {cells slots : Nat} {wl : va_W} {pc : Nat} {lv : List (Nat × Value)} {rest : List Value} (E : fqE X rm cy cc nL Ts own) {x : Int32} {off : Int} (tgt : Nat) (hdg : decode cc pc = .ok (.ifCond .eq off, 3)) (ht : (pc : Int) + off = (tgt : Int))
    (kt : x = 0 → fqH X nL cells slots wl tgt lv (rest)) (kf : ¬ (x = 0) → fqH X nL cells slots wl (pc + 3) lv (rest)) : fqH X nL cells slots wl pc lv (.int x :: rest) := by
  obtain ⟨p, l, e, R, s, m, args, below, meth, c, Q, D, A⟩ := X
  obtain ⟨⟨hx, hb, hml, hown, hts⟩, hK, hA, hR⟩ := E
  exact fun H locs ls hw hl => lv_if_eq hx hb hdg ht (fun h => kt h H locs ls hw hl) (fun h => kf h H locs ls hw hl)
theorem h_icmp_eq {X : fqX} {rm : Room} {cy : Nat → ClassId} {cc : ByteArray} {nL : Nat} {Ts : List Cond} {own : String} {cells slots : Nat} {wl : va_W} {pc : Nat} {lv : List (Nat × Value)} {rest : List Value} (E : fqE X rm cy cc nL Ts own) {x y : Int32} {off : Int} (tgt : Nat) (hdg : decode cc pc = .ok (.if_icmp .eq off, 3)) (ht : (pc : Int) + off = (tgt : Int))
    (kt : x = y → fqH X nL cells slots wl tgt lv (rest)) (kf : ¬ (x = y) → fqH X nL cells slots wl (pc + 3) lv (rest)) : fqH X nL cells slots wl pc lv (.int y :: .int x :: rest) := by
  obtain ⟨p, l, e, R, s, m, args, below, meth, c, Q, D, A⟩ := X
  obtain ⟨⟨hx, hb, hml, hown, hts⟩, hK, hA, hR⟩ := E
  exact fun H locs ls hw hl => lv_icmp_eq hx hb hdg ht (fun h => kt h H locs ls hw hl) (fun h => kf h H locs ls hw hl)
theorem h_if_ne {X : fqX} {rm : Room} {cy : Nat → ClassId} {cc : ByteArray} {nL : Nat} {Ts : List Cond} {own : String} {cells slots : Nat} {wl : va_W} {pc : Nat} {lv : List (Nat × Value)} {rest : List Value} (E : fqE X rm cy cc nL Ts own) {x : Int32} {off : Int} (tgt : Nat) (hdg : decode cc pc = .ok (.ifCond .ne off, 3)) (ht : (pc : Int) + off = (tgt : Int))
    (kt : ¬ x = 0 → fqH X nL cells slots wl tgt lv (rest)) (kf : x = 0 → fqH X nL cells slots wl (pc + 3) lv (rest)) : fqH X nL cells slots wl pc lv (.int x :: rest) := by
  obtain ⟨p, l, e, R, s, m, args, below, meth, c, Q, D, A⟩ := X
  obtain ⟨⟨hx, hb, hml, hown, hts⟩, hK, hA, hR⟩ := E
  exact fun H locs ls hw hl => lv_if_ne hx hb hdg ht (fun h => kt h H locs ls hw hl) (fun h => kf h H locs ls hw hl)
theorem h_icmp_ne {X : fqX} {rm : Room} {cy : Nat → ClassId} {cc : ByteArray} {nL : Nat} {Ts : List Cond} {own : String} {cells slots : Nat} {wl : va_W} {pc : Nat} {lv : List (Nat × Value)} {rest : List Value} (E : fqE X rm cy cc nL Ts own) {x y : Int32} {off : Int} (tgt : Nat) (hdg : decode cc pc = .ok (.if_icmp .ne off, 3)) (ht : (pc : Int) + off = (tgt : Int))
    (kt : ¬ x = y → fqH X nL cells slots wl tgt lv (rest)) (kf : x = y → fqH X nL cells slots wl (pc + 3) lv (rest)) : fqH X nL cells slots wl pc lv (.int y :: .int x :: rest) := by
  obtain ⟨p, l, e, R, s, m, args, below, meth, c, Q, D, A⟩ := X
  obtain ⟨⟨hx, hb, hml, hown, hts⟩, hK, hA, hR⟩ := E
  exact fun H locs ls hw hl => lv_icmp_ne hx hb hdg ht (fun h => kt h H locs ls hw hl) (fun h => kf h H locs ls hw hl)
theorem h_if_lt {X : fqX} {rm : Room} {cy : Nat → ClassId} {cc : ByteArray} {nL : Nat} {Ts : List Cond} {own : String} {cells slots : Nat} {wl : va_W} {pc : Nat} {lv : List (Nat × Value)} {rest : List Value} (E : fqE X rm cy cc nL Ts own) {x : Int32} {off : Int} (tgt : Nat) (hdg : decode cc pc = .ok (.ifCond .lt off, 3)) (ht : (pc : Int) + off = (tgt : Int))
    (kt : x < 0 → fqH X nL cells slots wl tgt lv (rest)) (kf : ¬ (x < 0) → fqH X nL cells slots wl (pc + 3) lv (rest)) : fqH X nL cells slots wl pc lv (.int x :: rest) := by
  obtain ⟨p, l, e, R, s, m, args, below, meth, c, Q, D, A⟩ := X
  obtain ⟨⟨hx, hb, hml, hown, hts⟩, hK, hA, hR⟩ := E
  exact fun H locs ls hw hl => lv_if_lt hx hb hdg ht (fun h => kt h H locs ls hw hl) (fun h => kf h H locs ls hw hl)
theorem h_icmp_lt {X : fqX} {rm : Room} {cy : Nat → ClassId} {cc : ByteArray} {nL : Nat} {Ts : List Cond} {own : String} {cells slots : Nat} {wl : va_W} {pc : Nat} {lv : List (Nat × Value)} {rest : List Value} (E : fqE X rm cy cc nL Ts own) {x y : Int32} {off : Int} (tgt : Nat) (hdg : decode cc pc = .ok (.if_icmp .lt off, 3)) (ht : (pc : Int) + off = (tgt : Int))
    (kt : x < y → fqH X nL cells slots wl tgt lv (rest)) (kf : ¬ (x < y) → fqH X nL cells slots wl (pc + 3) lv (rest)) : fqH X nL cells slots wl pc lv (.int y :: .int x :: rest) := by
  obtain ⟨p, l, e, R, s, m, args, below, meth, c, Q, D, A⟩ := X
  obtain ⟨⟨hx, hb, hml, hown, hts⟩, hK, hA, hR⟩ := E
  exact fun H locs ls hw hl => lv_icmp_lt hx hb hdg ht (fun h => kt h H locs ls hw hl) (fun h => kf h H locs ls hw hl)
theorem h_if_ge {X : fqX} {rm : Room} {cy : Nat → ClassId} {cc : ByteArray} {nL : Nat} {Ts : List Cond} {own : String} {cells slots : Nat} {wl : va_W} {pc : Nat} {lv : List (Nat × Value)} {rest : List Value} (E : fqE X rm cy cc nL Ts own) {x : Int32} {off : Int} (tgt : Nat) (hdg : decode cc pc = .ok (.ifCond .ge off, 3)) (ht : (pc : Int) + off = (tgt : Int))
    (kt : 0 ≤ x → fqH X nL cells slots wl tgt lv (rest)) (kf : ¬ (0 ≤ x) → fqH X nL cells slots wl (pc + 3) lv (rest)) : fqH X nL cells slots wl pc lv (.int x :: rest) := by
  obtain ⟨p, l, e, R, s, m, args, below, meth, c, Q, D, A⟩ := X
  obtain ⟨⟨hx, hb, hml, hown, hts⟩, hK, hA, hR⟩ := E
  exact fun H locs ls hw hl => lv_if_ge hx hb hdg ht (fun h => kt h H locs ls hw hl) (fun h => kf h H locs ls hw hl)
theorem h_icmp_ge {X : fqX} {rm : Room} {cy : Nat → ClassId} {cc : ByteArray} {nL : Nat} {Ts : List Cond} {own : String} {cells slots : Nat} {wl : va_W} {pc : Nat} {lv : List (Nat × Value)} {rest : List Value} (E : fqE X rm cy cc nL Ts own) {x y : Int32} {off : Int} (tgt : Nat) (hdg : decode cc pc = .ok (.if_icmp .ge off, 3)) (ht : (pc : Int) + off = (tgt : Int))
    (kt : y ≤ x → fqH X nL cells slots wl tgt lv (rest)) (kf : ¬ (y ≤ x) → fqH X nL cells slots wl (pc + 3) lv (rest)) : fqH X nL cells slots wl pc lv (.int y :: .int x :: rest) := by
  obtain ⟨p, l, e, R, s, m, args, below, meth, c, Q, D, A⟩ := X
  obtain ⟨⟨hx, hb, hml, hown, hts⟩, hK, hA, hR⟩ := E
  exact fun H locs ls hw hl => lv_icmp_ge hx hb hdg ht (fun h => kt h H locs ls hw hl) (fun h => kf h H locs ls hw hl)
theorem h_if_gt {X : fqX} {rm : Room} {cy : Nat → ClassId} {cc : ByteArray} {nL : Nat} {Ts : List Cond} {own : String} {cells slots : Nat} {wl : va_W} {pc : Nat} {lv : List (Nat × Value)} {rest : List Value} (E : fqE X rm cy cc nL Ts own) {x : Int32} {off : Int} (tgt : Nat) (hdg : decode cc pc = .ok (.ifCond .gt off, 3)) (ht : (pc : Int) + off = (tgt : Int))
    (kt : 0 < x → fqH X nL cells slots wl tgt lv (rest)) (kf : ¬ (0 < x) → fqH X nL cells slots wl (pc + 3) lv (rest)) : fqH X nL cells slots wl pc lv (.int x :: rest) := by
  obtain ⟨p, l, e, R, s, m, args, below, meth, c, Q, D, A⟩ := X
  obtain ⟨⟨hx, hb, hml, hown, hts⟩, hK, hA, hR⟩ := E
  exact fun H locs ls hw hl => lv_if_gt hx hb hdg ht (fun h => kt h H locs ls hw hl) (fun h => kf h H locs ls hw hl)
theorem h_icmp_gt {X : fqX} {rm : Room} {cy : Nat → ClassId} {cc : ByteArray} {nL : Nat} {Ts : List Cond} {own : String} {cells slots : Nat} {wl : va_W} {pc : Nat} {lv : List (Nat × Value)} {rest : List Value} (E : fqE X rm cy cc nL Ts own) {x y : Int32} {off : Int} (tgt : Nat) (hdg : decode cc pc = .ok (.if_icmp .gt off, 3)) (ht : (pc : Int) + off = (tgt : Int))
    (kt : y < x → fqH X nL cells slots wl tgt lv (rest)) (kf : ¬ (y < x) → fqH X nL cells slots wl (pc + 3) lv (rest)) : fqH X nL cells slots wl pc lv (.int y :: .int x :: rest) := by
  obtain ⟨p, l, e, R, s, m, args, below, meth, c, Q, D, A⟩ := X
  obtain ⟨⟨hx, hb, hml, hown, hts⟩, hK, hA, hR⟩ := E
  exact fun H locs ls hw hl => lv_icmp_gt hx hb hdg ht (fun h => kt h H locs ls hw hl) (fun h => kf h H locs ls hw hl)
theorem h_if_le {X : fqX} {rm : Room} {cy : Nat → ClassId} {cc : ByteArray} {nL : Nat} {Ts : List Cond} {own : String} {cells slots : Nat} {wl : va_W} {pc : Nat} {lv : List (Nat × Value)} {rest : List Value} (E : fqE X rm cy cc nL Ts own) {x : Int32} {off : Int} (tgt : Nat) (hdg : decode cc pc = .ok (.ifCond .le off, 3)) (ht : (pc : Int) + off = (tgt : Int))
    (kt : x ≤ 0 → fqH X nL cells slots wl tgt lv (rest)) (kf : ¬ (x ≤ 0) → fqH X nL cells slots wl (pc + 3) lv (rest)) : fqH X nL cells slots wl pc lv (.int x :: rest) := by
  obtain ⟨p, l, e, R, s, m, args, below, meth, c, Q, D, A⟩ := X
  obtain ⟨⟨hx, hb, hml, hown, hts⟩, hK, hA, hR⟩ := E
  exact fun H locs ls hw hl => lv_if_le hx hb hdg ht (fun h => kt h H locs ls hw hl) (fun h => kf h H locs ls hw hl)
theorem h_icmp_le {X : fqX} {rm : Room} {cy : Nat → ClassId} {cc : ByteArray} {nL : Nat} {Ts : List Cond} {own : String} {cells slots : Nat} {wl : va_W} {pc : Nat} {lv : List (Nat × Value)} {rest : List Value} (E : fqE X rm cy cc nL Ts own) {x y : Int32} {off : Int} (tgt : Nat) (hdg : decode cc pc = .ok (.if_icmp .le off, 3)) (ht : (pc : Int) + off = (tgt : Int))
    (kt : x ≤ y → fqH X nL cells slots wl tgt lv (rest)) (kf : ¬ (x ≤ y) → fqH X nL cells slots wl (pc + 3) lv (rest)) : fqH X nL cells slots wl pc lv (.int y :: .int x :: rest) := by
  obtain ⟨p, l, e, R, s, m, args, below, meth, c, Q, D, A⟩ := X
  obtain ⟨⟨hx, hb, hml, hown, hts⟩, hK, hA, hR⟩ := E
  exact fun H locs ls hw hl => lv_icmp_le hx hb hdg ht (fun h => kt h H locs ls hw hl) (fun h => kf h H locs ls hw hl)
theorem h_lif_eq {X : fqX} {rm : Room} {cy : Nat → ClassId} {cc : ByteArray} {nL : Nat} {Ts : List Cond} {own : String} {cells slots : Nat} {wl : va_W} {pc : Nat} {lv : List (Nat × Value)} {rest : List Value} (E : fqE X rm cy cc nL Ts own) {x y : Int64} {off : Int} (tgt : Nat) (hd1 : decode cc pc = .ok (.lcmp, 1)) (hdg : decode cc (pc + 1) = .ok (.ifCond .eq off, 3)) (ht : ((pc + 1 : Nat) : Int) + off = (tgt : Int))
    (kt : x = y → fqH X nL cells slots wl tgt lv (rest)) (kf : ¬ (x = y) → fqH X nL cells slots wl (pc + 4) lv (rest)) : fqH X nL cells slots wl pc lv (.long y :: .long x :: rest) := by
  obtain ⟨p, l, e, R, s, m, args, below, meth, c, Q, D, A⟩ := X
  obtain ⟨⟨hx, hb, hml, hown, hts⟩, hK, hA, hR⟩ := E
  exact fun H locs ls hw hl => W.lcmp hx hb hd1 (lv_if_eq hx hb hdg ht (fun h => kt ((fq_cmp_eq x y).mp h) H locs ls hw hl) (fun h => kf (fun h2 => h ((fq_cmp_eq x y).mpr h2)) H locs ls hw hl))
theorem h_lif_ne {X : fqX} {rm : Room} {cy : Nat → ClassId} {cc : ByteArray} {nL : Nat} {Ts : List Cond} {own : String} {cells slots : Nat} {wl : va_W} {pc : Nat} {lv : List (Nat × Value)} {rest : List Value} (E : fqE X rm cy cc nL Ts own) {x y : Int64} {off : Int} (tgt : Nat) (hd1 : decode cc pc = .ok (.lcmp, 1)) (hdg : decode cc (pc + 1) = .ok (.ifCond .ne off, 3)) (ht : ((pc + 1 : Nat) : Int) + off = (tgt : Int))
    (kt : ¬ x = y → fqH X nL cells slots wl tgt lv (rest)) (kf : x = y → fqH X nL cells slots wl (pc + 4) lv (rest)) : fqH X nL cells slots wl pc lv (.long y :: .long x :: rest) := by
  obtain ⟨p, l, e, R, s, m, args, below, meth, c, Q, D, A⟩ := X
  obtain ⟨⟨hx, hb, hml, hown, hts⟩, hK, hA, hR⟩ := E
  exact fun H locs ls hw hl => W.lcmp hx hb hd1 (lv_if_ne hx hb hdg ht (fun h => kt ((fq_cmp_ne x y).mp h) H locs ls hw hl) (fun h => kf ((fq_cmp_eq x y).mp h) H locs ls hw hl))
theorem h_lif_lt {X : fqX} {rm : Room} {cy : Nat → ClassId} {cc : ByteArray} {nL : Nat} {Ts : List Cond} {own : String} {cells slots : Nat} {wl : va_W} {pc : Nat} {lv : List (Nat × Value)} {rest : List Value} (E : fqE X rm cy cc nL Ts own) {x y : Int64} {off : Int} (tgt : Nat) (hd1 : decode cc pc = .ok (.lcmp, 1)) (hdg : decode cc (pc + 1) = .ok (.ifCond .lt off, 3)) (ht : ((pc + 1 : Nat) : Int) + off = (tgt : Int))
    (kt : x < y → fqH X nL cells slots wl tgt lv (rest)) (kf : ¬ (x < y) → fqH X nL cells slots wl (pc + 4) lv (rest)) : fqH X nL cells slots wl pc lv (.long y :: .long x :: rest) := by
  obtain ⟨p, l, e, R, s, m, args, below, meth, c, Q, D, A⟩ := X
  obtain ⟨⟨hx, hb, hml, hown, hts⟩, hK, hA, hR⟩ := E
  exact fun H locs ls hw hl => W.lcmp hx hb hd1 (lv_if_lt hx hb hdg ht (fun h => kt ((fq_cmp_lt x y).mp h) H locs ls hw hl) (fun h => kf (fun h2 => h ((fq_cmp_lt x y).mpr h2)) H locs ls hw hl))
theorem h_lif_ge {X : fqX} {rm : Room} {cy : Nat → ClassId} {cc : ByteArray} {nL : Nat} {Ts : List Cond} {own : String} {cells slots : Nat} {wl : va_W} {pc : Nat} {lv : List (Nat × Value)} {rest : List Value} (E : fqE X rm cy cc nL Ts own) {x y : Int64} {off : Int} (tgt : Nat) (hd1 : decode cc pc = .ok (.lcmp, 1)) (hdg : decode cc (pc + 1) = .ok (.ifCond .ge off, 3)) (ht : ((pc + 1 : Nat) : Int) + off = (tgt : Int))
    (kt : y ≤ x → fqH X nL cells slots wl tgt lv (rest)) (kf : ¬ (y ≤ x) → fqH X nL cells slots wl (pc + 4) lv (rest)) : fqH X nL cells slots wl pc lv (.long y :: .long x :: rest) := by
  obtain ⟨p, l, e, R, s, m, args, below, meth, c, Q, D, A⟩ := X
  obtain ⟨⟨hx, hb, hml, hown, hts⟩, hK, hA, hR⟩ := E
  exact fun H locs ls hw hl => W.lcmp hx hb hd1 (lv_if_ge hx hb hdg ht (fun h => kt ((fq_cmp_ge x y).mp h) H locs ls hw hl) (fun h => kf (fun h2 => h ((fq_cmp_ge x y).mpr h2)) H locs ls hw hl))
theorem h_lif_gt {X : fqX} {rm : Room} {cy : Nat → ClassId} {cc : ByteArray} {nL : Nat} {Ts : List Cond} {own : String} {cells slots : Nat} {wl : va_W} {pc : Nat} {lv : List (Nat × Value)} {rest : List Value} (E : fqE X rm cy cc nL Ts own) {x y : Int64} {off : Int} (tgt : Nat) (hd1 : decode cc pc = .ok (.lcmp, 1)) (hdg : decode cc (pc + 1) = .ok (.ifCond .gt off, 3)) (ht : ((pc + 1 : Nat) : Int) + off = (tgt : Int))
    (kt : y < x → fqH X nL cells slots wl tgt lv (rest)) (kf : ¬ (y < x) → fqH X nL cells slots wl (pc + 4) lv (rest)) : fqH X nL cells slots wl pc lv (.long y :: .long x :: rest) := by
  obtain ⟨p, l, e, R, s, m, args, below, meth, c, Q, D, A⟩ := X
  obtain ⟨⟨hx, hb, hml, hown, hts⟩, hK, hA, hR⟩ := E
  exact fun H locs ls hw hl => W.lcmp hx hb hd1 (lv_if_gt hx hb hdg ht (fun h => kt ((fq_cmp_gt x y).mp h) H locs ls hw hl) (fun h => kf (fun h2 => h ((fq_cmp_gt x y).mpr h2)) H locs ls hw hl))
theorem h_lif_le {X : fqX} {rm : Room} {cy : Nat → ClassId} {cc : ByteArray} {nL : Nat} {Ts : List Cond} {own : String} {cells slots : Nat} {wl : va_W} {pc : Nat} {lv : List (Nat × Value)} {rest : List Value} (E : fqE X rm cy cc nL Ts own) {x y : Int64} {off : Int} (tgt : Nat) (hd1 : decode cc pc = .ok (.lcmp, 1)) (hdg : decode cc (pc + 1) = .ok (.ifCond .le off, 3)) (ht : ((pc + 1 : Nat) : Int) + off = (tgt : Int))
    (kt : x ≤ y → fqH X nL cells slots wl tgt lv (rest)) (kf : ¬ (x ≤ y) → fqH X nL cells slots wl (pc + 4) lv (rest)) : fqH X nL cells slots wl pc lv (.long y :: .long x :: rest) := by
  obtain ⟨p, l, e, R, s, m, args, below, meth, c, Q, D, A⟩ := X
  obtain ⟨⟨hx, hb, hml, hown, hts⟩, hK, hA, hR⟩ := E
  exact fun H locs ls hw hl => W.lcmp hx hb hd1 (lv_if_le hx hb hdg ht (fun h => kt ((fq_cmp_le x y).mp h) H locs ls hw hl) (fun h => kf (fun h2 => h ((fq_cmp_le x y).mpr h2)) H locs ls hw hl))
theorem h_goto {X : fqX} {rm : Room} {cy : Nat → ClassId} {cc : ByteArray} {nL : Nat} {Ts : List Cond} {own : String} {cells slots : Nat} {wl : va_W} {pc : Nat} {lv : List (Nat × Value)} {rest : List Value} (E : fqE X rm cy cc nL Ts own) {off : Int} (tgt : Nat) (hdg : decode cc pc = .ok (.goto off, 3)) (ht : (pc : Int) + off = (tgt : Int))
    (k : fqH X nL cells slots wl tgt lv (rest)) : fqH X nL cells slots wl pc lv (rest) := by
  obtain ⟨p, l, e, R, s, m, args, below, meth, c, Q, D, A⟩ := X
  obtain ⟨⟨hx, hb, hml, hown, hts⟩, hK, hA, hR⟩ := E
  exact fun H locs ls hw hl => lv_goto hx hb hdg ht (k H locs ls hw hl)
theorem h_ifnull {X : fqX} {rm : Room} {cy : Nat → ClassId} {cc : ByteArray} {nL : Nat} {Ts : List Cond} {own : String} {cells slots : Nat} {wl : va_W} {pc : Nat} {lv : List (Nat × Value)} {rest : List Value} (E : fqE X rm cy cc nL Ts own) {x : Nat} {off : Int} (hdg : decode cc pc = .ok (.ifnull off, 3))
    (k : fqH X nL cells slots wl (pc + 3) lv (rest)) : fqH X nL cells slots wl pc lv (.ref x :: rest) := by
  obtain ⟨p, l, e, R, s, m, args, below, meth, c, Q, D, A⟩ := X
  obtain ⟨⟨hx, hb, hml, hown, hts⟩, hK, hA, hR⟩ := E
  exact fun H locs ls hw hl => lv_ifnull hx hb hdg (k H locs ls hw hl)
theorem h_ifnullN {X : fqX} {rm : Room} {cy : Nat → ClassId} {cc : ByteArray} {nL : Nat} {Ts : List Cond} {own : String} {cells slots : Nat} {wl : va_W} {pc : Nat} {lv : List (Nat × Value)} {rest : List Value} (E : fqE X rm cy cc nL Ts own) {off : Int} (tgt : Nat) (hdg : decode cc pc = .ok (.ifnull off, 3)) (ht : (pc : Int) + off = (tgt : Int))
    (k : fqH X nL cells slots wl tgt lv (rest)) : fqH X nL cells slots wl pc lv (.null :: rest) := by
  obtain ⟨p, l, e, R, s, m, args, below, meth, c, Q, D, A⟩ := X
  obtain ⟨⟨hx, hb, hml, hown, hts⟩, hK, hA, hR⟩ := E
  exact fun H locs ls hw hl => lv_ifnullN hx hb hdg ht (k H locs ls hw hl)
theorem h_ifnonnull {X : fqX} {rm : Room} {cy : Nat → ClassId} {cc : ByteArray} {nL : Nat} {Ts : List Cond} {own : String} {cells slots : Nat} {wl : va_W} {pc : Nat} {lv : List (Nat × Value)} {rest : List Value} (E : fqE X rm cy cc nL Ts own) {x : Nat} {off : Int} (tgt : Nat) (hdg : decode cc pc = .ok (.ifnonnull off, 3)) (ht : (pc : Int) + off = (tgt : Int))
    (k : fqH X nL cells slots wl tgt lv (rest)) : fqH X nL cells slots wl pc lv (.ref x :: rest) := by
  obtain ⟨p, l, e, R, s, m, args, below, meth, c, Q, D, A⟩ := X
  obtain ⟨⟨hx, hb, hml, hown, hts⟩, hK, hA, hR⟩ := E
  exact fun H locs ls hw hl => lv_ifnonnull hx hb hdg ht (k H locs ls hw hl)
theorem h_ifnonnullN {X : fqX} {rm : Room} {cy : Nat → ClassId} {cc : ByteArray} {nL : Nat} {Ts : List Cond} {own : String} {cells slots : Nat} {wl : va_W} {pc : Nat} {lv : List (Nat × Value)} {rest : List Value} (E : fqE X rm cy cc nL Ts own) {off : Int} (hdg : decode cc pc = .ok (.ifnonnull off, 3))
    (k : fqH X nL cells slots wl (pc + 3) lv (rest)) : fqH X nL cells slots wl pc lv (.null :: rest) := by
  obtain ⟨p, l, e, R, s, m, args, below, meth, c, Q, D, A⟩ := X
  obtain ⟨⟨hx, hb, hml, hown, hts⟩, hK, hA, hR⟩ := E
  exact fun H locs ls hw hl => lv_ifnonnullN hx hb hdg (k H locs ls hw hl)
theorem h_tableOut {X : fqX} {rm : Room} {cy : Nat → ClassId} {cc : ByteArray} {nL : Nat} {Ts : List Cond} {own : String} {cells slots : Nat} {wl : va_W} {pc : Nat} {lv : List (Nat × Value)} {rest : List Value} (E : fqE X rm cy cc nL Ts own) {dflt lo hi : Int} {offs : Array Int} {len : Nat} {x : Int32} (tgt : Nat) (hdg : decode cc pc = .ok (.tableswitch dflt lo hi offs, len)) (h : x.toInt < lo ∨ hi < x.toInt) (ht : (pc : Int) + dflt = (tgt : Int))
    (k : fqH X nL cells slots wl tgt lv (rest)) : fqH X nL cells slots wl pc lv (.int x :: rest) := by
  obtain ⟨p, l, e, R, s, m, args, below, meth, c, Q, D, A⟩ := X
  obtain ⟨⟨hx, hb, hml, hown, hts⟩, hK, hA, hR⟩ := E
  exact fun H locs ls hw hl => lv_tableOut hx hb hdg h ht (k H locs ls hw hl)
theorem h_tableIn {X : fqX} {rm : Room} {cy : Nat → ClassId} {cc : ByteArray} {nL : Nat} {Ts : List Cond} {own : String} {cells slots : Nat} {wl : va_W} {pc : Nat} {lv : List (Nat × Value)} {rest : List Value} (E : fqE X rm cy cc nL Ts own) {dflt lo hi : Int} {offs : Array Int} {len : Nat} {x : Int32} {off : Int} (tgt : Nat) (hdg : decode cc pc = .ok (.tableswitch dflt lo hi offs, len)) (h1 : ¬ x.toInt < lo) (h2 : ¬ hi < x.toInt) (ho : offs[(x.toInt - lo).toNat]? = some off) (ht : (pc : Int) + off = (tgt : Int))
    (k : fqH X nL cells slots wl tgt lv (rest)) : fqH X nL cells slots wl pc lv (.int x :: rest) := by
  obtain ⟨p, l, e, R, s, m, args, below, meth, c, Q, D, A⟩ := X
  obtain ⟨⟨hx, hb, hml, hown, hts⟩, hK, hA, hR⟩ := E
  exact fun H locs ls hw hl => lv_tableIn hx hb hdg h1 h2 ho ht (k H locs ls hw hl)
theorem h_lv {X : fqX} {nL : Nat} {cells slots : Nat} {wl : va_W} {pc : Nat} {lv : List (Nat × Value)} {rest : List Value} (ks : List Nat) {lv' : List (Nat × Value)} (h : lv_pick lv ks = lv')
    (k : fqH X nL cells slots wl pc lv' (rest)) : fqH X nL cells slots wl pc lv (rest) := by
  obtain ⟨p, l, e, R, s, m, args, below, meth, c, Q, D, A⟩ := X
  exact fun H locs ls hw hl => k H locs ls hw (lv_sub hl ks h)
theorem h_st {X : fqX} {nL : Nat} {cells slots : Nat} {wl : va_W} {pc : Nat} {lv : List (Nat × Value)} {st st' : List Value} (h : st = st')
    (k : fqH X nL cells slots wl pc lv (st')) : fqH X nL cells slots wl pc lv (st) := h ▸ k
theorem h_pc {X : fqX} {nL : Nat} {cells slots : Nat} {wl : va_W} {pc : Nat} {lv : List (Nat × Value)} {pc' : Nat} {st : List Value} (h : pc = pc')
    (k : fqH X nL cells slots wl pc' lv (st)) : fqH X nL cells slots wl pc lv (st) := h ▸ k
theorem h_newaI {X : fqX} {rm : Room} {cy : Nat → ClassId} {cc : ByteArray} {nL : Nat} {Ts : List Cond} {own : String} {cells slots : Nat} {wl : va_W} {pc : Nat} {lv : List (Nat × Value)} {rest : List Value} (E : fqE X rm cy cc nL Ts own) (hcl : Cond.arrayClass .int ∈ Ts) {v : Int32} {N : Nat} (hn : ¬ v < 0) (hN : v.toNatClampNeg = N) (hby : N * 8 ≤ 536870912) (hcells : cells + 1 ≤ rm.cells) (hslots : slots + N ≤ rm.slots) (hdg : decode cc pc = .ok (.newarray .int, 2))
    (k : ∀ q : Nat, fqH X nL (cells + 1) (slots + N) (wl ++ [(q, .inl (cy 0, N, (.inl (fun _ => 0))))]) (pc + 2) lv (.ref q :: rest)) : fqH X nL cells slots wl pc lv (.int v :: rest) := by
  obtain ⟨p, l, e, R, s, m, args, below, meth, c, Q, D, A⟩ := X
  obtain ⟨⟨hx, hb, hml, hown, hts⟩, hK, hA, hR⟩ := E
  refine fun H locs ls hw hl => va_newa (atype := .int) (ty := .int) (a0 := (N, (.inl (fun _ => 0)))) hx hb (hts _ hcl) rfl hK.1 hw.1 hw.2.1 hw.2.2 hA (fun cA => rfl) hn hN (Nat.le_trans (Nat.mul_le_mul_left N (by decide)) hby) (by rw [hR]; exact hcells) (by rw [hR]; exact hslots) hdg (fun q cA H1 hK1 hP hD hS => ?_)
  have e1 := (hK1.2 5 _ rfl).2
  have e2 := (hK.1.2 0 _ rfl).2
  have e3 : cA = cy 0 := Option.some.inj (e1.symm.trans e2)
  subst e3
  exact k q H1 locs ls ⟨hP, hD, hS⟩ hl
theorem h_newaJ {X : fqX} {rm : Room} {cy : Nat → ClassId} {cc : ByteArray} {nL : Nat} {Ts : List Cond} {own : String} {cells slots : Nat} {wl : va_W} {pc : Nat} {lv : List (Nat × Value)} {rest : List Value} (E : fqE X rm cy cc nL Ts own) (hcl : Cond.arrayClass .long ∈ Ts) {v : Int32} {N : Nat} (hn : ¬ v < 0) (hN : v.toNatClampNeg = N) (hby : N * 8 ≤ 536870912) (hcells : cells + 1 ≤ rm.cells) (hslots : slots + N ≤ rm.slots) (hdg : decode cc pc = .ok (.newarray .long, 2))
    (k : ∀ q : Nat, fqH X nL (cells + 1) (slots + N) (wl ++ [(q, .inl (cy 1, N, (.inr (.inl (fun _ => 0)))))]) (pc + 2) lv (.ref q :: rest)) : fqH X nL cells slots wl pc lv (.int v :: rest) := by
  obtain ⟨p, l, e, R, s, m, args, below, meth, c, Q, D, A⟩ := X
  obtain ⟨⟨hx, hb, hml, hown, hts⟩, hK, hA, hR⟩ := E
  refine fun H locs ls hw hl => va_newa (atype := .long) (ty := .long) (a0 := (N, (.inr (.inl (fun _ => 0))))) hx hb (hts _ hcl) rfl hK.1 hw.1 hw.2.1 hw.2.2 hA (fun cA => rfl) hn hN (Nat.le_trans (Nat.mul_le_mul_left N (by decide)) hby) (by rw [hR]; exact hcells) (by rw [hR]; exact hslots) hdg (fun q cA H1 hK1 hP hD hS => ?_)
  have e1 := (hK1.2 5 _ rfl).2
  have e2 := (hK.1.2 1 _ rfl).2
  have e3 : cA = cy 1 := Option.some.inj (e1.symm.trans e2)
  subst e3
  exact k q H1 locs ls ⟨hP, hD, hS⟩ hl
theorem h_newaZ {X : fqX} {rm : Room} {cy : Nat → ClassId} {cc : ByteArray} {nL : Nat} {Ts : List Cond} {own : String} {cells slots : Nat} {wl : va_W} {pc : Nat} {lv : List (Nat × Value)} {rest : List Value} (E : fqE X rm cy cc nL Ts own) (hcl : Cond.arrayClass .boolean ∈ Ts) {v : Int32} {N : Nat} (hn : ¬ v < 0) (hN : v.toNatClampNeg = N) (hby : N * 8 ≤ 536870912) (hcells : cells + 1 ≤ rm.cells) (hslots : slots + N ≤ rm.slots) (hdg : decode cc pc = .ok (.newarray .boolean, 2))
    (k : ∀ q : Nat, fqH X nL (cells + 1) (slots + N) (wl ++ [(q, .inl (cy 2, N, (.inl (fun _ => 0))))]) (pc + 2) lv (.ref q :: rest)) : fqH X nL cells slots wl pc lv (.int v :: rest) := by
  obtain ⟨p, l, e, R, s, m, args, below, meth, c, Q, D, A⟩ := X
  obtain ⟨⟨hx, hb, hml, hown, hts⟩, hK, hA, hR⟩ := E
  refine fun H locs ls hw hl => va_newa (atype := .boolean) (ty := .boolean) (a0 := (N, (.inl (fun _ => 0)))) hx hb (hts _ hcl) rfl hK.1 hw.1 hw.2.1 hw.2.2 hA (fun cA => rfl) hn hN (Nat.le_trans (Nat.mul_le_mul_left N (by decide)) hby) (by rw [hR]; exact hcells) (by rw [hR]; exact hslots) hdg (fun q cA H1 hK1 hP hD hS => ?_)
  have e1 := (hK1.2 5 _ rfl).2
  have e2 := (hK.1.2 2 _ rfl).2
  have e3 : cA = cy 2 := Option.some.inj (e1.symm.trans e2)
  subst e3
  exact k q H1 locs ls ⟨hP, hD, hS⟩ hl
theorem h_newq {X : fqX} {rm : Room} {cy : Nat → ClassId} {cc : ByteArray} {nL : Nat} {Ts : List Cond} {own : String} {cells slots : Nat} {wl : va_W} {pc : Nat} {lv : List (Nat × Value)} {rest : List Value} (E : fqE X rm cy cc nL Ts own) (t0 : Nat) {C : String} {index : Nat} (hcl : Cond.classLink own index C ∈ Ts) (hov : ∀ U : State, fqNw U → va_AO C U) (ht : (fqTy cy)[t0]? = some (cy t0, .object C)) {v : Int32} {N : Nat} (hn : ¬ v < 0) (hN : v.toNatClampNeg = N) (hby : N * 4 ≤ 536870912) (hcells : cells + 1 ≤ rm.cells) (hslots : slots + N ≤ rm.slots) (hdg : decode cc pc = .ok (.anewarray index, 3))
    (k : ∀ q : Nat, fqH X nL (cells + 1) (slots + N) (wl ++ [(q, .inl (cy t0, N, .inr (.inr (.inr (.inr (fun _ => none))))))]) (pc + 3) lv (.ref q :: rest)) : fqH X nL cells slots wl pc lv (.int v :: rest) := by
  obtain ⟨p, l, e, R, s, m, args, below, meth, c, Q, D, A⟩ := X
  obtain ⟨⟨hx, hb, hml, hown, hts⟩, hK, hA, hR⟩ := E
  refine fun H locs ls hw hl => va_newq hx hb hown (hts _ hcl) (hov _ hK.2) hK.1 hw.1 hw.2.1 hw.2.2 hA hn hN hby (by rw [hR]; exact hcells) (by rw [hR]; exact hslots) hdg (fun q cA H1 hK1 hP hD hS => ?_)
  obtain ⟨_, _, _, _, _, e1⟩ := (hK1.2 5 _ rfl).2
  obtain ⟨_, _, _, _, _, e2⟩ := (hK.1.2 t0 _ ht).2
  have e3 : cA = cy t0 := Option.some.inj (e1.symm.trans e2)
  subst e3
  exact k q H1 locs ls ⟨hP, hD, hS⟩ hl
theorem h_new {X : fqX} {rm : Room} {cy : Nat → ClassId} {cc : ByteArray} {nL : Nat} {Ts : List Cond} {own : String} {cells slots : Nat} {wl : va_W} {pc : Nat} {lv : List (Nat × Value)} {rest : List Value} (E : fqE X rm cy cc nL Ts own) {C : String} {Tt : u_T} {N ci index : Nat} (hin : ∀ w ∈ u_ws C Tt N, w ∈ Ts) (ty : Nat → FieldType) (hty : ∀ k, k < N → parseFieldDescriptor (Tt k).2.2.1 = some (ty k)) (hcl : Cond.classLink own index C ∈ Ts) (hinst : Cond.instantiable C N ∈ Ts) (hini : Cond.initialized C ∈ Ts) (hc : vwCl[ci]? = some (C, Tt, N)) (fs : List Value) (hfs : ∀ j, j < N → defaultValue (ty j) = vp_V fs j) (hcells : cells + 1 ≤ rm.cells) (hslots : slots + N ≤ rm.slots) (hdg : decode cc pc = .ok (.new index, 3))
    (k : ∀ q : Nat, fqH X nL (cells + 1) (slots + N) (wl ++ [(q, .inr (ci, fs))]) (pc + 3) lv (.ref q :: rest)) : fqH X nL cells slots wl pc lv (rest) := by
  obtain ⟨p, l, e, R, s, m, args, below, meth, c, Q, D, A⟩ := X
  obtain ⟨⟨hx, hb, hml, hown, hts⟩, hK, hA, hR⟩ := E
  exact fun H locs ls hw hl => va_new hx hb hts hin ty hty hown (hts _ hcl) (hts _ hinst) (hts _ hini) hK.1 hw.1 hw.2.1 hw.2.2 hA hc hfs (by rw [hR]; exact hcells) (by rw [hR]; exact hslots) hdg (fun q H1 hP hD hS => k q H1 locs ls ⟨hP, hD, hS⟩ hl)
theorem h_getfield {X : fqX} {rm : Room} {cy : Nat → ClassId} {cc : ByteArray} {nL : Nat} {Ts : List Cond} {own : String} {cells slots : Nat} {wl : va_W} {pc : Nat} {lv : List (Nat × Value)} {rest : List Value} (E : fqE X rm cy cc nL Ts own) {C : String} {Tt : u_T} {N ci index : Nat} (hin : ∀ w ∈ u_ws C Tt N, w ∈ Ts) (q0 : Nat) {a : Nat} {fs : List Value} (he : wl[q0]? = some (a, .inr (ci, fs))) (hc : vwCl[ci]? = some (C, Tt, N)) (i : Nat) (hi : i < N) (hm : Cond.fieldLink own index (Tt i).1 (Tt i).2.1 (Tt i).2.2.1 ∈ Ts) (v : Value) (hv : fs[i]? = some v) (hdg : decode cc pc = .ok (.getfield index, 3))
    (k : fqH X nL cells slots wl (pc + 3) lv (v :: rest)) : fqH X nL cells slots wl pc lv (.ref a :: rest) := by
  obtain ⟨p, l, e, R, s, m, args, below, meth, c, Q, D, A⟩ := X
  obtain ⟨⟨hx, hb, hml, hown, hts⟩, hK, hA, hR⟩ := E
  exact fun H locs ls hw hl => va_get hx hb hts hin hown hK.1 hw.1 q0 he hc i hi (hts _ hm) (fun _ h => h) hv hdg (k H locs ls hw hl)
theorem h_put {X : fqX} {rm : Room} {cy : Nat → ClassId} {cc : ByteArray} {nL : Nat} {Ts : List Cond} {own : String} {cells slots : Nat} {wl : va_W} {pc : Nat} {lv : List (Nat × Value)} {rest : List Value} (E : fqE X rm cy cc nL Ts own) {C : String} {Tt : u_T} {N ci index : Nat} (hin : ∀ w ∈ u_ws C Tt N, w ∈ Ts) (ty0 : Nat → FieldType) (hty : ∀ k, k < N → parseFieldDescriptor (Tt k).2.2.1 = some (ty0 k)) (hnm : ∀ a, a < N → ∀ b, b < N → a ≠ b → (Tt a).2.1 ≠ (Tt b).2.1) (q0 : Nat) {a : Nat} {fs : List Value} (he : wl[q0]? = some (a, .inr (ci, fs))) (hc : vwCl[ci]? = some (C, Tt, N)) (i : Nat) (hi : i < N) (hm : Cond.fieldLink own index (Tt i).1 (Tt i).2.1 (Tt i).2.2.1 ∈ Ts) (hfin : (Tt i).2.2.2 = false) {ty : FieldType} {v : Value} (hd : parseFieldDescriptor (Tt i).2.2.1 = some ty) (hnr : narrow ty v = v) (hft : fits ty v = true) (hl9 : i < fs.length) (wl' : va_W) (hwl : wl.set q0 (a, .inr (ci, fs.set i v)) = wl') (hdg : decode cc pc = .ok (.putfield index, 3))
    (k : fqH X nL cells slots wl' (pc + 3) lv (rest)) : fqH X nL cells slots wl pc lv (v :: .ref a :: rest) := by
  obtain ⟨p, l, e, R, s, m, args, below, meth, c, Q, D, A⟩ := X
  obtain ⟨⟨hx, hb, hml, hown, hts⟩, hK, hA, hR⟩ := E
  exact fun H locs ls hw hl => va_put (v := v) (ty := ty) hx hb hts hin ty0 hty hnm hown hK.1 hw.1 hw.2.1 hw.2.2 q0 he hc i hi (hts _ hm) (fun _ h => h) hfin hd hnr hft hl9 hdg (fun H locs hP hD hS => by
    rw [hwl] at hP hD
    exact k H locs ls ⟨hP, hD, hS⟩ hl)
theorem h_putF {X : fqX} {rm : Room} {cy : Nat → ClassId} {cc : ByteArray} {nL : Nat} {Ts : List Cond} {own : String} {cells slots : Nat} {wl : va_W} {pc : Nat} {lv : List (Nat × Value)} {rest : List Value} (E : fqE X rm cy cc nL Ts own) (hnam : ∀ x : Method, x = X.2.2.2.2.2.2.2.2.1 → x.name = "<init>") {C : String} {Tt : u_T} {N ci index : Nat} (hin : ∀ w ∈ u_ws C Tt N, w ∈ Ts) (ty0 : Nat → FieldType) (hty : ∀ k, k < N → parseFieldDescriptor (Tt k).2.2.1 = some (ty0 k)) (hnm : ∀ a, a < N → ∀ b, b < N → a ≠ b → (Tt a).2.1 ≠ (Tt b).2.1) (q0 : Nat) {a : Nat} {fs : List Value} (he : wl[q0]? = some (a, .inr (ci, fs))) (hc : vwCl[ci]? = some (C, Tt, N)) (i : Nat) (hi : i < N) (hm : Cond.fieldLink own index (Tt i).1 (Tt i).2.1 (Tt i).2.2.1 ∈ Ts) (hfin : (Tt i).2.2.2 = true) (hdecl : (Tt i).1 = own) {ty : FieldType} {v : Value} (hd : parseFieldDescriptor (Tt i).2.2.1 = some ty) (hnr : narrow ty v = v) (hft : fits ty v = true) (hl9 : i < fs.length) (wl' : va_W) (hwl : wl.set q0 (a, .inr (ci, fs.set i v)) = wl') (hdg : decode cc pc = .ok (.putfield index, 3))
    (k : fqH X nL cells slots wl' (pc + 3) lv (rest)) : fqH X nL cells slots wl pc lv (v :: .ref a :: rest) := by
  obtain ⟨p, l, e, R, s, m, args, below, meth, c, Q, D, A⟩ := X
  obtain ⟨⟨hx, hb, hml, hown, hts⟩, hK, hA, hR⟩ := E
  exact fun H locs ls hw hl => va_putF (v := v) (ty := ty) hx hb hts hin ty0 hty hnm hown hK.1 hw.1 hw.2.1 hw.2.2 q0 he hc i hi (hts _ hm) (fun _ h => h) hfin (hnam _ rfl) hdecl hd hnr hft hl9 hdg (fun H locs hP hD hS => by
    rw [hwl] at hP hD
    exact k H locs ls ⟨hP, hD, hS⟩ hl)
theorem h_alen {X : fqX} {rm : Room} {cy : Nat → ClassId} {cc : ByteArray} {nL : Nat} {Ts : List Cond} {own : String} {cells slots : Nat} {wl : va_W} {pc : Nat} {lv : List (Nat × Value)} {rest : List Value} (E : fqE X rm cy cc nL Ts own) (q0 t0 : Nat) {a : Nat} {x : vp_A} (ha : wl[q0]? = some (a, .inl (cy t0, x))) {ty : FieldType} (ht : (fqTy cy)[t0]? = some (cy t0, ty)) (v : Int32) (hv : Int32.ofNat x.1 = v) (hdg : decode cc pc = .ok (.arraylength, 1))
    (k : fqH X nL cells slots wl (pc + 1) lv (.int v :: rest)) : fqH X nL cells slots wl pc lv (.ref a :: rest) := by
  obtain ⟨p, l, e, R, s, m, args, below, meth, c, Q, D, A⟩ := X
  obtain ⟨⟨hx, hb, hml, hown, hts⟩, hK, hA, hR⟩ := E
  exact fun H locs ls hw hl => va_alen hx hb hK.1 hw.1 q0 t0 ha ht hv hdg (k H locs ls hw hl)
theorem h_lastore {X : fqX} {rm : Room} {cy : Nat → ClassId} {cc : ByteArray} {nL : Nat} {Ts : List Cond} {own : String} {cells slots : Nat} {wl : va_W} {pc : Nat} {lv : List (Nat × Value)} {rest : List Value} (E : fqE X rm cy cc nL Ts own) (q0 : Nat) {a N : Nat} {f : Nat → Int64} (ha : wl[q0]? = some (a, .inl (cy 1, N, .inr (.inl f)))) {i : Int32} {x : Int64} (hin : vp_in i N) (wl' : va_W) (hwl : wl.set q0 (a, .inl (cy 1, N, .inr (.inl (vp_updL f i.toNatClampNeg x)))) = wl') (hdg : decode cc pc = .ok (.lastore, 1))
    (k : fqH X nL cells slots wl' (pc + 1) lv (rest)) : fqH X nL cells slots wl pc lv (.long x :: .int i :: .ref a :: rest) := by
  obtain ⟨p, l, e, R, s, m, args, below, meth, c, Q, D, A⟩ := X
  obtain ⟨⟨hx, hb, hml, hown, hts⟩, hK, hA, hR⟩ := E
  exact fun H locs ls hw hl => va_last hx hb hK.1 hw.1 hw.2.1 hw.2.2 q0 1 ha rfl hin hdg (fun H locs hP hD hS => by
    rw [hwl] at hP hD
    exact k H locs ls ⟨hP, hD, hS⟩ hl)
theorem h_aastore {X : fqX} {rm : Room} {cy : Nat → ClassId} {cc : ByteArray} {nL : Nat} {Ts : List Cond} {own : String} {cells slots : Nat} {wl : va_W} {pc : Nat} {lv : List (Nat × Value)} {rest : List Value} (E : fqE X rm cy cc nL Ts own) (q0 t0 qk ci : Nat) {a N v : Nat} {r : vw_C} {vs : List Value} {f : Nat → Option Nat} (ha : wl[q0]? = some (a, .inl (cy t0, N, .inr (.inr (.inr (.inr f)))))) (ht : (fqTy cy)[t0]? = some (cy t0, .object r.1)) (hv : wl[qk]? = some (v, .inr (ci, vs))) (hc : vwCl[ci]? = some r) {i : Int32} (hin : vp_in i N) (wl' : va_W) (hwl : wl.set q0 (a, .inl (cy t0, N, .inr (.inr (.inr (.inr (va_up f i.toNatClampNeg (some v))))))) = wl') (hdg : decode cc pc = .ok (.aastore, 1))
    (k : fqH X nL cells slots wl' (pc + 1) lv (rest)) : fqH X nL cells slots wl pc lv (.ref v :: .int i :: .ref a :: rest) := by
  obtain ⟨p, l, e, R, s, m, args, below, meth, c, Q, D, A⟩ := X
  obtain ⟨⟨hx, hb, hml, hown, hts⟩, hK, hA, hR⟩ := E
  exact fun H locs ls hw hl => va_astq hx hb hK.1 hw.1 hw.2.1 hw.2.2 q0 t0 qk ci ha ht hv hc hin hdg (fun H locs hP hD hS => by
    rw [hwl] at hP hD
    exact k H locs ls ⟨hP, hD, hS⟩ hl)
theorem h_objInit {X : fqX} {rm : Room} {cy : Nat → ClassId} {cc : ByteArray} {nL : Nat} {Ts : List Cond} {own : String} {cells slots : Nat} {wl : va_W} {pc : Nat} {lv : List (Nat × Value)} {rest : List Value} (E : fqE X rm cy cc nL Ts own) {a index : Nat} (hl1 : Cond.methodLink own index Lib.objectInit ∈ Ts) (hl2 : Cond.instanceMethod Lib.objectInit ∈ Ts) (hl3 : Cond.code Lib.objectInit ⟨#[0xb1]⟩ 1 none ∈ Ts) (hfr : 1 ≤ rm.frames) (hlo : (rest.map fun v => v.category).sum + 12 ≤ rm.locals) (hdg : decode cc pc = .ok (.invokespecial index, 3))
    (k : fqH X nL cells slots wl (pc + 3) lv (rest)) : fqH X nL cells slots wl pc lv (.ref a :: rest) := by
  obtain ⟨p, l, e, R, s, m, args, below, meth, c, Q, D, A⟩ := X
  obtain ⟨⟨hx, hb, hml, hown, hts⟩, hK, hA, hR⟩ := E
  exact fun H locs ls hw hl => W.objInit hx hb hown (hts _ hl1) (hts _ hl2) (hts _ hl3) rfl (hl.1.trans hml.symm) rfl hdg (by rw [hR]; exact hfr) (by rw [hR]; show 2 * 0 + _ + 12 ≤ _; omega) (k H locs ls hw hl)
/-- a maker's start and end: from the cells wc on, to the cells w1 u -/
def fhPc (D : va_G) (cy : Nat → ClassId) (sz : Nat) (wc : va_W) (av : List Value) : Array Value → State → Prop := va_Pc av (fun U => U.heap.size = sz ∧ va_P D vwCl wc U.heap ∧ fqK D cy U ∧ va_D (fun _ => True) wc)
def fhQv {S : Type} (D : va_G) (sz : Nat) (wc : va_W) (w1 : S → va_W) : Array Value → State → Outcome → State → Prop := va_Qv (fun (_ : S) => True) (fun u t => va_P D vwCl (w1 u) t.heap ∧ va_D (va_A wc sz) (w1 u)) (va_A wc sz)
theorem fhPc_blind {D : va_G} {cy : Nat → ClassId} {sz : Nat} {wc : va_W} {av : List Value} : FrameBlind (fhPc D cy sz wc av) := fun a U g mk q => by
  obtain ⟨q0, q1, qP, qK, qD⟩ := q
  exact ⟨q0, q1, qP, qK.calling g mk a, qD⟩
theorem h_callI {X : fqX} {rm : Room} {cy : Nat → ClassId} {cc : ByteArray} {nL : Nat} {Ts : List Cond} {own : String} {cells slots : Nat} {wl : va_W} {pc : Nat} {lv : List (Nat × Value)} {rest : List Value} (E : fqE X rm cy cc nL Ts own) {y : MethodName} {bytes : ByteArray} {maxL nn index mc ms : Nat} {ws ws' : List Cond} {rmc : Room} {S : Type} {b : Nat} {wc wr : va_W} (As : List Value) (w1 : S → va_W) (hM : ∀ (l : Launch) (D : va_G) (sz : Nat), Met l y ws rmc (fhPc D cy sz wc (.ref b :: As)) (fhQv D sz wc w1) mc ms (va_A wc sz)) (hG : GoodIn Ts ws) (hw9 : ws = Cond.code y bytes maxL none :: ws') (hrc : rmc.cells = mc) (hrs : rmc.slots = ms) (hini : Cond.initialized y.cls ∈ Ts) (hlk : Cond.methodLink own index y ∈ Ts) (hins : Cond.instanceMethod y ∈ Ts) (hy1 : y.name = "<init>") (hd : y.cls ≠ "java/lang/invoke/MethodHandle" ∧ y.cls ≠ "java/lang/invoke/VarHandle" ∧ (parseMethodDescriptor y.desc).map (fun d => d.parameters.length) = some nn) (hR9 : rmc.frames + 1 ≤ rm.frames ∧ 8 + (maxL + 11) + rmc.locals ≤ rm.locals) (hn : As.length = nn) {st : List Value} (hst : st = As.reverse ++ .ref b :: rest) (hroom : (rest.map fun v => v.category).sum ≤ 8) (hdg : decode cc pc = .ok (.invokespecial index, 3)) (hcs : cells + mc ≤ rm.cells ∧ slots + ms ≤ rm.slots) (isC isR : List Nat) (hC : isC.map (fun i => wl[i]?) = wc.map some) (hRr : isR.map (fun i => wl[i]?) = wr.map some) (hnd : va_nd isC = true) (hnr : va_nd isR = true) (hdis : ∀ i ∈ isR, i ∉ isC)
    (k : ∀ u : S, fqH X nL (cells + mc) (slots + ms) (wr ++ w1 u) (pc + 3) lv (rest)) : fqH X nL cells slots wl pc lv (st) := by
  obtain ⟨p, l, e, R, s, m, args, below, meth, c, Q, D, A⟩ := X
  obtain ⟨⟨hx, hb, hml, hown, hts⟩, hK, hA, hR⟩ := E
  intro H locs ls hw hl
  have hPc : va_P D vwCl wc H := fun j q hq => by
    have h1 : (isC.map (fun i => wl[i]?))[j]? = some (some q) := by rw [hC, List.getElem?_map, hq]; rfl
    rw [List.getElem?_map] at h1
    cases hi : isC[j]? with
    | none => rw [hi] at h1; cases h1
    | some i => rw [hi] at h1; exact hw.1 i q (Option.some.inj h1)
  have hDc := hw.2.1.sub (ws' := wc) isC hnd hC
  have hFc := va_free (wc := wc) hw.2.1 hw.2.2 hA isC hC
  exact va_callv (va_runI (As := As) (rest := rest) ⟨hx, hb, hml, hown, hts⟩ (hM l D H.size) (cwI nn hts hG hw9 hrc hrs (hts _ hini) (hts _ hlk) (hts _ hins) hy1 hd (by rw [hR]; exact hR9)) ⟨fhPc_blind, fun U hU hW => ⟨rfl, by rw [hU], by rw [hU]; exact hPc, hK.warm hW, hDc.weaken (fun _ _ _ _ => trivial)⟩⟩ rfl hn hl.1 hst (lv_room hroom) hdg (by rw [hR]; exact hcs)) hw.2.2 (fun q _ h => hFc q h) hFc (fun u t H1 locs ht hvm hp hB hz hk hS => by
    obtain ⟨hP1, hD1⟩ := hB
    rw [ht] at hP1
    obtain ⟨hP, hD⟩ := va_join hw.1 hw.2.1 isC isR hC hRr hnr hdis hk hFc hP1 hD1
    exact k u H1 locs ls ⟨hP, hD, hS⟩ hl)
def fhR (X : fqX) (nL mc ms : Nat) (cc : ByteArray) {S : Type} (w1 : S → va_W) : Prop := ∀ (u : S) (pc : Nat) (lv : List (Nat × Value)), decode cc pc = .ok (.return_, 1) → fqH X nL mc ms (w1 u) pc lv []
theorem fh_enter {l : Launch} {y : MethodName} {ws : List Cond} {rm : Room} {cc : ByteArray} {maxL mc ms : Nat} {av : List Value} {D : va_G} {cy : Nat → ClassId} {sz : Nat} {S : Type} {wc : va_W} {w1 : S → va_W} {own : String} (ws' : List Cond) (hy : plainName y.cls = true) (hw0 : ws = Cond.code y cc maxL none :: ws') (hlen : (lg_sl av).length ≤ maxL) (hown : y.cls = own) (hnm : y.name = "<init>")
    (body : ∀ X : fqX, fqE X rm cy cc maxL ws own → (∀ x : Method, x = X.2.2.2.2.2.2.2.2.1 → x.name = "<init>") → fhR X maxL mc ms cc w1 → fqH X maxL 0 0 wc 0 (lv_args 0 av) []) : Met l y ws rm (fhPc D cy sz wc av) (fhQv D sz wc w1) mc ms (va_A wc sz) := by
  refine Met.ofW (cc := cc) (maxL := maxL) (ret := none) hy hw0 ?_
  intro p e s m args below meth c s₁ B hml hv
  obtain ⟨rfl, hsz, hP, hK, hD0⟩ := hv
  subst hsz
  have hl := lv_entry av (n := maxL) hlen
  rw [lg_entry_eq]
  have hD := hD0.self (sz := s.heap.size)
  have hlocks := B.notSynchronized
  exact body (p, l, e, _, s, m, _, below, meth, c, _, D, va_A wc s.heap.size) ⟨⟨B.exec, B.bytes, hml, hown ▸ findClass_of_methodNamed B.named, atoms_spec (ws := ws) B.pre⟩, hK, fun q h => Or.inr h, rfl⟩ (fun x hx9 => by subst hx9; exact (name_of_methodNamed B.named B.method).1.trans hnm)
    (fun u pc lv hd => fun H locs ls hw hl => W.vret B.exec B.bytes B.returns (fun t ht hW => ⟨⟨u, rfl, trivial, by rw [ht]; exact hw.1, hw.2.1⟩, hw.2.2.F ht⟩) hw.2.2.2.2 hd) s.heap [] _ ⟨hP, hD, va_S.rf⟩ hl
theorem h_callN0l {X : fqX} {rm : Room} {cy : Nat → ClassId} {cc : ByteArray} {nL : Nat} {Ts : List Cond} {own : String} {cells slots : Nat} {wl : va_W} {pc : Nat} {lv : List (Nat × Value)} {rest : List Value} (E : fqE X rm cy cc nL Ts own) {y : MethodName} {bytes : ByteArray} {maxL nn index : Nat} {ret : Option FieldType} {ws ws' : List Cond} {rmc : Room} {host : String} {T : fqT} {ad : Nat → Nat} {σ : fqS} (As : List Value) {r : Int64} (hM : ∀ (l : Launch) (D : va_G) (sz : Nat), Met l y ws rmc (fqPc T (fun _ => 0) D cy ad sz 0 σ As) (fqQl T (fun _ => 0) D ad sz 0 σ r σ) 0 0 (fqA T (fun _ => 0) ad sz 0 σ)) (hG : GoodIn Ts ws) (hw9 : ws = Cond.code y bytes maxL ret :: ws') (hrc : rmc.cells = 0) (hrs : rmc.slots = 0) (hlk : ∀ U : State, fqNw U → va_Nw (.methodLinkNest own index y host) U) (hini : Cond.initialized y.cls ∈ Ts) (hstt : Cond.static y ∈ Ts) (hd : y.cls ≠ "java/lang/invoke/MethodHandle" ∧ y.cls ≠ "java/lang/invoke/VarHandle" ∧ (parseMethodDescriptor y.desc).map (fun d => d.parameters.length) = some nn) (hR9 : rmc.frames + 1 ≤ rm.frames ∧ 8 + (maxL + 11) + rmc.locals ≤ rm.locals) (hn : As.length = nn) {st : List Value} (hst : st = As.reverse ++ rest) (hroom : (rest.map fun v => v.category).sum ≤ 8) (hdg : decode cc pc = .ok (.invokestatic index, 3)) (hcs : cells ≤ rm.cells ∧ slots ≤ rm.slots)
    (k : fqH X nL cells slots wl (pc + 3) lv (.long r :: rest)) : fqH X nL cells slots wl pc lv (st) := by
  obtain ⟨p, l, e, R, s, m, args, below, meth, c, Q, D, A⟩ := X
  obtain ⟨⟨hx, hb, hml, hown, hts⟩, hK, hA, hR⟩ := E
  intro H locs ls hw hl
  have hP0 : va_P D vwCl (fqW T (fun _ => 0) ad 0 σ) H := fun k q h => by cases h
  have hD0 : va_D (fun _ => True) (fqW T (fun _ => 0) ad 0 σ) := ⟨fun i j p q h => (by cases h), fun k q h => trivial⟩
  have hFc : ∀ q, fqA T (fun _ => 0) ad H.size 0 σ q → A q := fun q h => by
    rcases h with ⟨k, e, h⟩ | h
    · cases h
    · exact hA q (Nat.le_trans hw.2.2.1 h)
  exact va_calll (va_runSN (As := As) (rest := rest) ⟨hx, hb, hml, hown, hts⟩ (hM l D H.size) ⟨va_cnB nn hts hG hw9 hrc hrs (hlk _ hK.2) (hts _ hini) hd (by rw [hR]; exact hR9), hts _ hstt, trivial⟩ ⟨fqPc_blind, fun U hU hW => ⟨rfl, by rw [hU], by rw [hU]; exact hP0, hK.warm hW, hD0⟩⟩ rfl hn hl.1 hst (lv_room hroom) hdg (by rw [hR]; exact hcs)) hw.2.2 (fun q _ h => hFc q h) hFc (fun r1 u t H1 locs ht hvm hp hB hz hk hS => by
    cases hp
    exact k H1 locs ls ⟨hw.1.kept (fun j x hx9 => hk x.1 ((hw.1 j x hx9).lt) (fun h => by
      rcases h with ⟨k, e, h⟩ | h
      · cases h
      · have := (hw.1 j x hx9).lt; omega)), hw.2.1, hS⟩ hl)
theorem arrV_cong {cA : ClassId} {n : Nat} {f g : Nat → Value} (h : ∀ j, j < n → f j = g j) : arrV cA n f = arrV cA n g := by
  have e : (fun j : Fin n => f j.val) = fun j : Fin n => g j.val := funext fun j => h j.val j.isLt
  unfold arrV
  rw [e]
theorem h_arrq {X : fqX} {nL cells slots : Nat} {wl : va_W} {pc : Nat} {lv : List (Nat × Value)} {st : List Value} (q0 : Nat) {a N : Nat} {cA : ClassId} {f : Nat → Option Nat} (g : Nat → Option Nat) (ha : wl[q0]? = some (a, .inl (cA, N, .inr (.inr (.inr (.inr f)))))) (hfg : ∀ j, j < N → f j = g j) (wl' : va_W) (hwl : wl.set q0 (a, .inl (cA, N, .inr (.inr (.inr (.inr g))))) = wl') (k : fqH X nL cells slots wl' pc lv st) : fqH X nL cells slots wl pc lv st := by
  obtain ⟨p, l, e, R, s, m, args, below, meth, c, Q, D, A⟩ := X
  intro H locs ls hw hl
  subst hwl
  refine k H locs ls ⟨fun k q hk => ?_, hw.2.1.set ha, hw.2.2⟩ hl
  rw [List.getElem?_set] at hk
  by_cases hi : q0 = k
  · subst hi
    have hlt : q0 < wl.length := (List.getElem?_eq_some_iff.mp ha).1
    rw [if_pos rfl, if_pos hlt] at hk
    cases hk
    have h1 : H[a]? = some (vp_cell cA (N, .inr (.inr (.inr (.inr f))))) := hw.1 q0 _ ha
    show H[a]? = some (vp_cell cA (N, .inr (.inr (.inr (.inr g)))))
    rw [h1]
    rw [vp_cell_q, vp_cell_q]
    exact congrArg some (arrV_cong (fun j hj => congrArg va_rf (hfg j hj)))
  · rw [if_neg hi] at hk
    exact hw.1 k q hk
end FQH
