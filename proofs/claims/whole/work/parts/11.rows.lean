/-- the machine's side of a walk, in one -/
abbrev fqX : Type := Program × Launch × Env × Room × State × MethodId × Array Value × List Frame × Method × Code × (State → Prop) × va_G × (Nat → Prop)
def fqE (X : fqX) (rm : Room) (cy : Nat → ClassId) (cc : ByteArray) (nL : Nat) (Ts : List Cond) (own : String) : Prop := match X with
  | (p, _, _, R, s, m, args, _, _, c, _, D, A) => CallFix p m c cc nL s args Ts own ∧ fqK D cy s ∧ (∀ q : Nat, s.heap.size ≤ q → A q) ∧ R = rm
/-- the goal of a walk: from any heap that holds the world of σ, and any locals that hold lv -/
def fqG (X : fqX) (T : fqT) (Z : Nat → Nat) (ad : Nat → Nat) (n nL cells slots : Nat) (σ : fqS) (pc : Nat) (lv : List (Nat × Value)) (st : List Value) : Prop := match X with
  | (p, l, e, R, s, m, args, below, meth, c, Q, D, A) => ∀ (H : Heap) (locs : List Loc) (ls : Array Slot), fqO T Z D ad n A s.heap σ H locs → lv_has ls nL lv → W p l e R s m args below meth c H locs cells slots Q (F0 m pc ls st)
section FQR
theorem g_iadd {X : fqX} {rm : Room} {cy : Nat → ClassId} {cc : ByteArray} {nL : Nat} {Ts : List Cond} {own : String} {T : fqT} {Z : Nat → Nat} {ad : Nat → Nat} {n cells slots : Nat} {σ : fqS} {pc : Nat} {lv : List (Nat × Value)} {rest : List Value} (E : fqE X rm cy cc nL Ts own) {x y : Int32} (hdg : decode cc pc = .ok (.iadd, 1)) 
    (k : fqG X T Z ad n nL cells slots σ (pc + 1) lv (.int (x + y) :: rest)) : fqG X T Z ad n nL cells slots σ pc lv (.int y :: .int x :: rest) := by
  obtain ⟨p, l, e, R, s, m, args, below, meth, c, Q, D, A⟩ := X
  obtain ⟨⟨hx, hb, hml, hown, hts⟩, hK, hA, hR⟩ := E
  exact fun H locs ls hw hl => lv_iadd hx hb hdg  (k H locs ls hw hl)
theorem g_isub {X : fqX} {rm : Room} {cy : Nat → ClassId} {cc : ByteArray} {nL : Nat} {Ts : List Cond} {own : String} {T : fqT} {Z : Nat → Nat} {ad : Nat → Nat} {n cells slots : Nat} {σ : fqS} {pc : Nat} {lv : List (Nat × Value)} {rest : List Value} (E : fqE X rm cy cc nL Ts own) {x y : Int32} (hdg : decode cc pc = .ok (.isub, 1)) 
    (k : fqG X T Z ad n nL cells slots σ (pc + 1) lv (.int (x - y) :: rest)) : fqG X T Z ad n nL cells slots σ pc lv (.int y :: .int x :: rest) := by
  obtain ⟨p, l, e, R, s, m, args, below, meth, c, Q, D, A⟩ := X
  obtain ⟨⟨hx, hb, hml, hown, hts⟩, hK, hA, hR⟩ := E
  exact fun H locs ls hw hl => lv_isub hx hb hdg  (k H locs ls hw hl)
theorem g_imul {X : fqX} {rm : Room} {cy : Nat → ClassId} {cc : ByteArray} {nL : Nat} {Ts : List Cond} {own : String} {T : fqT} {Z : Nat → Nat} {ad : Nat → Nat} {n cells slots : Nat} {σ : fqS} {pc : Nat} {lv : List (Nat × Value)} {rest : List Value} (E : fqE X rm cy cc nL Ts own) {x y : Int32} (hdg : decode cc pc = .ok (.imul, 1)) 
    (k : fqG X T Z ad n nL cells slots σ (pc + 1) lv (.int (x * y) :: rest)) : fqG X T Z ad n nL cells slots σ pc lv (.int y :: .int x :: rest) := by
  obtain ⟨p, l, e, R, s, m, args, below, meth, c, Q, D, A⟩ := X
  obtain ⟨⟨hx, hb, hml, hown, hts⟩, hK, hA, hR⟩ := E
  exact fun H locs ls hw hl => lv_imul hx hb hdg  (k H locs ls hw hl)
theorem g_iand {X : fqX} {rm : Room} {cy : Nat → ClassId} {cc : ByteArray} {nL : Nat} {Ts : List Cond} {own : String} {T : fqT} {Z : Nat → Nat} {ad : Nat → Nat} {n cells slots : Nat} {σ : fqS} {pc : Nat} {lv : List (Nat × Value)} {rest : List Value} (E : fqE X rm cy cc nL Ts own) {x y : Int32} (hdg : decode cc pc = .ok (.iand, 1)) 
    (k : fqG X T Z ad n nL cells slots σ (pc + 1) lv (.int (x &&& y) :: rest)) : fqG X T Z ad n nL cells slots σ pc lv (.int y :: .int x :: rest) := by
  obtain ⟨p, l, e, R, s, m, args, below, meth, c, Q, D, A⟩ := X
  obtain ⟨⟨hx, hb, hml, hown, hts⟩, hK, hA, hR⟩ := E
  exact fun H locs ls hw hl => lv_iand hx hb hdg  (k H locs ls hw hl)
theorem g_ior {X : fqX} {rm : Room} {cy : Nat → ClassId} {cc : ByteArray} {nL : Nat} {Ts : List Cond} {own : String} {T : fqT} {Z : Nat → Nat} {ad : Nat → Nat} {n cells slots : Nat} {σ : fqS} {pc : Nat} {lv : List (Nat × Value)} {rest : List Value} (E : fqE X rm cy cc nL Ts own) {x y : Int32} (hdg : decode cc pc = .ok (.ior, 1)) 
    (k : fqG X T Z ad n nL cells slots σ (pc + 1) lv (.int (x ||| y) :: rest)) : fqG X T Z ad n nL cells slots σ pc lv (.int y :: .int x :: rest) := by
  obtain ⟨p, l, e, R, s, m, args, below, meth, c, Q, D, A⟩ := X
  obtain ⟨⟨hx, hb, hml, hown, hts⟩, hK, hA, hR⟩ := E
  exact fun H locs ls hw hl => lv_ior hx hb hdg  (k H locs ls hw hl)
theorem g_ixor {X : fqX} {rm : Room} {cy : Nat → ClassId} {cc : ByteArray} {nL : Nat} {Ts : List Cond} {own : String} {T : fqT} {Z : Nat → Nat} {ad : Nat → Nat} {n cells slots : Nat} {σ : fqS} {pc : Nat} {lv : List (Nat × Value)} {rest : List Value} (E : fqE X rm cy cc nL Ts own) {x y : Int32} (hdg : decode cc pc = .ok (.ixor, 1)) 
    (k : fqG X T Z ad n nL cells slots σ (pc + 1) lv (.int (x ^^^ y) :: rest)) : fqG X T Z ad n nL cells slots σ pc lv (.int y :: .int x :: rest) := by
  obtain ⟨p, l, e, R, s, m, args, below, meth, c, Q, D, A⟩ := X
  obtain ⟨⟨hx, hb, hml, hown, hts⟩, hK, hA, hR⟩ := E
  exact fun H locs ls hw hl => lv_ixor hx hb hdg  (k H locs ls hw hl)
theorem g_ladd {X : fqX} {rm : Room} {cy : Nat → ClassId} {cc : ByteArray} {nL : Nat} {Ts : List Cond} {own : String} {T : fqT} {Z : Nat → Nat} {ad : Nat → Nat} {n cells slots : Nat} {σ : fqS} {pc : Nat} {lv : List (Nat × Value)} {rest : List Value} (E : fqE X rm cy cc nL Ts own) {x y : Int64} (hdg : decode cc pc = .ok (.ladd, 1)) 
    (k : fqG X T Z ad n nL cells slots σ (pc + 1) lv (.long (x + y) :: rest)) : fqG X T Z ad n nL cells slots σ pc lv (.long y :: .long x :: rest) := by
  obtain ⟨p, l, e, R, s, m, args, below, meth, c, Q, D, A⟩ := X
  obtain ⟨⟨hx, hb, hml, hown, hts⟩, hK, hA, hR⟩ := E
  exact fun H locs ls hw hl => lv_ladd hx hb hdg  (k H locs ls hw hl)
theorem g_lsub {X : fqX} {rm : Room} {cy : Nat → ClassId} {cc : ByteArray} {nL : Nat} {Ts : List Cond} {own : String} {T : fqT} {Z : Nat → Nat} {ad : Nat → Nat} {n cells slots : Nat} {σ : fqS} {pc : Nat} {lv : List (Nat × Value)} {rest : List Value} (E : fqE X rm cy cc nL Ts own) {x y : Int64} (hdg : decode cc pc = .ok (.lsub, 1)) 
    (k : fqG X T Z ad n nL cells slots σ (pc + 1) lv (.long (x - y) :: rest)) : fqG X T Z ad n nL cells slots σ pc lv (.long y :: .long x :: rest) := by
  obtain ⟨p, l, e, R, s, m, args, below, meth, c, Q, D, A⟩ := X
  obtain ⟨⟨hx, hb, hml, hown, hts⟩, hK, hA, hR⟩ := E
  exact fun H locs ls hw hl => lv_lsub hx hb hdg  (k H locs ls hw hl)
theorem g_lmul {X : fqX} {rm : Room} {cy : Nat → ClassId} {cc : ByteArray} {nL : Nat} {Ts : List Cond} {own : String} {T : fqT} {Z : Nat → Nat} {ad : Nat → Nat} {n cells slots : Nat} {σ : fqS} {pc : Nat} {lv : List (Nat × Value)} {rest : List Value} (E : fqE X rm cy cc nL Ts own) {x y : Int64} (hdg : decode cc pc = .ok (.lmul, 1)) 
    (k : fqG X T Z ad n nL cells slots σ (pc + 1) lv (.long (x * y) :: rest)) : fqG X T Z ad n nL cells slots σ pc lv (.long y :: .long x :: rest) := by
  obtain ⟨p, l, e, R, s, m, args, below, meth, c, Q, D, A⟩ := X
  obtain ⟨⟨hx, hb, hml, hown, hts⟩, hK, hA, hR⟩ := E
  exact fun H locs ls hw hl => lv_lmul hx hb hdg  (k H locs ls hw hl)
theorem g_ineg {X : fqX} {rm : Room} {cy : Nat → ClassId} {cc : ByteArray} {nL : Nat} {Ts : List Cond} {own : String} {T : fqT} {Z : Nat → Nat} {ad : Nat → Nat} {n cells slots : Nat} {σ : fqS} {pc : Nat} {lv : List (Nat × Value)} {rest : List Value} (E : fqE X rm cy cc nL Ts own) {x : Int32} (hdg : decode cc pc = .ok (.ineg, 1)) 
    (k : fqG X T Z ad n nL cells slots σ (pc + 1) lv (.int (-x) :: rest)) : fqG X T Z ad n nL cells slots σ pc lv (.int x :: rest) := by
  obtain ⟨p, l, e, R, s, m, args, below, meth, c, Q, D, A⟩ := X
  obtain ⟨⟨hx, hb, hml, hown, hts⟩, hK, hA, hR⟩ := E
  exact fun H locs ls hw hl => lv_ineg hx hb hdg  (k H locs ls hw hl)
theorem g_lneg {X : fqX} {rm : Room} {cy : Nat → ClassId} {cc : ByteArray} {nL : Nat} {Ts : List Cond} {own : String} {T : fqT} {Z : Nat → Nat} {ad : Nat → Nat} {n cells slots : Nat} {σ : fqS} {pc : Nat} {lv : List (Nat × Value)} {rest : List Value} (E : fqE X rm cy cc nL Ts own) {x : Int64} (hdg : decode cc pc = .ok (.lneg, 1)) 
    (k : fqG X T Z ad n nL cells slots σ (pc + 1) lv (.long (-x) :: rest)) : fqG X T Z ad n nL cells slots σ pc lv (.long x :: rest) := by
  obtain ⟨p, l, e, R, s, m, args, below, meth, c, Q, D, A⟩ := X
  obtain ⟨⟨hx, hb, hml, hown, hts⟩, hK, hA, hR⟩ := E
  exact fun H locs ls hw hl => lv_lneg hx hb hdg  (k H locs ls hw hl)
theorem g_ldiv {X : fqX} {rm : Room} {cy : Nat → ClassId} {cc : ByteArray} {nL : Nat} {Ts : List Cond} {own : String} {T : fqT} {Z : Nat → Nat} {ad : Nat → Nat} {n cells slots : Nat} {σ : fqS} {pc : Nat} {lv : List (Nat × Value)} {rest : List Value} (E : fqE X rm cy cc nL Ts own) {x y : Int64} (hdg : decode cc pc = .ok (.ldiv, 1)) (hne : ¬ y = 0)
    (k : fqG X T Z ad n nL cells slots σ (pc + 1) lv (.long (x / y) :: rest)) : fqG X T Z ad n nL cells slots σ pc lv (.long y :: .long x :: rest) := by
  obtain ⟨p, l, e, R, s, m, args, below, meth, c, Q, D, A⟩ := X
  obtain ⟨⟨hx, hb, hml, hown, hts⟩, hK, hA, hR⟩ := E
  exact fun H locs ls hw hl => lv_ldiv hx hb hdg hne (k H locs ls hw hl)
theorem g_ishl {X : fqX} {rm : Room} {cy : Nat → ClassId} {cc : ByteArray} {nL : Nat} {Ts : List Cond} {own : String} {T : fqT} {Z : Nat → Nat} {ad : Nat → Nat} {n cells slots : Nat} {σ : fqS} {pc : Nat} {lv : List (Nat × Value)} {rest : List Value} (E : fqE X rm cy cc nL Ts own) {x y : Int32} (hdg : decode cc pc = .ok (.ishl, 1)) 
    (k : fqG X T Z ad n nL cells slots σ (pc + 1) lv (.int (x <<< (y &&& 31)) :: rest)) : fqG X T Z ad n nL cells slots σ pc lv (.int y :: .int x :: rest) := by
  obtain ⟨p, l, e, R, s, m, args, below, meth, c, Q, D, A⟩ := X
  obtain ⟨⟨hx, hb, hml, hown, hts⟩, hK, hA, hR⟩ := E
  exact fun H locs ls hw hl => lv_ishl hx hb hdg  (k H locs ls hw hl)
theorem g_ishr {X : fqX} {rm : Room} {cy : Nat → ClassId} {cc : ByteArray} {nL : Nat} {Ts : List Cond} {own : String} {T : fqT} {Z : Nat → Nat} {ad : Nat → Nat} {n cells slots : Nat} {σ : fqS} {pc : Nat} {lv : List (Nat × Value)} {rest : List Value} (E : fqE X rm cy cc nL Ts own) {x y : Int32} (hdg : decode cc pc = .ok (.ishr, 1)) 
    (k : fqG X T Z ad n nL cells slots σ (pc + 1) lv (.int (x >>> (y &&& 31)) :: rest)) : fqG X T Z ad n nL cells slots σ pc lv (.int y :: .int x :: rest) := by
  obtain ⟨p, l, e, R, s, m, args, below, meth, c, Q, D, A⟩ := X
  obtain ⟨⟨hx, hb, hml, hown, hts⟩, hK, hA, hR⟩ := E
  exact fun H locs ls hw hl => lv_ishr hx hb hdg  (k H locs ls hw hl)
theorem g_iushr {X : fqX} {rm : Room} {cy : Nat → ClassId} {cc : ByteArray} {nL : Nat} {Ts : List Cond} {own : String} {T : fqT} {Z : Nat → Nat} {ad : Nat → Nat} {n cells slots : Nat} {σ : fqS} {pc : Nat} {lv : List (Nat × Value)} {rest : List Value} (E : fqE X rm cy cc nL Ts own) {x y : Int32} (hdg : decode cc pc = .ok (.iushr, 1)) 
    (k : fqG X T Z ad n nL cells slots σ (pc + 1) lv (.int ((x.toUInt32 >>> (y.toUInt32 &&& Int32.toUInt32 31)).toInt32) :: rest)) : fqG X T Z ad n nL cells slots σ pc lv (.int y :: .int x :: rest) := by
  obtain ⟨p, l, e, R, s, m, args, below, meth, c, Q, D, A⟩ := X
  obtain ⟨⟨hx, hb, hml, hown, hts⟩, hK, hA, hR⟩ := E
  exact fun H locs ls hw hl => lv_iushr hx hb hdg rfl (k H locs ls hw hl)
theorem g_i2l {X : fqX} {rm : Room} {cy : Nat → ClassId} {cc : ByteArray} {nL : Nat} {Ts : List Cond} {own : String} {T : fqT} {Z : Nat → Nat} {ad : Nat → Nat} {n cells slots : Nat} {σ : fqS} {pc : Nat} {lv : List (Nat × Value)} {rest : List Value} (E : fqE X rm cy cc nL Ts own) {x : Int32} (hdg : decode cc pc = .ok (.i2l, 1)) 
    (k : fqG X T Z ad n nL cells slots σ (pc + 1) lv (.long x.toInt64 :: rest)) : fqG X T Z ad n nL cells slots σ pc lv (.int x :: rest) := by
  obtain ⟨p, l, e, R, s, m, args, below, meth, c, Q, D, A⟩ := X
  obtain ⟨⟨hx, hb, hml, hown, hts⟩, hK, hA, hR⟩ := E
  exact fun H locs ls hw hl => lv_i2l hx hb hdg rfl (k H locs ls hw hl)
theorem g_l2i {X : fqX} {rm : Room} {cy : Nat → ClassId} {cc : ByteArray} {nL : Nat} {Ts : List Cond} {own : String} {T : fqT} {Z : Nat → Nat} {ad : Nat → Nat} {n cells slots : Nat} {σ : fqS} {pc : Nat} {lv : List (Nat × Value)} {rest : List Value} (E : fqE X rm cy cc nL Ts own) {x : Int64} (hdg : decode cc pc = .ok (.l2i, 1)) 
    (k : fqG X T Z ad n nL cells slots σ (pc + 1) lv (.int x.toInt32 :: rest)) : fqG X T Z ad n nL cells slots σ pc lv (.long x :: rest) := by
  obtain ⟨p, l, e, R, s, m, args, below, meth, c, Q, D, A⟩ := X
  obtain ⟨⟨hx, hb, hml, hown, hts⟩, hK, hA, hR⟩ := E
  exact fun H locs ls hw hl => lv_l2i hx hb hdg rfl (k H locs ls hw hl)
theorem g_dup {X : fqX} {rm : Room} {cy : Nat → ClassId} {cc : ByteArray} {nL : Nat} {Ts : List Cond} {own : String} {T : fqT} {Z : Nat → Nat} {ad : Nat → Nat} {n cells slots : Nat} {σ : fqS} {pc : Nat} {lv : List (Nat × Value)} {rest : List Value} (E : fqE X rm cy cc nL Ts own) {v : Value} (hdg : decode cc pc = .ok (.dup, 1)) (hv : v.category = 1)
    (k : fqG X T Z ad n nL cells slots σ (pc + 1) lv (v :: v :: rest)) : fqG X T Z ad n nL cells slots σ pc lv (v :: rest) := by
  obtain ⟨p, l, e, R, s, m, args, below, meth, c, Q, D, A⟩ := X
  obtain ⟨⟨hx, hb, hml, hown, hts⟩, hK, hA, hR⟩ := E
  exact fun H locs ls hw hl => lv_dup hx hb hdg hv (k H locs ls hw hl)
theorem g_dup2_11 {X : fqX} {rm : Room} {cy : Nat → ClassId} {cc : ByteArray} {nL : Nat} {Ts : List Cond} {own : String} {T : fqT} {Z : Nat → Nat} {ad : Nat → Nat} {n cells slots : Nat} {σ : fqS} {pc : Nat} {lv : List (Nat × Value)} {rest : List Value} (E : fqE X rm cy cc nL Ts own) {v u : Value} (hdg : decode cc pc = .ok (.dup2, 1)) (hv : v.category = 1) (hu : u.category = 1)
    (k : fqG X T Z ad n nL cells slots σ (pc + 1) lv (v :: u :: v :: u :: rest)) : fqG X T Z ad n nL cells slots σ pc lv (v :: u :: rest) := by
  obtain ⟨p, l, e, R, s, m, args, below, meth, c, Q, D, A⟩ := X
  obtain ⟨⟨hx, hb, hml, hown, hts⟩, hK, hA, hR⟩ := E
  exact fun H locs ls hw hl => lv_dup2_11 hx hb hdg hv hu (k H locs ls hw hl)
theorem g_dup2_2 {X : fqX} {rm : Room} {cy : Nat → ClassId} {cc : ByteArray} {nL : Nat} {Ts : List Cond} {own : String} {T : fqT} {Z : Nat → Nat} {ad : Nat → Nat} {n cells slots : Nat} {σ : fqS} {pc : Nat} {lv : List (Nat × Value)} {rest : List Value} (E : fqE X rm cy cc nL Ts own) {v : Value} (hdg : decode cc pc = .ok (.dup2, 1)) (hv : v.category = 2)
    (k : fqG X T Z ad n nL cells slots σ (pc + 1) lv (v :: v :: rest)) : fqG X T Z ad n nL cells slots σ pc lv (v :: rest) := by
  obtain ⟨p, l, e, R, s, m, args, below, meth, c, Q, D, A⟩ := X
  obtain ⟨⟨hx, hb, hml, hown, hts⟩, hK, hA, hR⟩ := E
  exact fun H locs ls hw hl => lv_dup2_2 hx hb hdg hv (k H locs ls hw hl)
theorem g_pop {X : fqX} {rm : Room} {cy : Nat → ClassId} {cc : ByteArray} {nL : Nat} {Ts : List Cond} {own : String} {T : fqT} {Z : Nat → Nat} {ad : Nat → Nat} {n cells slots : Nat} {σ : fqS} {pc : Nat} {lv : List (Nat × Value)} {rest : List Value} (E : fqE X rm cy cc nL Ts own) {v : Value} (hdg : decode cc pc = .ok (.pop, 1)) (hv : v.category = 1)
    (k : fqG X T Z ad n nL cells slots σ (pc + 1) lv (rest)) : fqG X T Z ad n nL cells slots σ pc lv (v :: rest) := by
  obtain ⟨p, l, e, R, s, m, args, below, meth, c, Q, D, A⟩ := X
  obtain ⟨⟨hx, hb, hml, hown, hts⟩, hK, hA, hR⟩ := E
  exact fun H locs ls hw hl => lv_pop hx hb hdg hv (k H locs ls hw hl)
theorem g_iconst {X : fqX} {rm : Room} {cy : Nat → ClassId} {cc : ByteArray} {nL : Nat} {Ts : List Cond} {own : String} {T : fqT} {Z : Nat → Nat} {ad : Nat → Nat} {n cells slots : Nat} {σ : fqS} {pc : Nat} {lv : List (Nat × Value)} {rest : List Value} (E : fqE X rm cy cc nL Ts own) {i : Int} (v : Int32) (hdg : decode cc pc = .ok (.iconst i, 1)) (hv : Int32.ofInt i = v)
    (k : fqG X T Z ad n nL cells slots σ (pc + 1) lv (.int v :: rest)) : fqG X T Z ad n nL cells slots σ pc lv (rest) := by
  obtain ⟨p, l, e, R, s, m, args, below, meth, c, Q, D, A⟩ := X
  obtain ⟨⟨hx, hb, hml, hown, hts⟩, hK, hA, hR⟩ := E
  exact fun H locs ls hw hl => lv_iconst hx hb hdg hv (k H locs ls hw hl)
theorem g_bipush {X : fqX} {rm : Room} {cy : Nat → ClassId} {cc : ByteArray} {nL : Nat} {Ts : List Cond} {own : String} {T : fqT} {Z : Nat → Nat} {ad : Nat → Nat} {n cells slots : Nat} {σ : fqS} {pc : Nat} {lv : List (Nat × Value)} {rest : List Value} (E : fqE X rm cy cc nL Ts own) {i : Int} (v : Int32) (hdg : decode cc pc = .ok (.bipush i, 2)) (hv : (Int8.ofInt i).toInt32 = v)
    (k : fqG X T Z ad n nL cells slots σ (pc + 2) lv (.int v :: rest)) : fqG X T Z ad n nL cells slots σ pc lv (rest) := by
  obtain ⟨p, l, e, R, s, m, args, below, meth, c, Q, D, A⟩ := X
  obtain ⟨⟨hx, hb, hml, hown, hts⟩, hK, hA, hR⟩ := E
  exact fun H locs ls hw hl => lv_bipush hx hb hdg hv (k H locs ls hw hl)
theorem g_sipush {X : fqX} {rm : Room} {cy : Nat → ClassId} {cc : ByteArray} {nL : Nat} {Ts : List Cond} {own : String} {T : fqT} {Z : Nat → Nat} {ad : Nat → Nat} {n cells slots : Nat} {σ : fqS} {pc : Nat} {lv : List (Nat × Value)} {rest : List Value} (E : fqE X rm cy cc nL Ts own) {i : Int} (v : Int32) (hdg : decode cc pc = .ok (.sipush i, 3)) (hv : (Int16.ofInt i).toInt32 = v)
    (k : fqG X T Z ad n nL cells slots σ (pc + 3) lv (.int v :: rest)) : fqG X T Z ad n nL cells slots σ pc lv (rest) := by
  obtain ⟨p, l, e, R, s, m, args, below, meth, c, Q, D, A⟩ := X
  obtain ⟨⟨hx, hb, hml, hown, hts⟩, hK, hA, hR⟩ := E
  exact fun H locs ls hw hl => lv_sipush hx hb hdg hv (k H locs ls hw hl)
theorem g_lconst {X : fqX} {rm : Room} {cy : Nat → ClassId} {cc : ByteArray} {nL : Nat} {Ts : List Cond} {own : String} {T : fqT} {Z : Nat → Nat} {ad : Nat → Nat} {n cells slots : Nat} {σ : fqS} {pc : Nat} {lv : List (Nat × Value)} {rest : List Value} (E : fqE X rm cy cc nL Ts own) {i : Fin 2} (v : Int64) (hdg : decode cc pc = .ok (.lconst i, 1)) (hv : Int64.ofNat (i : Nat) = v)
    (k : fqG X T Z ad n nL cells slots σ (pc + 1) lv (.long v :: rest)) : fqG X T Z ad n nL cells slots σ pc lv (rest) := by
  obtain ⟨p, l, e, R, s, m, args, below, meth, c, Q, D, A⟩ := X
  obtain ⟨⟨hx, hb, hml, hown, hts⟩, hK, hA, hR⟩ := E
  exact fun H locs ls hw hl => lv_lconst hx hb hdg hv (k H locs ls hw hl)
theorem g_null {X : fqX} {rm : Room} {cy : Nat → ClassId} {cc : ByteArray} {nL : Nat} {Ts : List Cond} {own : String} {T : fqT} {Z : Nat → Nat} {ad : Nat → Nat} {n cells slots : Nat} {σ : fqS} {pc : Nat} {lv : List (Nat × Value)} {rest : List Value} (E : fqE X rm cy cc nL Ts own)  (hdg : decode cc pc = .ok (.aconst_null, 1)) 
    (k : fqG X T Z ad n nL cells slots σ (pc + 1) lv (.null :: rest)) : fqG X T Z ad n nL cells slots σ pc lv (rest) := by
  obtain ⟨p, l, e, R, s, m, args, below, meth, c, Q, D, A⟩ := X
  obtain ⟨⟨hx, hb, hml, hown, hts⟩, hK, hA, hR⟩ := E
  exact fun H locs ls hw hl => lv_null hx hb hdg  (k H locs ls hw hl)
theorem g_ldc {X : fqX} {rm : Room} {cy : Nat → ClassId} {cc : ByteArray} {nL : Nat} {Ts : List Cond} {own : String} {T : fqT} {Z : Nat → Nat} {ad : Nat → Nat} {n cells slots : Nat} {σ : fqS} {pc : Nat} {lv : List (Nat × Value)} {rest : List Value} (E : fqE X rm cy cc nL Ts own) {i : Nat} {v : Int32} (hdg : decode cc pc = .ok (.ldc i, 2)) (hc : Cond.constant own i v ∈ Ts)
    (k : fqG X T Z ad n nL cells slots σ (pc + 2) lv (.int v :: rest)) : fqG X T Z ad n nL cells slots σ pc lv (rest) := by
  obtain ⟨p, l, e, R, s, m, args, below, meth, c, Q, D, A⟩ := X
  obtain ⟨⟨hx, hb, hml, hown, hts⟩, hK, hA, hR⟩ := E
  exact fun H locs ls hw hl => lv_ldc hx hb hown (hts _ hc) hdg (k H locs ls hw hl)
theorem g_ldc_w {X : fqX} {rm : Room} {cy : Nat → ClassId} {cc : ByteArray} {nL : Nat} {Ts : List Cond} {own : String} {T : fqT} {Z : Nat → Nat} {ad : Nat → Nat} {n cells slots : Nat} {σ : fqS} {pc : Nat} {lv : List (Nat × Value)} {rest : List Value} (E : fqE X rm cy cc nL Ts own) {i : Nat} {v : Int32} (hdg : decode cc pc = .ok (.ldc_w i, 3)) (hc : Cond.constant own i v ∈ Ts)
    (k : fqG X T Z ad n nL cells slots σ (pc + 3) lv (.int v :: rest)) : fqG X T Z ad n nL cells slots σ pc lv (rest) := by
  obtain ⟨p, l, e, R, s, m, args, below, meth, c, Q, D, A⟩ := X
  obtain ⟨⟨hx, hb, hml, hown, hts⟩, hK, hA, hR⟩ := E
  exact fun H locs ls hw hl => lv_ldcw hx hb hown (hts _ hc) hdg (k H locs ls hw hl)
theorem g_ldc2_w {X : fqX} {rm : Room} {cy : Nat → ClassId} {cc : ByteArray} {nL : Nat} {Ts : List Cond} {own : String} {T : fqT} {Z : Nat → Nat} {ad : Nat → Nat} {n cells slots : Nat} {σ : fqS} {pc : Nat} {lv : List (Nat × Value)} {rest : List Value} (E : fqE X rm cy cc nL Ts own) {i : Nat} {v : Int64} (hdg : decode cc pc = .ok (.ldc2_w i, 3)) (hc : Cond.constantLong own i v ∈ Ts)
    (k : fqG X T Z ad n nL cells slots σ (pc + 3) lv (.long v :: rest)) : fqG X T Z ad n nL cells slots σ pc lv (rest) := by
  obtain ⟨p, l, e, R, s, m, args, below, meth, c, Q, D, A⟩ := X
  obtain ⟨⟨hx, hb, hml, hown, hts⟩, hK, hA, hR⟩ := E
  exact fun H locs ls hw hl => lv_ldc2 hx hb hown (hts _ hc) hdg (k H locs ls hw hl)
theorem g_iload_n {X : fqX} {rm : Room} {cy : Nat → ClassId} {cc : ByteArray} {nL : Nat} {Ts : List Cond} {own : String} {T : fqT} {Z : Nat → Nat} {ad : Nat → Nat} {n cells slots : Nat} {σ : fqS} {pc : Nat} {lv : List (Nat × Value)} {rest : List Value} (E : fqE X rm cy cc nL Ts own) {j : Fin 4} {i : Nat} {x : Int32} (hdg : decode cc pc = .ok (.iload_n j, 1)) (q : Nat) (hq : lv[q]? = some (i, .int x)) (hi : (j : Nat) = i)
    (k : fqG X T Z ad n nL cells slots σ (pc + 1) lv (.int x :: rest)) : fqG X T Z ad n nL cells slots σ pc lv (rest) := by
  obtain ⟨p, l, e, R, s, m, args, below, meth, c, Q, D, A⟩ := X
  obtain ⟨⟨hx, hb, hml, hown, hts⟩, hK, hA, hR⟩ := E
  exact fun H locs ls hw hl => lv_iload_n hx hb hdg hi (lv_at hl q hq) (k H locs ls hw hl)
theorem g_iload {X : fqX} {rm : Room} {cy : Nat → ClassId} {cc : ByteArray} {nL : Nat} {Ts : List Cond} {own : String} {T : fqT} {Z : Nat → Nat} {ad : Nat → Nat} {n cells slots : Nat} {σ : fqS} {pc : Nat} {lv : List (Nat × Value)} {rest : List Value} (E : fqE X rm cy cc nL Ts own) {i : Nat} {x : Int32} (hdg : decode cc pc = .ok (.iload i, 2)) (q : Nat) (hq : lv[q]? = some (i, .int x))
    (k : fqG X T Z ad n nL cells slots σ (pc + 2) lv (.int x :: rest)) : fqG X T Z ad n nL cells slots σ pc lv (rest) := by
  obtain ⟨p, l, e, R, s, m, args, below, meth, c, Q, D, A⟩ := X
  obtain ⟨⟨hx, hb, hml, hown, hts⟩, hK, hA, hR⟩ := E
  exact fun H locs ls hw hl => lv_iload hx hb hdg (lv_at hl q hq) (k H locs ls hw hl)
theorem g_istore_n {X : fqX} {rm : Room} {cy : Nat → ClassId} {cc : ByteArray} {nL : Nat} {Ts : List Cond} {own : String} {T : fqT} {Z : Nat → Nat} {ad : Nat → Nat} {n cells slots : Nat} {σ : fqS} {pc : Nat} {lv : List (Nat × Value)} {rest : List Value} (E : fqE X rm cy cc nL Ts own) {j : Fin 4} {i : Nat} {x : Int32} (lv' : List (Nat × Value)) (hdg : decode cc pc = .ok (.istore_n j, 1)) (hi : (j : Nat) = i) (hn : i < nL) (hv : (i, Value.int x) :: lv.filter (fun q => !(q.1 == i) && !(q.1 + 1 == i && q.2.category == 2)) = lv')
    (k : fqG X T Z ad n nL cells slots σ (pc + 1) lv' (rest)) : fqG X T Z ad n nL cells slots σ pc lv (.int x :: rest) := by
  obtain ⟨p, l, e, R, s, m, args, below, meth, c, Q, D, A⟩ := X
  obtain ⟨⟨hx, hb, hml, hown, hts⟩, hK, hA, hR⟩ := E
  exact fun H locs ls hw hl => lv_istore_n hx hb hdg hi hl hn hv (fun ls hl => k H locs ls hw hl)
theorem g_istore {X : fqX} {rm : Room} {cy : Nat → ClassId} {cc : ByteArray} {nL : Nat} {Ts : List Cond} {own : String} {T : fqT} {Z : Nat → Nat} {ad : Nat → Nat} {n cells slots : Nat} {σ : fqS} {pc : Nat} {lv : List (Nat × Value)} {rest : List Value} (E : fqE X rm cy cc nL Ts own) {i : Nat} {x : Int32} (lv' : List (Nat × Value)) (hdg : decode cc pc = .ok (.istore i, 2)) (hn : i < nL) (hv : (i, Value.int x) :: lv.filter (fun q => !(q.1 == i) && !(q.1 + 1 == i && q.2.category == 2)) = lv')
    (k : fqG X T Z ad n nL cells slots σ (pc + 2) lv' (rest)) : fqG X T Z ad n nL cells slots σ pc lv (.int x :: rest) := by
  obtain ⟨p, l, e, R, s, m, args, below, meth, c, Q, D, A⟩ := X
  obtain ⟨⟨hx, hb, hml, hown, hts⟩, hK, hA, hR⟩ := E
  exact fun H locs ls hw hl => lv_istore hx hb hdg hl hn hv (fun ls hl => k H locs ls hw hl)
theorem g_lload_n {X : fqX} {rm : Room} {cy : Nat → ClassId} {cc : ByteArray} {nL : Nat} {Ts : List Cond} {own : String} {T : fqT} {Z : Nat → Nat} {ad : Nat → Nat} {n cells slots : Nat} {σ : fqS} {pc : Nat} {lv : List (Nat × Value)} {rest : List Value} (E : fqE X rm cy cc nL Ts own) {j : Fin 4} {i : Nat} {x : Int64} (hdg : decode cc pc = .ok (.lload_n j, 1)) (q : Nat) (hq : lv[q]? = some (i, .long x)) (hi : (j : Nat) = i)
    (k : fqG X T Z ad n nL cells slots σ (pc + 1) lv (.long x :: rest)) : fqG X T Z ad n nL cells slots σ pc lv (rest) := by
  obtain ⟨p, l, e, R, s, m, args, below, meth, c, Q, D, A⟩ := X
  obtain ⟨⟨hx, hb, hml, hown, hts⟩, hK, hA, hR⟩ := E
  exact fun H locs ls hw hl => lv_lload_n hx hb hdg hi (lv_at hl q hq) (k H locs ls hw hl)
theorem g_lload {X : fqX} {rm : Room} {cy : Nat → ClassId} {cc : ByteArray} {nL : Nat} {Ts : List Cond} {own : String} {T : fqT} {Z : Nat → Nat} {ad : Nat → Nat} {n cells slots : Nat} {σ : fqS} {pc : Nat} {lv : List (Nat × Value)} {rest : List Value} (E : fqE X rm cy cc nL Ts own) {i : Nat} {x : Int64} (hdg : decode cc pc = .ok (.lload i, 2)) (q : Nat) (hq : lv[q]? = some (i, .long x))
    (k : fqG X T Z ad n nL cells slots σ (pc + 2) lv (.long x :: rest)) : fqG X T Z ad n nL cells slots σ pc lv (rest) := by
  obtain ⟨p, l, e, R, s, m, args, below, meth, c, Q, D, A⟩ := X
  obtain ⟨⟨hx, hb, hml, hown, hts⟩, hK, hA, hR⟩ := E
  exact fun H locs ls hw hl => lv_lload hx hb hdg (lv_at hl q hq) (k H locs ls hw hl)
theorem g_lstore_n {X : fqX} {rm : Room} {cy : Nat → ClassId} {cc : ByteArray} {nL : Nat} {Ts : List Cond} {own : String} {T : fqT} {Z : Nat → Nat} {ad : Nat → Nat} {n cells slots : Nat} {σ : fqS} {pc : Nat} {lv : List (Nat × Value)} {rest : List Value} (E : fqE X rm cy cc nL Ts own) {j : Fin 4} {i : Nat} {x : Int64} (lv' : List (Nat × Value)) (hdg : decode cc pc = .ok (.lstore_n j, 1)) (hi : (j : Nat) = i) (hn : i + 1 < nL) (hv : (i, Value.long x) :: lv.filter (fun q => !(q.1 == i) && (!(q.1 == i + 1) && !(q.1 + 1 == i && q.2.category == 2))) = lv')
    (k : fqG X T Z ad n nL cells slots σ (pc + 1) lv' (rest)) : fqG X T Z ad n nL cells slots σ pc lv (.long x :: rest) := by
  obtain ⟨p, l, e, R, s, m, args, below, meth, c, Q, D, A⟩ := X
  obtain ⟨⟨hx, hb, hml, hown, hts⟩, hK, hA, hR⟩ := E
  exact fun H locs ls hw hl => lv_lstore_n hx hb hdg hi hl hn hv (fun ls hl => k H locs ls hw hl)
theorem g_lstore {X : fqX} {rm : Room} {cy : Nat → ClassId} {cc : ByteArray} {nL : Nat} {Ts : List Cond} {own : String} {T : fqT} {Z : Nat → Nat} {ad : Nat → Nat} {n cells slots : Nat} {σ : fqS} {pc : Nat} {lv : List (Nat × Value)} {rest : List Value} (E : fqE X rm cy cc nL Ts own) {i : Nat} {x : Int64} (lv' : List (Nat × Value)) (hdg : decode cc pc = .ok (.lstore i, 2)) (hn : i + 1 < nL) (hv : (i, Value.long x) :: lv.filter (fun q => !(q.1 == i) && (!(q.1 == i + 1) && !(q.1 + 1 == i && q.2.category == 2))) = lv')
    (k : fqG X T Z ad n nL cells slots σ (pc + 2) lv' (rest)) : fqG X T Z ad n nL cells slots σ pc lv (.long x :: rest) := by
  obtain ⟨p, l, e, R, s, m, args, below, meth, c, Q, D, A⟩ := X
  obtain ⟨⟨hx, hb, hml, hown, hts⟩, hK, hA, hR⟩ := E
  exact fun H locs ls hw hl => lv_lstore hx hb hdg hl hn hv (fun ls hl => k H locs ls hw hl)
theorem g_aload_n {X : fqX} {rm : Room} {cy : Nat → ClassId} {cc : ByteArray} {nL : Nat} {Ts : List Cond} {own : String} {T : fqT} {Z : Nat → Nat} {ad : Nat → Nat} {n cells slots : Nat} {σ : fqS} {pc : Nat} {lv : List (Nat × Value)} {rest : List Value} (E : fqE X rm cy cc nL Ts own) {j : Fin 4} {i : Nat} {x : Nat} (hdg : decode cc pc = .ok (.aload_n j, 1)) (q : Nat) (hq : lv[q]? = some (i, .ref x)) (hi : (j : Nat) = i)
    (k : fqG X T Z ad n nL cells slots σ (pc + 1) lv (.ref x :: rest)) : fqG X T Z ad n nL cells slots σ pc lv (rest) := by
  obtain ⟨p, l, e, R, s, m, args, below, meth, c, Q, D, A⟩ := X
  obtain ⟨⟨hx, hb, hml, hown, hts⟩, hK, hA, hR⟩ := E
  exact fun H locs ls hw hl => lv_aload_n hx hb hdg hi (lv_at hl q hq) (k H locs ls hw hl)
theorem g_aload {X : fqX} {rm : Room} {cy : Nat → ClassId} {cc : ByteArray} {nL : Nat} {Ts : List Cond} {own : String} {T : fqT} {Z : Nat → Nat} {ad : Nat → Nat} {n cells slots : Nat} {σ : fqS} {pc : Nat} {lv : List (Nat × Value)} {rest : List Value} (E : fqE X rm cy cc nL Ts own) {i : Nat} {x : Nat} (hdg : decode cc pc = .ok (.aload i, 2)) (q : Nat) (hq : lv[q]? = some (i, .ref x))
    (k : fqG X T Z ad n nL cells slots σ (pc + 2) lv (.ref x :: rest)) : fqG X T Z ad n nL cells slots σ pc lv (rest) := by
  obtain ⟨p, l, e, R, s, m, args, below, meth, c, Q, D, A⟩ := X
  obtain ⟨⟨hx, hb, hml, hown, hts⟩, hK, hA, hR⟩ := E
  exact fun H locs ls hw hl => lv_aload hx hb hdg (lv_at hl q hq) (k H locs ls hw hl)
theorem g_astore_n {X : fqX} {rm : Room} {cy : Nat → ClassId} {cc : ByteArray} {nL : Nat} {Ts : List Cond} {own : String} {T : fqT} {Z : Nat → Nat} {ad : Nat → Nat} {n cells slots : Nat} {σ : fqS} {pc : Nat} {lv : List (Nat × Value)} {rest : List Value} (E : fqE X rm cy cc nL Ts own) {j : Fin 4} {i : Nat} {x : Nat} (lv' : List (Nat × Value)) (hdg : decode cc pc = .ok (.astore_n j, 1)) (hi : (j : Nat) = i) (hn : i < nL) (hv : (i, Value.ref x) :: lv.filter (fun q => !(q.1 == i) && !(q.1 + 1 == i && q.2.category == 2)) = lv')
    (k : fqG X T Z ad n nL cells slots σ (pc + 1) lv' (rest)) : fqG X T Z ad n nL cells slots σ pc lv (.ref x :: rest) := by
  obtain ⟨p, l, e, R, s, m, args, below, meth, c, Q, D, A⟩ := X
  obtain ⟨⟨hx, hb, hml, hown, hts⟩, hK, hA, hR⟩ := E
  exact fun H locs ls hw hl => lv_astore_n hx hb hdg hi hl hn hv (fun ls hl => k H locs ls hw hl)
theorem g_astore {X : fqX} {rm : Room} {cy : Nat → ClassId} {cc : ByteArray} {nL : Nat} {Ts : List Cond} {own : String} {T : fqT} {Z : Nat → Nat} {ad : Nat → Nat} {n cells slots : Nat} {σ : fqS} {pc : Nat} {lv : List (Nat × Value)} {rest : List Value} (E : fqE X rm cy cc nL Ts own) {i : Nat} {x : Nat} (lv' : List (Nat × Value)) (hdg : decode cc pc = .ok (.astore i, 2)) (hn : i < nL) (hv : (i, Value.ref x) :: lv.filter (fun q => !(q.1 == i) && !(q.1 + 1 == i && q.2.category == 2)) = lv')
    (k : fqG X T Z ad n nL cells slots σ (pc + 2) lv' (rest)) : fqG X T Z ad n nL cells slots σ pc lv (.ref x :: rest) := by
  obtain ⟨p, l, e, R, s, m, args, below, meth, c, Q, D, A⟩ := X
  obtain ⟨⟨hx, hb, hml, hown, hts⟩, hK, hA, hR⟩ := E
  exact fun H locs ls hw hl => lv_astore hx hb hdg hl hn hv (fun ls hl => k H locs ls hw hl)
theorem g_aload_nN {X : fqX} {rm : Room} {cy : Nat → ClassId} {cc : ByteArray} {nL : Nat} {Ts : List Cond} {own : String} {T : fqT} {Z : Nat → Nat} {ad : Nat → Nat} {n cells slots : Nat} {σ : fqS} {pc : Nat} {lv : List (Nat × Value)} {rest : List Value} (E : fqE X rm cy cc nL Ts own) {j : Fin 4} {i : Nat} (hdg : decode cc pc = .ok (.aload_n j, 1)) (q : Nat) (hq : lv[q]? = some (i, .null)) (hi : (j : Nat) = i)
    (k : fqG X T Z ad n nL cells slots σ (pc + 1) lv (.null :: rest)) : fqG X T Z ad n nL cells slots σ pc lv (rest) := by
  obtain ⟨p, l, e, R, s, m, args, below, meth, c, Q, D, A⟩ := X
  obtain ⟨⟨hx, hb, hml, hown, hts⟩, hK, hA, hR⟩ := E
  exact fun H locs ls hw hl => lv_aload_nN hx hb hdg hi (lv_at hl q hq) (k H locs ls hw hl)
theorem g_aloadN {X : fqX} {rm : Room} {cy : Nat → ClassId} {cc : ByteArray} {nL : Nat} {Ts : List Cond} {own : String} {T : fqT} {Z : Nat → Nat} {ad : Nat → Nat} {n cells slots : Nat} {σ : fqS} {pc : Nat} {lv : List (Nat × Value)} {rest : List Value} (E : fqE X rm cy cc nL Ts own) {i : Nat} (hdg : decode cc pc = .ok (.aload i, 2)) (q : Nat) (hq : lv[q]? = some (i, .null))
    (k : fqG X T Z ad n nL cells slots σ (pc + 2) lv (.null :: rest)) : fqG X T Z ad n nL cells slots σ pc lv (rest) := by
  obtain ⟨p, l, e, R, s, m, args, below, meth, c, Q, D, A⟩ := X
  obtain ⟨⟨hx, hb, hml, hown, hts⟩, hK, hA, hR⟩ := E
  exact fun H locs ls hw hl => lv_aloadN hx hb hdg (lv_at hl q hq) (k H locs ls hw hl)
theorem g_astore_nN {X : fqX} {rm : Room} {cy : Nat → ClassId} {cc : ByteArray} {nL : Nat} {Ts : List Cond} {own : String} {T : fqT} {Z : Nat → Nat} {ad : Nat → Nat} {n cells slots : Nat} {σ : fqS} {pc : Nat} {lv : List (Nat × Value)} {rest : List Value} (E : fqE X rm cy cc nL Ts own) {j : Fin 4} {i : Nat} (lv' : List (Nat × Value)) (hdg : decode cc pc = .ok (.astore_n j, 1)) (hi : (j : Nat) = i) (hn : i < nL) (hv : (i, Value.null) :: lv.filter (fun q => !(q.1 == i) && !(q.1 + 1 == i && q.2.category == 2)) = lv')
    (k : fqG X T Z ad n nL cells slots σ (pc + 1) lv' (rest)) : fqG X T Z ad n nL cells slots σ pc lv (.null :: rest) := by
  obtain ⟨p, l, e, R, s, m, args, below, meth, c, Q, D, A⟩ := X
  obtain ⟨⟨hx, hb, hml, hown, hts⟩, hK, hA, hR⟩ := E
  exact fun H locs ls hw hl => lv_astore_nN hx hb hdg hi hl hn hv (fun ls hl => k H locs ls hw hl)
theorem g_astoreN {X : fqX} {rm : Room} {cy : Nat → ClassId} {cc : ByteArray} {nL : Nat} {Ts : List Cond} {own : String} {T : fqT} {Z : Nat → Nat} {ad : Nat → Nat} {n cells slots : Nat} {σ : fqS} {pc : Nat} {lv : List (Nat × Value)} {rest : List Value} (E : fqE X rm cy cc nL Ts own) {i : Nat} (lv' : List (Nat × Value)) (hdg : decode cc pc = .ok (.astore i, 2)) (hn : i < nL) (hv : (i, Value.null) :: lv.filter (fun q => !(q.1 == i) && !(q.1 + 1 == i && q.2.category == 2)) = lv')
    (k : fqG X T Z ad n nL cells slots σ (pc + 2) lv' (rest)) : fqG X T Z ad n nL cells slots σ pc lv (.null :: rest) := by
  obtain ⟨p, l, e, R, s, m, args, below, meth, c, Q, D, A⟩ := X
  obtain ⟨⟨hx, hb, hml, hown, hts⟩, hK, hA, hR⟩ := E
  exact fun H locs ls hw hl => lv_astoreN hx hb hdg hl hn hv (fun ls hl => k H locs ls hw hl)
theorem g_iinc {X : fqX} {rm : Room} {cy : Nat → ClassId} {cc : ByteArray} {nL : Nat} {Ts : List Cond} {own : String} {T : fqT} {Z : Nat → Nat} {ad : Nat → Nat} {n cells slots : Nat} {σ : fqS} {pc : Nat} {lv : List (Nat × Value)} {rest : List Value} (E : fqE X rm cy cc nL Ts own) {i : Nat} {d : Int} {x : Int32} (v : Int32) (lv' : List (Nat × Value)) (hdg : decode cc pc = .ok (.iinc i d, 3)) (q : Nat) (hq : lv[q]? = some (i, .int x)) (hv : x + Int32.ofInt d = v) (hn : i < nL) (hl' : (i, Value.int v) :: lv.filter (fun q => !(q.1 == i) && !(q.1 + 1 == i && q.2.category == 2)) = lv')
    (k : fqG X T Z ad n nL cells slots σ (pc + 3) lv' (rest)) : fqG X T Z ad n nL cells slots σ pc lv (rest) := by
  obtain ⟨p, l, e, R, s, m, args, below, meth, c, Q, D, A⟩ := X
  obtain ⟨⟨hx, hb, hml, hown, hts⟩, hK, hA, hR⟩ := E
  exact fun H locs ls hw hl => lv_iinc hx hb hdg hl hq hv hn hl' (fun ls hl => k H locs ls hw hl)
theorem g_if_eq {X : fqX} {rm : Room} {cy : Nat → ClassId} {cc : ByteArray} {nL : Nat} {Ts : List Cond} {own : String} {T : fqT} {Z : Nat → Nat} {ad : Nat → Nat} {n cells slots : Nat} {σ : fqS} {pc : Nat} {lv : List (Nat × Value)} {rest : List Value} (E : fqE X rm cy cc nL Ts own) {x : Int32} {off : Int} (tgt : Nat) (hdg : decode cc pc = .ok (.ifCond .eq off, 3)) (ht : (pc : Int) + off = (tgt : Int))
    (kt : x = 0 → fqG X T Z ad n nL cells slots σ tgt lv (rest)) (kf : ¬ (x = 0) → fqG X T Z ad n nL cells slots σ (pc + 3) lv (rest)) : fqG X T Z ad n nL cells slots σ pc lv (.int x :: rest) := by
  obtain ⟨p, l, e, R, s, m, args, below, meth, c, Q, D, A⟩ := X
  obtain ⟨⟨hx, hb, hml, hown, hts⟩, hK, hA, hR⟩ := E
  exact fun H locs ls hw hl => lv_if_eq hx hb hdg ht (fun h => kt h H locs ls hw hl) (fun h => kf h H locs ls hw hl)
theorem g_icmp_eq {X : fqX} {rm : Room} {cy : Nat → ClassId} {cc : ByteArray} {nL : Nat} {Ts : List Cond} {own : String} {T : fqT} {Z : Nat → Nat} {ad : Nat → Nat} {n cells slots : Nat} {σ : fqS} {pc : Nat} {lv : List (Nat × Value)} {rest : List Value} (E : fqE X rm cy cc nL Ts own) {x y : Int32} {off : Int} (tgt : Nat) (hdg : decode cc pc = .ok (.if_icmp .eq off, 3)) (ht : (pc : Int) + off = (tgt : Int))
    (kt : x = y → fqG X T Z ad n nL cells slots σ tgt lv (rest)) (kf : ¬ (x = y) → fqG X T Z ad n nL cells slots σ (pc + 3) lv (rest)) : fqG X T Z ad n nL cells slots σ pc lv (.int y :: .int x :: rest) := by
  obtain ⟨p, l, e, R, s, m, args, below, meth, c, Q, D, A⟩ := X
  obtain ⟨⟨hx, hb, hml, hown, hts⟩, hK, hA, hR⟩ := E
  exact fun H locs ls hw hl => lv_icmp_eq hx hb hdg ht (fun h => kt h H locs ls hw hl) (fun h => kf h H locs ls hw hl)
theorem g_if_ne {X : fqX} {rm : Room} {cy : Nat → ClassId} {cc : ByteArray} {nL : Nat} {Ts : List Cond} {own : String} {T : fqT} {Z : Nat → Nat} {ad : Nat → Nat} {n cells slots : Nat} {σ : fqS} {pc : Nat} {lv : List (Nat × Value)} {rest : List Value} (E : fqE X rm cy cc nL Ts own) {x : Int32} {off : Int} (tgt : Nat) (hdg : decode cc pc = .ok (.ifCond .ne off, 3)) (ht : (pc : Int) + off = (tgt : Int))
    (kt : ¬ x = 0 → fqG X T Z ad n nL cells slots σ tgt lv (rest)) (kf : x = 0 → fqG X T Z ad n nL cells slots σ (pc + 3) lv (rest)) : fqG X T Z ad n nL cells slots σ pc lv (.int x :: rest) := by
  obtain ⟨p, l, e, R, s, m, args, below, meth, c, Q, D, A⟩ := X
  obtain ⟨⟨hx, hb, hml, hown, hts⟩, hK, hA, hR⟩ := E
  exact fun H locs ls hw hl => lv_if_ne hx hb hdg ht (fun h => kt h H locs ls hw hl) (fun h => kf h H locs ls hw hl)
theorem g_icmp_ne {X : fqX} {rm : Room} {cy : Nat → ClassId} {cc : ByteArray} {nL : Nat} {Ts : List Cond} {own : String} {T : fqT} {Z : Nat → Nat} {ad : Nat → Nat} {n cells slots : Nat} {σ : fqS} {pc : Nat} {lv : List (Nat × Value)} {rest : List Value} (E : fqE X rm cy cc nL Ts own) {x y : Int32} {off : Int} (tgt : Nat) (hdg : decode cc pc = .ok (.if_icmp .ne off, 3)) (ht : (pc : Int) + off = (tgt : Int))
    (kt : ¬ x = y → fqG X T Z ad n nL cells slots σ tgt lv (rest)) (kf : x = y → fqG X T Z ad n nL cells slots σ (pc + 3) lv (rest)) : fqG X T Z ad n nL cells slots σ pc lv (.int y :: .int x :: rest) := by
  obtain ⟨p, l, e, R, s, m, args, below, meth, c, Q, D, A⟩ := X
  obtain ⟨⟨hx, hb, hml, hown, hts⟩, hK, hA, hR⟩ := E
  exact fun H locs ls hw hl => lv_icmp_ne hx hb hdg ht (fun h => kt h H locs ls hw hl) (fun h => kf h H locs ls hw hl)
theorem g_if_lt {X : fqX} {rm : Room} {cy : Nat → ClassId} {cc : ByteArray} {nL : Nat} {Ts : List Cond} {own : String} {T : fqT} {Z : Nat → Nat} {ad : Nat → Nat} {n cells slots : Nat} {σ : fqS} {pc : Nat} {lv : List (Nat × Value)} {rest : List Value} (E : fqE X rm cy cc nL Ts own) {x : Int32} {off : Int} (tgt : Nat) (hdg : decode cc pc = .ok (.ifCond .lt off, 3)) (ht : (pc : Int) + off = (tgt : Int))
    (kt : x < 0 → fqG X T Z ad n nL cells slots σ tgt lv (rest)) (kf : ¬ (x < 0) → fqG X T Z ad n nL cells slots σ (pc + 3) lv (rest)) : fqG X T Z ad n nL cells slots σ pc lv (.int x :: rest) := by
  obtain ⟨p, l, e, R, s, m, args, below, meth, c, Q, D, A⟩ := X
  obtain ⟨⟨hx, hb, hml, hown, hts⟩, hK, hA, hR⟩ := E
  exact fun H locs ls hw hl => lv_if_lt hx hb hdg ht (fun h => kt h H locs ls hw hl) (fun h => kf h H locs ls hw hl)
theorem g_icmp_lt {X : fqX} {rm : Room} {cy : Nat → ClassId} {cc : ByteArray} {nL : Nat} {Ts : List Cond} {own : String} {T : fqT} {Z : Nat → Nat} {ad : Nat → Nat} {n cells slots : Nat} {σ : fqS} {pc : Nat} {lv : List (Nat × Value)} {rest : List Value} (E : fqE X rm cy cc nL Ts own) {x y : Int32} {off : Int} (tgt : Nat) (hdg : decode cc pc = .ok (.if_icmp .lt off, 3)) (ht : (pc : Int) + off = (tgt : Int))
    (kt : x < y → fqG X T Z ad n nL cells slots σ tgt lv (rest)) (kf : ¬ (x < y) → fqG X T Z ad n nL cells slots σ (pc + 3) lv (rest)) : fqG X T Z ad n nL cells slots σ pc lv (.int y :: .int x :: rest) := by
  obtain ⟨p, l, e, R, s, m, args, below, meth, c, Q, D, A⟩ := X
  obtain ⟨⟨hx, hb, hml, hown, hts⟩, hK, hA, hR⟩ := E
  exact fun H locs ls hw hl => lv_icmp_lt hx hb hdg ht (fun h => kt h H locs ls hw hl) (fun h => kf h H locs ls hw hl)
theorem g_if_ge {X : fqX} {rm : Room} {cy : Nat → ClassId} {cc : ByteArray} {nL : Nat} {Ts : List Cond} {own : String} {T : fqT} {Z : Nat → Nat} {ad : Nat → Nat} {n cells slots : Nat} {σ : fqS} {pc : Nat} {lv : List (Nat × Value)} {rest : List Value} (E : fqE X rm cy cc nL Ts own) {x : Int32} {off : Int} (tgt : Nat) (hdg : decode cc pc = .ok (.ifCond .ge off, 3)) (ht : (pc : Int) + off = (tgt : Int))
    (kt : 0 ≤ x → fqG X T Z ad n nL cells slots σ tgt lv (rest)) (kf : ¬ (0 ≤ x) → fqG X T Z ad n nL cells slots σ (pc + 3) lv (rest)) : fqG X T Z ad n nL cells slots σ pc lv (.int x :: rest) := by
  obtain ⟨p, l, e, R, s, m, args, below, meth, c, Q, D, A⟩ := X
  obtain ⟨⟨hx, hb, hml, hown, hts⟩, hK, hA, hR⟩ := E
  exact fun H locs ls hw hl => lv_if_ge hx hb hdg ht (fun h => kt h H locs ls hw hl) (fun h => kf h H locs ls hw hl)
theorem g_icmp_ge {X : fqX} {rm : Room} {cy : Nat → ClassId} {cc : ByteArray} {nL : Nat} {Ts : List Cond} {own : String} {T : fqT} {Z : Nat → Nat} {ad : Nat → Nat} {n cells slots : Nat} {σ : fqS} {pc : Nat} {lv : List (Nat × Value)} {rest : List Value} (E : fqE X rm cy cc nL Ts own) {x y : Int32} {off : Int} (tgt : Nat) (hdg : decode cc pc = .ok (.if_icmp .ge off, 3)) (ht : (pc : Int) + off = (tgt : Int))
    (kt : y ≤ x → fqG X T Z ad n nL cells slots σ tgt lv (rest)) (kf : ¬ (y ≤ x) → fqG X T Z ad n nL cells slots σ (pc + 3) lv (rest)) : fqG X T Z ad n nL cells slots σ pc lv (.int y :: .int x :: rest) := by
  obtain ⟨p, l, e, R, s, m, args, below, meth, c, Q, D, A⟩ := X
  obtain ⟨⟨hx, hb, hml, hown, hts⟩, hK, hA, hR⟩ := E
  exact fun H locs ls hw hl => lv_icmp_ge hx hb hdg ht (fun h => kt h H locs ls hw hl) (fun h => kf h H locs ls hw hl)
theorem g_if_gt {X : fqX} {rm : Room} {cy : Nat → ClassId} {cc : ByteArray} {nL : Nat} {Ts : List Cond} {own : String} {T : fqT} {Z : Nat → Nat} {ad : Nat → Nat} {n cells slots : Nat} {σ : fqS} {pc : Nat} {lv : List (Nat × Value)} {rest : List Value} (E : fqE X rm cy cc nL Ts own) {x : Int32} {off : Int} (tgt : Nat) (hdg : decode cc pc = .ok (.ifCond .gt off, 3)) (ht : (pc : Int) + off = (tgt : Int))
    (kt : 0 < x → fqG X T Z ad n nL cells slots σ tgt lv (rest)) (kf : ¬ (0 < x) → fqG X T Z ad n nL cells slots σ (pc + 3) lv (rest)) : fqG X T Z ad n nL cells slots σ pc lv (.int x :: rest) := by
  obtain ⟨p, l, e, R, s, m, args, below, meth, c, Q, D, A⟩ := X
  obtain ⟨⟨hx, hb, hml, hown, hts⟩, hK, hA, hR⟩ := E
  exact fun H locs ls hw hl => lv_if_gt hx hb hdg ht (fun h => kt h H locs ls hw hl) (fun h => kf h H locs ls hw hl)
theorem g_icmp_gt {X : fqX} {rm : Room} {cy : Nat → ClassId} {cc : ByteArray} {nL : Nat} {Ts : List Cond} {own : String} {T : fqT} {Z : Nat → Nat} {ad : Nat → Nat} {n cells slots : Nat} {σ : fqS} {pc : Nat} {lv : List (Nat × Value)} {rest : List Value} (E : fqE X rm cy cc nL Ts own) {x y : Int32} {off : Int} (tgt : Nat) (hdg : decode cc pc = .ok (.if_icmp .gt off, 3)) (ht : (pc : Int) + off = (tgt : Int))
    (kt : y < x → fqG X T Z ad n nL cells slots σ tgt lv (rest)) (kf : ¬ (y < x) → fqG X T Z ad n nL cells slots σ (pc + 3) lv (rest)) : fqG X T Z ad n nL cells slots σ pc lv (.int y :: .int x :: rest) := by
  obtain ⟨p, l, e, R, s, m, args, below, meth, c, Q, D, A⟩ := X
  obtain ⟨⟨hx, hb, hml, hown, hts⟩, hK, hA, hR⟩ := E
  exact fun H locs ls hw hl => lv_icmp_gt hx hb hdg ht (fun h => kt h H locs ls hw hl) (fun h => kf h H locs ls hw hl)
theorem g_if_le {X : fqX} {rm : Room} {cy : Nat → ClassId} {cc : ByteArray} {nL : Nat} {Ts : List Cond} {own : String} {T : fqT} {Z : Nat → Nat} {ad : Nat → Nat} {n cells slots : Nat} {σ : fqS} {pc : Nat} {lv : List (Nat × Value)} {rest : List Value} (E : fqE X rm cy cc nL Ts own) {x : Int32} {off : Int} (tgt : Nat) (hdg : decode cc pc = .ok (.ifCond .le off, 3)) (ht : (pc : Int) + off = (tgt : Int))
    (kt : x ≤ 0 → fqG X T Z ad n nL cells slots σ tgt lv (rest)) (kf : ¬ (x ≤ 0) → fqG X T Z ad n nL cells slots σ (pc + 3) lv (rest)) : fqG X T Z ad n nL cells slots σ pc lv (.int x :: rest) := by
  obtain ⟨p, l, e, R, s, m, args, below, meth, c, Q, D, A⟩ := X
  obtain ⟨⟨hx, hb, hml, hown, hts⟩, hK, hA, hR⟩ := E
  exact fun H locs ls hw hl => lv_if_le hx hb hdg ht (fun h => kt h H locs ls hw hl) (fun h => kf h H locs ls hw hl)
theorem g_icmp_le {X : fqX} {rm : Room} {cy : Nat → ClassId} {cc : ByteArray} {nL : Nat} {Ts : List Cond} {own : String} {T : fqT} {Z : Nat → Nat} {ad : Nat → Nat} {n cells slots : Nat} {σ : fqS} {pc : Nat} {lv : List (Nat × Value)} {rest : List Value} (E : fqE X rm cy cc nL Ts own) {x y : Int32} {off : Int} (tgt : Nat) (hdg : decode cc pc = .ok (.if_icmp .le off, 3)) (ht : (pc : Int) + off = (tgt : Int))
    (kt : x ≤ y → fqG X T Z ad n nL cells slots σ tgt lv (rest)) (kf : ¬ (x ≤ y) → fqG X T Z ad n nL cells slots σ (pc + 3) lv (rest)) : fqG X T Z ad n nL cells slots σ pc lv (.int y :: .int x :: rest) := by
  obtain ⟨p, l, e, R, s, m, args, below, meth, c, Q, D, A⟩ := X
  obtain ⟨⟨hx, hb, hml, hown, hts⟩, hK, hA, hR⟩ := E
  exact fun H locs ls hw hl => lv_icmp_le hx hb hdg ht (fun h => kt h H locs ls hw hl) (fun h => kf h H locs ls hw hl)
theorem fq_cmp_lt (x y : Int64) : lg_cmp x y < 0 ↔ x < y := by
  unfold lg_cmp
  simp only [gt_iff_lt, Int64.lt_iff_toInt_lt, ← Int64.toInt_inj]
  split
  · constructor
    · intro h; exact absurd h (by decide)
    · intro h; omega
  · split
    · constructor
      · intro h; exact absurd h (by decide)
      · intro h; omega
    · constructor
      · intro _; omega
      · intro _; decide
theorem fq_cmp_gt (x y : Int64) : 0 < lg_cmp x y ↔ y < x := by
  unfold lg_cmp
  simp only [gt_iff_lt, Int64.lt_iff_toInt_lt, ← Int64.toInt_inj]
  split
  · constructor
    · intro _; assumption
    · intro _; decide
  · split
    · constructor
      · intro h; exact absurd h (by decide)
      · intro h; omega
    · constructor
      · intro h; exact absurd h (by decide)
      · intro h; omega
theorem fq_cmp_eq (x y : Int64) : lg_cmp x y = 0 ↔ x = y := by
  unfold lg_cmp
  simp only [gt_iff_lt, Int64.lt_iff_toInt_lt, ← Int64.toInt_inj]
  split
  · constructor
    · intro h; exact absurd h (by decide)
    · intro h; omega
  · split
    · constructor
      · intro _; assumption
      · intro _; rfl
    · constructor
      · intro h; exact absurd h (by decide)
      · intro h; omega
theorem fq_cmp_ge (x y : Int64) : 0 ≤ lg_cmp x y ↔ y ≤ x := by
  rw [← Int32.not_lt, fq_cmp_lt, Int64.not_lt]
theorem fq_cmp_le (x y : Int64) : lg_cmp x y ≤ 0 ↔ x ≤ y := by
  rw [← Int32.not_lt, fq_cmp_gt, Int64.not_lt]
theorem fq_cmp_ne (x y : Int64) : (¬ lg_cmp x y = 0) ↔ ¬ x = y := not_congr (fq_cmp_eq x y)
theorem g_lif_eq {X : fqX} {rm : Room} {cy : Nat → ClassId} {cc : ByteArray} {nL : Nat} {Ts : List Cond} {own : String} {T : fqT} {Z : Nat → Nat} {ad : Nat → Nat} {n cells slots : Nat} {σ : fqS} {pc : Nat} {lv : List (Nat × Value)} {rest : List Value} (E : fqE X rm cy cc nL Ts own) {x y : Int64} {off : Int} (tgt : Nat) (hd1 : decode cc pc = .ok (.lcmp, 1)) (hdg : decode cc (pc + 1) = .ok (.ifCond .eq off, 3)) (ht : ((pc + 1 : Nat) : Int) + off = (tgt : Int))
    (kt : x = y → fqG X T Z ad n nL cells slots σ tgt lv (rest)) (kf : ¬ (x = y) → fqG X T Z ad n nL cells slots σ (pc + 4) lv (rest)) : fqG X T Z ad n nL cells slots σ pc lv (.long y :: .long x :: rest) := by
  obtain ⟨p, l, e, R, s, m, args, below, meth, c, Q, D, A⟩ := X
  obtain ⟨⟨hx, hb, hml, hown, hts⟩, hK, hA, hR⟩ := E
  exact fun H locs ls hw hl => W.lcmp hx hb hd1 (lv_if_eq hx hb hdg ht (fun h => kt ((fq_cmp_eq x y).mp h) H locs ls hw hl) (fun h => kf (fun h2 => h ((fq_cmp_eq x y).mpr h2)) H locs ls hw hl))
theorem g_lif_ne {X : fqX} {rm : Room} {cy : Nat → ClassId} {cc : ByteArray} {nL : Nat} {Ts : List Cond} {own : String} {T : fqT} {Z : Nat → Nat} {ad : Nat → Nat} {n cells slots : Nat} {σ : fqS} {pc : Nat} {lv : List (Nat × Value)} {rest : List Value} (E : fqE X rm cy cc nL Ts own) {x y : Int64} {off : Int} (tgt : Nat) (hd1 : decode cc pc = .ok (.lcmp, 1)) (hdg : decode cc (pc + 1) = .ok (.ifCond .ne off, 3)) (ht : ((pc + 1 : Nat) : Int) + off = (tgt : Int))
    (kt : ¬ x = y → fqG X T Z ad n nL cells slots σ tgt lv (rest)) (kf : x = y → fqG X T Z ad n nL cells slots σ (pc + 4) lv (rest)) : fqG X T Z ad n nL cells slots σ pc lv (.long y :: .long x :: rest) := by
  obtain ⟨p, l, e, R, s, m, args, below, meth, c, Q, D, A⟩ := X
  obtain ⟨⟨hx, hb, hml, hown, hts⟩, hK, hA, hR⟩ := E
  exact fun H locs ls hw hl => W.lcmp hx hb hd1 (lv_if_ne hx hb hdg ht (fun h => kt ((fq_cmp_ne x y).mp h) H locs ls hw hl) (fun h => kf ((fq_cmp_eq x y).mp h) H locs ls hw hl))
theorem g_lif_lt {X : fqX} {rm : Room} {cy : Nat → ClassId} {cc : ByteArray} {nL : Nat} {Ts : List Cond} {own : String} {T : fqT} {Z : Nat → Nat} {ad : Nat → Nat} {n cells slots : Nat} {σ : fqS} {pc : Nat} {lv : List (Nat × Value)} {rest : List Value} (E : fqE X rm cy cc nL Ts own) {x y : Int64} {off : Int} (tgt : Nat) (hd1 : decode cc pc = .ok (.lcmp, 1)) (hdg : decode cc (pc + 1) = .ok (.ifCond .lt off, 3)) (ht : ((pc + 1 : Nat) : Int) + off = (tgt : Int))
    (kt : x < y → fqG X T Z ad n nL cells slots σ tgt lv (rest)) (kf : ¬ (x < y) → fqG X T Z ad n nL cells slots σ (pc + 4) lv (rest)) : fqG X T Z ad n nL cells slots σ pc lv (.long y :: .long x :: rest) := by
  obtain ⟨p, l, e, R, s, m, args, below, meth, c, Q, D, A⟩ := X
  obtain ⟨⟨hx, hb, hml, hown, hts⟩, hK, hA, hR⟩ := E
  exact fun H locs ls hw hl => W.lcmp hx hb hd1 (lv_if_lt hx hb hdg ht (fun h => kt ((fq_cmp_lt x y).mp h) H locs ls hw hl) (fun h => kf (fun h2 => h ((fq_cmp_lt x y).mpr h2)) H locs ls hw hl))
theorem g_lif_ge {X : fqX} {rm : Room} {cy : Nat → ClassId} {cc : ByteArray} {nL : Nat} {Ts : List Cond} {own : String} {T : fqT} {Z : Nat → Nat} {ad : Nat → Nat} {n cells slots : Nat} {σ : fqS} {pc : Nat} {lv : List (Nat × Value)} {rest : List Value} (E : fqE X rm cy cc nL Ts own) {x y : Int64} {off : Int} (tgt : Nat) (hd1 : decode cc pc = .ok (.lcmp, 1)) (hdg : decode cc (pc + 1) = .ok (.ifCond .ge off, 3)) (ht : ((pc + 1 : Nat) : Int) + off = (tgt : Int))
    (kt : y ≤ x → fqG X T Z ad n nL cells slots σ tgt lv (rest)) (kf : ¬ (y ≤ x) → fqG X T Z ad n nL cells slots σ (pc + 4) lv (rest)) : fqG X T Z ad n nL cells slots σ pc lv (.long y :: .long x :: rest) := by
  obtain ⟨p, l, e, R, s, m, args, below, meth, c, Q, D, A⟩ := X
  obtain ⟨⟨hx, hb, hml, hown, hts⟩, hK, hA, hR⟩ := E
  exact fun H locs ls hw hl => W.lcmp hx hb hd1 (lv_if_ge hx hb hdg ht (fun h => kt ((fq_cmp_ge x y).mp h) H locs ls hw hl) (fun h => kf (fun h2 => h ((fq_cmp_ge x y).mpr h2)) H locs ls hw hl))
theorem g_lif_gt {X : fqX} {rm : Room} {cy : Nat → ClassId} {cc : ByteArray} {nL : Nat} {Ts : List Cond} {own : String} {T : fqT} {Z : Nat → Nat} {ad : Nat → Nat} {n cells slots : Nat} {σ : fqS} {pc : Nat} {lv : List (Nat × Value)} {rest : List Value} (E : fqE X rm cy cc nL Ts own) {x y : Int64} {off : Int} (tgt : Nat) (hd1 : decode cc pc = .ok (.lcmp, 1)) (hdg : decode cc (pc + 1) = .ok (.ifCond .gt off, 3)) (ht : ((pc + 1 : Nat) : Int) + off = (tgt : Int))
    (kt : y < x → fqG X T Z ad n nL cells slots σ tgt lv (rest)) (kf : ¬ (y < x) → fqG X T Z ad n nL cells slots σ (pc + 4) lv (rest)) : fqG X T Z ad n nL cells slots σ pc lv (.long y :: .long x :: rest) := by
  obtain ⟨p, l, e, R, s, m, args, below, meth, c, Q, D, A⟩ := X
  obtain ⟨⟨hx, hb, hml, hown, hts⟩, hK, hA, hR⟩ := E
  exact fun H locs ls hw hl => W.lcmp hx hb hd1 (lv_if_gt hx hb hdg ht (fun h => kt ((fq_cmp_gt x y).mp h) H locs ls hw hl) (fun h => kf (fun h2 => h ((fq_cmp_gt x y).mpr h2)) H locs ls hw hl))
theorem g_lif_le {X : fqX} {rm : Room} {cy : Nat → ClassId} {cc : ByteArray} {nL : Nat} {Ts : List Cond} {own : String} {T : fqT} {Z : Nat → Nat} {ad : Nat → Nat} {n cells slots : Nat} {σ : fqS} {pc : Nat} {lv : List (Nat × Value)} {rest : List Value} (E : fqE X rm cy cc nL Ts own) {x y : Int64} {off : Int} (tgt : Nat) (hd1 : decode cc pc = .ok (.lcmp, 1)) (hdg : decode cc (pc + 1) = .ok (.ifCond .le off, 3)) (ht : ((pc + 1 : Nat) : Int) + off = (tgt : Int))
    (kt : x ≤ y → fqG X T Z ad n nL cells slots σ tgt lv (rest)) (kf : ¬ (x ≤ y) → fqG X T Z ad n nL cells slots σ (pc + 4) lv (rest)) : fqG X T Z ad n nL cells slots σ pc lv (.long y :: .long x :: rest) := by
  obtain ⟨p, l, e, R, s, m, args, below, meth, c, Q, D, A⟩ := X
  obtain ⟨⟨hx, hb, hml, hown, hts⟩, hK, hA, hR⟩ := E
  exact fun H locs ls hw hl => W.lcmp hx hb hd1 (lv_if_le hx hb hdg ht (fun h => kt ((fq_cmp_le x y).mp h) H locs ls hw hl) (fun h => kf (fun h2 => h ((fq_cmp_le x y).mpr h2)) H locs ls hw hl))
theorem g_goto {X : fqX} {rm : Room} {cy : Nat → ClassId} {cc : ByteArray} {nL : Nat} {Ts : List Cond} {own : String} {T : fqT} {Z : Nat → Nat} {ad : Nat → Nat} {n cells slots : Nat} {σ : fqS} {pc : Nat} {lv : List (Nat × Value)} {rest : List Value} (E : fqE X rm cy cc nL Ts own) {off : Int} (tgt : Nat) (hdg : decode cc pc = .ok (.goto off, 3)) (ht : (pc : Int) + off = (tgt : Int))
    (k : fqG X T Z ad n nL cells slots σ tgt lv (rest)) : fqG X T Z ad n nL cells slots σ pc lv (rest) := by
  obtain ⟨p, l, e, R, s, m, args, below, meth, c, Q, D, A⟩ := X
  obtain ⟨⟨hx, hb, hml, hown, hts⟩, hK, hA, hR⟩ := E
  exact fun H locs ls hw hl => lv_goto hx hb hdg ht (k H locs ls hw hl)
theorem g_ifnull {X : fqX} {rm : Room} {cy : Nat → ClassId} {cc : ByteArray} {nL : Nat} {Ts : List Cond} {own : String} {T : fqT} {Z : Nat → Nat} {ad : Nat → Nat} {n cells slots : Nat} {σ : fqS} {pc : Nat} {lv : List (Nat × Value)} {rest : List Value} (E : fqE X rm cy cc nL Ts own) {x : Nat} {off : Int} (hdg : decode cc pc = .ok (.ifnull off, 3))
    (k : fqG X T Z ad n nL cells slots σ (pc + 3) lv (rest)) : fqG X T Z ad n nL cells slots σ pc lv (.ref x :: rest) := by
  obtain ⟨p, l, e, R, s, m, args, below, meth, c, Q, D, A⟩ := X
  obtain ⟨⟨hx, hb, hml, hown, hts⟩, hK, hA, hR⟩ := E
  exact fun H locs ls hw hl => lv_ifnull hx hb hdg (k H locs ls hw hl)
theorem g_ifnullN {X : fqX} {rm : Room} {cy : Nat → ClassId} {cc : ByteArray} {nL : Nat} {Ts : List Cond} {own : String} {T : fqT} {Z : Nat → Nat} {ad : Nat → Nat} {n cells slots : Nat} {σ : fqS} {pc : Nat} {lv : List (Nat × Value)} {rest : List Value} (E : fqE X rm cy cc nL Ts own) {off : Int} (tgt : Nat) (hdg : decode cc pc = .ok (.ifnull off, 3)) (ht : (pc : Int) + off = (tgt : Int))
    (k : fqG X T Z ad n nL cells slots σ tgt lv (rest)) : fqG X T Z ad n nL cells slots σ pc lv (.null :: rest) := by
  obtain ⟨p, l, e, R, s, m, args, below, meth, c, Q, D, A⟩ := X
  obtain ⟨⟨hx, hb, hml, hown, hts⟩, hK, hA, hR⟩ := E
  exact fun H locs ls hw hl => lv_ifnullN hx hb hdg ht (k H locs ls hw hl)
theorem g_ifnonnull {X : fqX} {rm : Room} {cy : Nat → ClassId} {cc : ByteArray} {nL : Nat} {Ts : List Cond} {own : String} {T : fqT} {Z : Nat → Nat} {ad : Nat → Nat} {n cells slots : Nat} {σ : fqS} {pc : Nat} {lv : List (Nat × Value)} {rest : List Value} (E : fqE X rm cy cc nL Ts own) {x : Nat} {off : Int} (tgt : Nat) (hdg : decode cc pc = .ok (.ifnonnull off, 3)) (ht : (pc : Int) + off = (tgt : Int))
    (k : fqG X T Z ad n nL cells slots σ tgt lv (rest)) : fqG X T Z ad n nL cells slots σ pc lv (.ref x :: rest) := by
  obtain ⟨p, l, e, R, s, m, args, below, meth, c, Q, D, A⟩ := X
  obtain ⟨⟨hx, hb, hml, hown, hts⟩, hK, hA, hR⟩ := E
  exact fun H locs ls hw hl => lv_ifnonnull hx hb hdg ht (k H locs ls hw hl)
theorem g_ifnonnullN {X : fqX} {rm : Room} {cy : Nat → ClassId} {cc : ByteArray} {nL : Nat} {Ts : List Cond} {own : String} {T : fqT} {Z : Nat → Nat} {ad : Nat → Nat} {n cells slots : Nat} {σ : fqS} {pc : Nat} {lv : List (Nat × Value)} {rest : List Value} (E : fqE X rm cy cc nL Ts own) {off : Int} (hdg : decode cc pc = .ok (.ifnonnull off, 3))
    (k : fqG X T Z ad n nL cells slots σ (pc + 3) lv (rest)) : fqG X T Z ad n nL cells slots σ pc lv (.null :: rest) := by
  obtain ⟨p, l, e, R, s, m, args, below, meth, c, Q, D, A⟩ := X
  obtain ⟨⟨hx, hb, hml, hown, hts⟩, hK, hA, hR⟩ := E
  exact fun H locs ls hw hl => lv_ifnonnullN hx hb hdg (k H locs ls hw hl)
theorem g_tableOut {X : fqX} {rm : Room} {cy : Nat → ClassId} {cc : ByteArray} {nL : Nat} {Ts : List Cond} {own : String} {T : fqT} {Z : Nat → Nat} {ad : Nat → Nat} {n cells slots : Nat} {σ : fqS} {pc : Nat} {lv : List (Nat × Value)} {rest : List Value} (E : fqE X rm cy cc nL Ts own) {dflt lo hi : Int} {offs : Array Int} {len : Nat} {x : Int32} (tgt : Nat) (hdg : decode cc pc = .ok (.tableswitch dflt lo hi offs, len)) (h : x.toInt < lo ∨ hi < x.toInt) (ht : (pc : Int) + dflt = (tgt : Int))
    (k : fqG X T Z ad n nL cells slots σ tgt lv (rest)) : fqG X T Z ad n nL cells slots σ pc lv (.int x :: rest) := by
  obtain ⟨p, l, e, R, s, m, args, below, meth, c, Q, D, A⟩ := X
  obtain ⟨⟨hx, hb, hml, hown, hts⟩, hK, hA, hR⟩ := E
  exact fun H locs ls hw hl => lv_tableOut hx hb hdg h ht (k H locs ls hw hl)
theorem g_tableIn {X : fqX} {rm : Room} {cy : Nat → ClassId} {cc : ByteArray} {nL : Nat} {Ts : List Cond} {own : String} {T : fqT} {Z : Nat → Nat} {ad : Nat → Nat} {n cells slots : Nat} {σ : fqS} {pc : Nat} {lv : List (Nat × Value)} {rest : List Value} (E : fqE X rm cy cc nL Ts own) {dflt lo hi : Int} {offs : Array Int} {len : Nat} {x : Int32} {off : Int} (tgt : Nat) (hdg : decode cc pc = .ok (.tableswitch dflt lo hi offs, len)) (h1 : ¬ x.toInt < lo) (h2 : ¬ hi < x.toInt) (ho : offs[(x.toInt - lo).toNat]? = some off) (ht : (pc : Int) + off = (tgt : Int))
    (k : fqG X T Z ad n nL cells slots σ tgt lv (rest)) : fqG X T Z ad n nL cells slots σ pc lv (.int x :: rest) := by
  obtain ⟨p, l, e, R, s, m, args, below, meth, c, Q, D, A⟩ := X
  obtain ⟨⟨hx, hb, hml, hown, hts⟩, hK, hA, hR⟩ := E
  exact fun H locs ls hw hl => lv_tableIn hx hb hdg h1 h2 ho ht (k H locs ls hw hl)
theorem g_lv {X : fqX} {nL : Nat} {T : fqT} {Z : Nat → Nat} {ad : Nat → Nat} {n cells slots : Nat} {σ : fqS} {pc : Nat} {lv : List (Nat × Value)} {rest : List Value} (ks : List Nat) {lv' : List (Nat × Value)} (h : lv_pick lv ks = lv')
    (k : fqG X T Z ad n nL cells slots σ pc lv' (rest)) : fqG X T Z ad n nL cells slots σ pc lv (rest) := by
  obtain ⟨p, l, e, R, s, m, args, below, meth, c, Q, D, A⟩ := X
  exact fun H locs ls hw hl => k H locs ls hw (lv_sub hl ks h)
theorem g_st {X : fqX} {nL : Nat} {T : fqT} {Z : Nat → Nat} {ad : Nat → Nat} {n cells slots : Nat} {σ : fqS} {pc : Nat} {lv : List (Nat × Value)} {st st' : List Value} (h : st = st')
    (k : fqG X T Z ad n nL cells slots σ pc lv (st')) : fqG X T Z ad n nL cells slots σ pc lv (st) := h ▸ k
theorem g_pc {X : fqX} {nL : Nat} {T : fqT} {Z : Nat → Nat} {ad : Nat → Nat} {n cells slots : Nat} {σ : fqS} {pc : Nat} {lv : List (Nat × Value)} {pc' : Nat} {st : List Value} (h : pc = pc')
    (k : fqG X T Z ad n nL cells slots σ pc' lv (st)) : fqG X T Z ad n nL cells slots σ pc lv (st) := h ▸ k
theorem g_iaload {X : fqX} {rm : Room} {cy : Nat → ClassId} {cc : ByteArray} {nL : Nat} {Ts : List Cond} {own : String} {T : fqT} {Z : Nat → Nat} {ad : Nat → Nat} {n cells slots : Nat} {σ : fqS} {pc : Nat} {lv : List (Nat × Value)} {rest : List Value} (E : fqE X rm cy cc nL Ts own) (q : Nat) (hq : q < Z n) {len : Nat} (hT : ∀ f g, T ad n q f g = .inl (cy 0, len, .inl f)) {i : Int32} (hin : vp_in i len) (hdg : decode cc pc = .ok (.iaload, 1))
    (k : fqG X T Z ad n nL cells slots σ (pc + 1) lv (.int (fqI σ q i.toNatClampNeg) :: rest)) : fqG X T Z ad n nL cells slots σ pc lv (.int i :: .ref (ad q) :: rest) := by
  obtain ⟨p, l, e, R, s, m, args, below, meth, c, Q, D, A⟩ := X
  obtain ⟨⟨hx, hb, hml, hown, hts⟩, hK, hA, hR⟩ := E
  exact fun H locs ls hw hl => va_iald (f := σ.1 q) hx hb hK.1 hw.1 q 0 (by rw [fqW_get hq, hT]) rfl hin hdg (k H locs ls hw hl)
theorem g_baload {X : fqX} {rm : Room} {cy : Nat → ClassId} {cc : ByteArray} {nL : Nat} {Ts : List Cond} {own : String} {T : fqT} {Z : Nat → Nat} {ad : Nat → Nat} {n cells slots : Nat} {σ : fqS} {pc : Nat} {lv : List (Nat × Value)} {rest : List Value} (E : fqE X rm cy cc nL Ts own) (q : Nat) (hq : q < Z n) {len : Nat} (hT : ∀ f g, T ad n q f g = .inl (cy 2, len, .inl f)) {i : Int32} (hin : vp_in i len) (hdg : decode cc pc = .ok (.baload, 1))
    (k : fqG X T Z ad n nL cells slots σ (pc + 1) lv (.int (fqI σ q i.toNatClampNeg) :: rest)) : fqG X T Z ad n nL cells slots σ pc lv (.int i :: .ref (ad q) :: rest) := by
  obtain ⟨p, l, e, R, s, m, args, below, meth, c, Q, D, A⟩ := X
  obtain ⟨⟨hx, hb, hml, hown, hts⟩, hK, hA, hR⟩ := E
  exact fun H locs ls hw hl => va_zald (f := σ.1 q) hx hb hK.1 hw.1 q 2 (by rw [fqW_get hq, hT]) rfl hin hdg (k H locs ls hw hl)
theorem g_laload {X : fqX} {rm : Room} {cy : Nat → ClassId} {cc : ByteArray} {nL : Nat} {Ts : List Cond} {own : String} {T : fqT} {Z : Nat → Nat} {ad : Nat → Nat} {n cells slots : Nat} {σ : fqS} {pc : Nat} {lv : List (Nat × Value)} {rest : List Value} (E : fqE X rm cy cc nL Ts own) (q : Nat) (hq : q < Z n) {len : Nat} (hT : ∀ f g, T ad n q f g = .inl (cy 1, len, .inr (.inl g))) {i : Int32} (hin : vp_in i len) (hdg : decode cc pc = .ok (.laload, 1))
    (k : fqG X T Z ad n nL cells slots σ (pc + 1) lv (.long (fqJ σ q i.toNatClampNeg) :: rest)) : fqG X T Z ad n nL cells slots σ pc lv (.int i :: .ref (ad q) :: rest) := by
  obtain ⟨p, l, e, R, s, m, args, below, meth, c, Q, D, A⟩ := X
  obtain ⟨⟨hx, hb, hml, hown, hts⟩, hK, hA, hR⟩ := E
  exact fun H locs ls hw hl => va_lald (f := σ.2 q) hx hb hK.1 hw.1 q 1 (by rw [fqW_get hq, hT]) rfl hin hdg (k H locs ls hw hl)
theorem g_aaload {X : fqX} {rm : Room} {cy : Nat → ClassId} {cc : ByteArray} {nL : Nat} {Ts : List Cond} {own : String} {T : fqT} {Z : Nat → Nat} {ad : Nat → Nat} {n cells slots : Nat} {σ : fqS} {pc : Nat} {lv : List (Nat × Value)} {rest : List Value} (E : fqE X rm cy cc nL Ts own) (q : Nat) (hq : q < Z n) (t0 : Nat) {C : String} {len : Nat} {F : Nat → Option Nat} (hT : ∀ f g, T ad n q f g = .inl (cy t0, len, .inr (.inr (.inr (.inr F))))) (ht : (fqTy cy)[t0]? = some (cy t0, .object C)) {i : Int32} (hin : vp_in i len) (hdg : decode cc pc = .ok (.aaload, 1))
    (k : fqG X T Z ad n nL cells slots σ (pc + 1) lv (va_rf (F i.toNatClampNeg) :: rest)) : fqG X T Z ad n nL cells slots σ pc lv (.int i :: .ref (ad q) :: rest) := by
  obtain ⟨p, l, e, R, s, m, args, below, meth, c, Q, D, A⟩ := X
  obtain ⟨⟨hx, hb, hml, hown, hts⟩, hK, hA, hR⟩ := E
  exact fun H locs ls hw hl => va_aldq (f := F) hx hb hK.1 hw.1 q t0 (by rw [fqW_get hq, hT]) ht hin hdg (k H locs ls hw hl)
theorem g_alen {X : fqX} {rm : Room} {cy : Nat → ClassId} {cc : ByteArray} {nL : Nat} {Ts : List Cond} {own : String} {T : fqT} {Z : Nat → Nat} {ad : Nat → Nat} {n cells slots : Nat} {σ : fqS} {pc : Nat} {lv : List (Nat × Value)} {rest : List Value} (E : fqE X rm cy cc nL Ts own) (q : Nat) (hq : q < Z n) (t0 : Nat) {ty : FieldType} {x : (Nat → Int32) → (Nat → Int64) → vp_A} (hT : ∀ f g, T ad n q f g = .inl (cy t0, x f g)) (ht : (fqTy cy)[t0]? = some (cy t0, ty)) (v : Int32) (hv : Int32.ofNat (x (σ.1 q) (σ.2 q)).1 = v) (hdg : decode cc pc = .ok (.arraylength, 1))
    (k : fqG X T Z ad n nL cells slots σ (pc + 1) lv (.int v :: rest)) : fqG X T Z ad n nL cells slots σ pc lv (.ref (ad q) :: rest) := by
  obtain ⟨p, l, e, R, s, m, args, below, meth, c, Q, D, A⟩ := X
  obtain ⟨⟨hx, hb, hml, hown, hts⟩, hK, hA, hR⟩ := E
  exact fun H locs ls hw hl => va_alen (x := x (σ.1 q) (σ.2 q)) hx hb hK.1 hw.1 q t0 (by rw [fqW_get hq, hT]) ht hv hdg (k H locs ls hw hl)
theorem g_iastore {X : fqX} {rm : Room} {cy : Nat → ClassId} {cc : ByteArray} {nL : Nat} {Ts : List Cond} {own : String} {T : fqT} {Z : Nat → Nat} {ad : Nat → Nat} {n cells slots : Nat} {σ : fqS} {pc : Nat} {lv : List (Nat × Value)} {rest : List Value} (E : fqE X rm cy cc nL Ts own) (q : Nat) (hq : q < Z n) {len : Nat} (hT : ∀ f g, T ad n q f g = .inl (cy 0, len, .inl f)) {i : Int32} {x : Int32} (hin : vp_in i len) (hdg : decode cc pc = .ok (.iastore, 1))
    (k : fqG X T Z ad n nL cells slots (fqPI σ q i.toNatClampNeg x) (pc + 1) lv (rest)) : fqG X T Z ad n nL cells slots σ pc lv (.int x :: .int i :: .ref (ad q) :: rest) := by
  obtain ⟨p, l, e, R, s, m, args, below, meth, c, Q, D, A⟩ := X
  obtain ⟨⟨hx, hb, hml, hown, hts⟩, hK, hA, hR⟩ := E
  exact fun H locs ls hw hl => va_iast (f := σ.1 q) hx hb hK.1 hw.1 hw.2.1 hw.2.2 q 0 (by rw [fqW_get hq, hT]) rfl hin hdg (fun H locs hP hD hS => by
    rw [fqW_set (σ' := fqPI σ q i.toNatClampNeg x) hq (by rw [hT, fqPI_s]) fqPI_o] at hP hD
    exact k H locs ls ⟨hP, hD, hS⟩ hl)
theorem g_lastore {X : fqX} {rm : Room} {cy : Nat → ClassId} {cc : ByteArray} {nL : Nat} {Ts : List Cond} {own : String} {T : fqT} {Z : Nat → Nat} {ad : Nat → Nat} {n cells slots : Nat} {σ : fqS} {pc : Nat} {lv : List (Nat × Value)} {rest : List Value} (E : fqE X rm cy cc nL Ts own) (q : Nat) (hq : q < Z n) {len : Nat} (hT : ∀ f g, T ad n q f g = .inl (cy 1, len, .inr (.inl g))) {i : Int32} {x : Int64} (hin : vp_in i len) (hdg : decode cc pc = .ok (.lastore, 1))
    (k : fqG X T Z ad n nL cells slots (fqPJ σ q i.toNatClampNeg x) (pc + 1) lv (rest)) : fqG X T Z ad n nL cells slots σ pc lv (.long x :: .int i :: .ref (ad q) :: rest) := by
  obtain ⟨p, l, e, R, s, m, args, below, meth, c, Q, D, A⟩ := X
  obtain ⟨⟨hx, hb, hml, hown, hts⟩, hK, hA, hR⟩ := E
  exact fun H locs ls hw hl => va_last (f := σ.2 q) hx hb hK.1 hw.1 hw.2.1 hw.2.2 q 1 (by rw [fqW_get hq, hT]) rfl hin hdg (fun H locs hP hD hS => by
    rw [fqW_set (σ' := fqPJ σ q i.toNatClampNeg x) hq (by rw [hT, fqPJ_s]) fqPJ_o] at hP hD
    exact k H locs ls ⟨hP, hD, hS⟩ hl)
theorem g_bastore {X : fqX} {rm : Room} {cy : Nat → ClassId} {cc : ByteArray} {nL : Nat} {Ts : List Cond} {own : String} {T : fqT} {Z : Nat → Nat} {ad : Nat → Nat} {n cells slots : Nat} {σ : fqS} {pc : Nat} {lv : List (Nat × Value)} {rest : List Value} (E : fqE X rm cy cc nL Ts own) (q : Nat) (hq : q < Z n) {len : Nat} (hT : ∀ f g, T ad n q f g = .inl (cy 2, len, .inl f)) {i : Int32} {x : Int32} (hx1 : vp_nar .boolean x = x) (hin : vp_in i len) (hdg : decode cc pc = .ok (.bastore, 1))
    (k : fqG X T Z ad n nL cells slots (fqPI σ q i.toNatClampNeg x) (pc + 1) lv (rest)) : fqG X T Z ad n nL cells slots σ pc lv (.int x :: .int i :: .ref (ad q) :: rest) := by
  obtain ⟨p, l, e, R, s, m, args, below, meth, c, Q, D, A⟩ := X
  obtain ⟨⟨hx, hb, hml, hown, hts⟩, hK, hA, hR⟩ := E
  exact fun H locs ls hw hl => va_zast (f := σ.1 q) hx hb hK.1 hw.1 hw.2.1 hw.2.2 q 2 (by rw [fqW_get hq, hT]) rfl hin hdg (fun H locs hP hD hS => by
    rw [hx1, fqW_set (σ' := fqPI σ q i.toNatClampNeg x) hq (by rw [hT, fqPI_s]) fqPI_o] at hP hD
    exact k H locs ls ⟨hP, hD, hS⟩ hl)
theorem g_getfield {X : fqX} {rm : Room} {cy : Nat → ClassId} {cc : ByteArray} {nL : Nat} {Ts : List Cond} {own : String} {T : fqT} {Z : Nat → Nat} {ad : Nat → Nat} {n cells slots : Nat} {σ : fqS} {pc : Nat} {lv : List (Nat × Value)} {rest : List Value} (E : fqE X rm cy cc nL Ts own) {C : String} {Tt : u_T} {N ci index : Nat} (hin : ∀ w ∈ u_ws C Tt N, w ∈ Ts) (q : Nat) (hq : q < Z n) {fs : (Nat → Int32) → (Nat → Int64) → List Value} (hT : ∀ f g, T ad n q f g = .inr (ci, fs f g)) (hc : vwCl[ci]? = some (C, Tt, N)) (i : Nat) (hi : i < N) (hm : Cond.fieldLink own index (Tt i).1 (Tt i).2.1 (Tt i).2.2.1 ∈ Ts) (v : Value) (hv : (fs (σ.1 q) (σ.2 q))[i]? = some v) (hdg : decode cc pc = .ok (.getfield index, 3))
    (k : fqG X T Z ad n nL cells slots σ (pc + 3) lv (v :: rest)) : fqG X T Z ad n nL cells slots σ pc lv (.ref (ad q) :: rest) := by
  obtain ⟨p, l, e, R, s, m, args, below, meth, c, Q, D, A⟩ := X
  obtain ⟨⟨hx, hb, hml, hown, hts⟩, hK, hA, hR⟩ := E
  exact fun H locs ls hw hl => va_get hx hb hts hin hown hK.1 hw.1 q (by rw [fqW_get hq, hT]) hc i hi (hts _ hm) (fun _ h => h) hv hdg (k H locs ls hw hl)
theorem g_putI {X : fqX} {rm : Room} {cy : Nat → ClassId} {cc : ByteArray} {nL : Nat} {Ts : List Cond} {own : String} {T : fqT} {Z : Nat → Nat} {ad : Nat → Nat} {n cells slots : Nat} {σ : fqS} {pc : Nat} {lv : List (Nat × Value)} {rest : List Value} (E : fqE X rm cy cc nL Ts own) {C : String} {Tt : u_T} {N ci index : Nat} (hin : ∀ w ∈ u_ws C Tt N, w ∈ Ts) (ty0 : Nat → FieldType) (hty : ∀ k, k < N → parseFieldDescriptor (Tt k).2.2.1 = some (ty0 k)) (hnm : ∀ a, a < N → ∀ b, b < N → a ≠ b → (Tt a).2.1 ≠ (Tt b).2.1) (q : Nat) (hq : q < Z n) {fs : (Nat → Int32) → (Nat → Int64) → List Value} (hT : ∀ f g, T ad n q f g = .inr (ci, fs f g)) (hc : vwCl[ci]? = some (C, Tt, N)) (i : Nat) (hi : i < N) (hm : Cond.fieldLink own index (Tt i).1 (Tt i).2.1 (Tt i).2.2.1 ∈ Ts) (hfin : (Tt i).2.2.2 = false) (hd : parseFieldDescriptor (Tt i).2.2.1 = some .int) {x : Int32} (hl9 : i < (fs (σ.1 q) (σ.2 q)).length) (hs : (fs (σ.1 q) (σ.2 q)).set i (.int x) = fs (upd (σ.1 q) i x) (σ.2 q)) (hdg : decode cc pc = .ok (.putfield index, 3))
    (k : fqG X T Z ad n nL cells slots (fqPI σ q i x) (pc + 3) lv (rest)) : fqG X T Z ad n nL cells slots σ pc lv (.int x :: .ref (ad q) :: rest) := by
  obtain ⟨p, l, e, R, s, m, args, below, meth, c, Q, D, A⟩ := X
  obtain ⟨⟨hx, hb, hml, hown, hts⟩, hK, hA, hR⟩ := E
  exact fun H locs ls hw hl => va_put (v := .int x) (ty := .int) hx hb hts hin ty0 hty hnm hown hK.1 hw.1 hw.2.1 hw.2.2 q (by rw [fqW_get hq, hT]) hc i hi (hts _ hm) (fun _ h => h) hfin hd rfl rfl hl9 hdg (fun H locs hP hD hS => by
    rw [fqW_set (σ' := fqPI σ q i x) hq (by rw [hT, fqPI_s, hs]; rfl) fqPI_o] at hP hD
    exact k H locs ls ⟨hP, hD, hS⟩ hl)
theorem g_putJ {X : fqX} {rm : Room} {cy : Nat → ClassId} {cc : ByteArray} {nL : Nat} {Ts : List Cond} {own : String} {T : fqT} {Z : Nat → Nat} {ad : Nat → Nat} {n cells slots : Nat} {σ : fqS} {pc : Nat} {lv : List (Nat × Value)} {rest : List Value} (E : fqE X rm cy cc nL Ts own) {C : String} {Tt : u_T} {N ci index : Nat} (hin : ∀ w ∈ u_ws C Tt N, w ∈ Ts) (ty0 : Nat → FieldType) (hty : ∀ k, k < N → parseFieldDescriptor (Tt k).2.2.1 = some (ty0 k)) (hnm : ∀ a, a < N → ∀ b, b < N → a ≠ b → (Tt a).2.1 ≠ (Tt b).2.1) (q : Nat) (hq : q < Z n) {fs : (Nat → Int32) → (Nat → Int64) → List Value} (hT : ∀ f g, T ad n q f g = .inr (ci, fs f g)) (hc : vwCl[ci]? = some (C, Tt, N)) (i : Nat) (hi : i < N) (hm : Cond.fieldLink own index (Tt i).1 (Tt i).2.1 (Tt i).2.2.1 ∈ Ts) (hfin : (Tt i).2.2.2 = false) (hd : parseFieldDescriptor (Tt i).2.2.1 = some .long) {x : Int64} (hl9 : i < (fs (σ.1 q) (σ.2 q)).length) (hs : (fs (σ.1 q) (σ.2 q)).set i (.long x) = fs (σ.1 q) (vp_updL (σ.2 q) i x)) (hdg : decode cc pc = .ok (.putfield index, 3))
    (k : fqG X T Z ad n nL cells slots (fqPJ σ q i x) (pc + 3) lv (rest)) : fqG X T Z ad n nL cells slots σ pc lv (.long x :: .ref (ad q) :: rest) := by
  obtain ⟨p, l, e, R, s, m, args, below, meth, c, Q, D, A⟩ := X
  obtain ⟨⟨hx, hb, hml, hown, hts⟩, hK, hA, hR⟩ := E
  exact fun H locs ls hw hl => va_put (v := .long x) (ty := .long) hx hb hts hin ty0 hty hnm hown hK.1 hw.1 hw.2.1 hw.2.2 q (by rw [fqW_get hq, hT]) hc i hi (hts _ hm) (fun _ h => h) hfin hd rfl rfl hl9 hdg (fun H locs hP hD hS => by
    rw [fqW_set (σ' := fqPJ σ q i x) hq (by rw [hT, fqPJ_s, hs]; rfl) fqPJ_o] at hP hD
    exact k H locs ls ⟨hP, hD, hS⟩ hl)
theorem fqA_in {T : fqT} {Z : Nat → Nat} {D : va_G} {ad : Nat → Nat} {n : Nat} {A : Nat → Prop} {σ : fqS} {H0 H : Heap} {locs : List Loc} (hw : fqO T Z D ad n A H0 σ H locs) (hA : ∀ q : Nat, H0.size ≤ q → A q) : ∀ q : Nat, fqA T Z ad H.size n σ q → A q := by
  intro q h
  rcases h with ⟨k, e, h⟩ | h
  · exact hw.2.1.2 k (q, e) h
  · exact hA q (Nat.le_trans hw.2.2.1 h)
theorem g_callVl {X : fqX} {rm : Room} {cy : Nat → ClassId} {cc : ByteArray} {nL : Nat} {Ts : List Cond} {own : String} {T : fqT} {Z : Nat → Nat} {ad : Nat → Nat} {n cells slots : Nat} {σ : fqS} {pc : Nat} {lv : List (Nat × Value)} {rest : List Value} (E : fqE X rm cy cc nL Ts own) {y : MethodName} {bytes : ByteArray} {maxL nn index : Nat} {ret : Option FieldType} {ws ws' : List Cond} {rmc : Room} {C : String} {Tt : u_T} {N ci : Nat} (q : Nat) (hq : q < Z n) {fs : (Nat → Int32) → (Nat → Int64) → List Value} (hT : ∀ f g, T ad n q f g = .inr (ci, fs f g)) (hc : vwCl[ci]? = some (C, Tt, N)) (As : List Value) {r : Int64} {σ' : fqS} (hM : ∀ (l : Launch) (D : va_G) (sz : Nat), Met l y ws rmc (fqPc T Z D cy ad sz n σ (.ref (ad q) :: As)) (fqQl T Z D ad sz n σ r σ') 0 0 (fqA T Z ad sz n σ)) (hG : GoodIn Ts (wsV own index C y ws)) (hw9 : ws = Cond.code y bytes maxL ret :: ws') (hrc : rmc.cells = 0) (hrs : rmc.slots = 0) (hd : y.cls = C ∧ y.cls ≠ "java/lang/invoke/MethodHandle" ∧ y.cls ≠ "java/lang/invoke/VarHandle" ∧ (parseMethodDescriptor y.desc).map (fun d => d.parameters.length) = some nn) (hR9 : rmc.frames + 1 ≤ rm.frames ∧ 8 + (maxL + 11) + rmc.locals ≤ rm.locals) (hn : As.length = nn) {st : List Value} (hst : st = As.reverse ++ .ref (ad q) :: rest) (hroom : (rest.map fun v => v.category).sum ≤ 8) (hdg : decode cc pc = .ok (.invokevirtual index, 3)) (hcs : cells ≤ rm.cells ∧ slots ≤ rm.slots)
    (k : fqG X T Z ad n nL cells slots σ' (pc + 3) lv (.long r :: rest)) : fqG X T Z ad n nL cells slots σ pc lv (st) := by
  obtain ⟨p, l, e, R, s, m, args, below, meth, c, Q, D, A⟩ := X
  obtain ⟨⟨hx, hb, hml, hown, hts⟩, hK, hA, hR⟩ := E
  exact fun H locs ls hw hl => va_calll (va_runV (As := As) (rest := rest) ⟨hx, hb, hml, hown, hts⟩ (hM l D H.size) (cwV nn hts hG hw9 hrc hrs hd (by rw [hR]; exact hR9)) ⟨fqPc_blind, va_recv hK.1 hw.1 hc (q0 := q) (by rw [fqW_get hq, hT]), fun U hU hW => ⟨rfl, by rw [hU], by rw [hU]; exact hw.1, hK.warm hW, hw.2.1.weaken (fun _ _ _ _ => trivial)⟩⟩ rfl hn hl.1 hst (lv_room hroom) hdg (by rw [hR]; exact hcs)) hw.2.2 (fun q _ h => fqA_in hw hA q h) (fqA_in hw hA) (fun r1 u t H1 locs ht hvm hp hB hz hk hS => by
    cases hp
    obtain ⟨hP1, hD1⟩ := hB
    rw [ht] at hP1
    exact k H1 locs ls ⟨hP1, hD1.weaken (fun _ q _ h => fqA_in hw hA q.1 h), hS⟩ hl)
theorem g_callVi {X : fqX} {rm : Room} {cy : Nat → ClassId} {cc : ByteArray} {nL : Nat} {Ts : List Cond} {own : String} {T : fqT} {Z : Nat → Nat} {ad : Nat → Nat} {n cells slots : Nat} {σ : fqS} {pc : Nat} {lv : List (Nat × Value)} {rest : List Value} (E : fqE X rm cy cc nL Ts own) {y : MethodName} {bytes : ByteArray} {maxL nn index : Nat} {ret : Option FieldType} {ws ws' : List Cond} {rmc : Room} {C : String} {Tt : u_T} {N ci : Nat} (q : Nat) (hq : q < Z n) {fs : (Nat → Int32) → (Nat → Int64) → List Value} (hT : ∀ f g, T ad n q f g = .inr (ci, fs f g)) (hc : vwCl[ci]? = some (C, Tt, N)) (As : List Value) {r : Int32} {σ' : fqS} (hM : ∀ (l : Launch) (D : va_G) (sz : Nat), Met l y ws rmc (fqPc T Z D cy ad sz n σ (.ref (ad q) :: As)) (fqQi T Z D ad sz n σ r σ') 0 0 (fqA T Z ad sz n σ)) (hG : GoodIn Ts (wsV own index C y ws)) (hw9 : ws = Cond.code y bytes maxL ret :: ws') (hrc : rmc.cells = 0) (hrs : rmc.slots = 0) (hd : y.cls = C ∧ y.cls ≠ "java/lang/invoke/MethodHandle" ∧ y.cls ≠ "java/lang/invoke/VarHandle" ∧ (parseMethodDescriptor y.desc).map (fun d => d.parameters.length) = some nn) (hR9 : rmc.frames + 1 ≤ rm.frames ∧ 8 + (maxL + 11) + rmc.locals ≤ rm.locals) (hn : As.length = nn) {st : List Value} (hst : st = As.reverse ++ .ref (ad q) :: rest) (hroom : (rest.map fun v => v.category).sum ≤ 8) (hdg : decode cc pc = .ok (.invokevirtual index, 3)) (hcs : cells ≤ rm.cells ∧ slots ≤ rm.slots)
    (k : fqG X T Z ad n nL cells slots σ' (pc + 3) lv (.int r :: rest)) : fqG X T Z ad n nL cells slots σ pc lv (st) := by
  obtain ⟨p, l, e, R, s, m, args, below, meth, c, Q, D, A⟩ := X
  obtain ⟨⟨hx, hb, hml, hown, hts⟩, hK, hA, hR⟩ := E
  exact fun H locs ls hw hl => va_calli (va_runV (As := As) (rest := rest) ⟨hx, hb, hml, hown, hts⟩ (hM l D H.size) (cwV nn hts hG hw9 hrc hrs hd (by rw [hR]; exact hR9)) ⟨fqPc_blind, va_recv hK.1 hw.1 hc (q0 := q) (by rw [fqW_get hq, hT]), fun U hU hW => ⟨rfl, by rw [hU], by rw [hU]; exact hw.1, hK.warm hW, hw.2.1.weaken (fun _ _ _ _ => trivial)⟩⟩ rfl hn hl.1 hst (lv_room hroom) hdg (by rw [hR]; exact hcs)) hw.2.2 (fun q _ h => fqA_in hw hA q h) (fqA_in hw hA) (fun r1 u t H1 locs ht hvm hp hB hz hk hS => by
    cases hp
    obtain ⟨hP1, hD1⟩ := hB
    rw [ht] at hP1
    exact k H1 locs ls ⟨hP1, hD1.weaken (fun _ q _ h => fqA_in hw hA q.1 h), hS⟩ hl)
theorem g_callVv {X : fqX} {rm : Room} {cy : Nat → ClassId} {cc : ByteArray} {nL : Nat} {Ts : List Cond} {own : String} {T : fqT} {Z : Nat → Nat} {ad : Nat → Nat} {n cells slots : Nat} {σ : fqS} {pc : Nat} {lv : List (Nat × Value)} {rest : List Value} (E : fqE X rm cy cc nL Ts own) {y : MethodName} {bytes : ByteArray} {maxL nn index : Nat} {ret : Option FieldType} {ws ws' : List Cond} {rmc : Room} {C : String} {Tt : u_T} {N ci : Nat} (q : Nat) (hq : q < Z n) {fs : (Nat → Int32) → (Nat → Int64) → List Value} (hT : ∀ f g, T ad n q f g = .inr (ci, fs f g)) (hc : vwCl[ci]? = some (C, Tt, N)) (As : List Value) {σ' : fqS} (hM : ∀ (l : Launch) (D : va_G) (sz : Nat), Met l y ws rmc (fqPc T Z D cy ad sz n σ (.ref (ad q) :: As)) (fqQv T Z D ad sz n σ σ') 0 0 (fqA T Z ad sz n σ)) (hG : GoodIn Ts (wsV own index C y ws)) (hw9 : ws = Cond.code y bytes maxL ret :: ws') (hrc : rmc.cells = 0) (hrs : rmc.slots = 0) (hd : y.cls = C ∧ y.cls ≠ "java/lang/invoke/MethodHandle" ∧ y.cls ≠ "java/lang/invoke/VarHandle" ∧ (parseMethodDescriptor y.desc).map (fun d => d.parameters.length) = some nn) (hR9 : rmc.frames + 1 ≤ rm.frames ∧ 8 + (maxL + 11) + rmc.locals ≤ rm.locals) (hn : As.length = nn) {st : List Value} (hst : st = As.reverse ++ .ref (ad q) :: rest) (hroom : (rest.map fun v => v.category).sum ≤ 8) (hdg : decode cc pc = .ok (.invokevirtual index, 3)) (hcs : cells ≤ rm.cells ∧ slots ≤ rm.slots)
    (k : fqG X T Z ad n nL cells slots σ' (pc + 3) lv (rest)) : fqG X T Z ad n nL cells slots σ pc lv (st) := by
  obtain ⟨p, l, e, R, s, m, args, below, meth, c, Q, D, A⟩ := X
  obtain ⟨⟨hx, hb, hml, hown, hts⟩, hK, hA, hR⟩ := E
  exact fun H locs ls hw hl => va_callv (va_runV (As := As) (rest := rest) ⟨hx, hb, hml, hown, hts⟩ (hM l D H.size) (cwV nn hts hG hw9 hrc hrs hd (by rw [hR]; exact hR9)) ⟨fqPc_blind, va_recv hK.1 hw.1 hc (q0 := q) (by rw [fqW_get hq, hT]), fun U hU hW => ⟨rfl, by rw [hU], by rw [hU]; exact hw.1, hK.warm hW, hw.2.1.weaken (fun _ _ _ _ => trivial)⟩⟩ rfl hn hl.1 hst (lv_room hroom) hdg (by rw [hR]; exact hcs)) hw.2.2 (fun q _ h => fqA_in hw hA q h) (fqA_in hw hA) (fun u t H1 locs ht hvm hp hB hz hk hS => by
    obtain ⟨hP1, hD1⟩ := hB
    rw [ht] at hP1
    exact k H1 locs ls ⟨hP1, hD1.weaken (fun _ q _ h => fqA_in hw hA q.1 h), hS⟩ hl)
theorem g_callVq {X : fqX} {rm : Room} {cy : Nat → ClassId} {cc : ByteArray} {nL : Nat} {Ts : List Cond} {own : String} {T : fqT} {Z : Nat → Nat} {ad : Nat → Nat} {n cells slots : Nat} {σ : fqS} {pc : Nat} {lv : List (Nat × Value)} {rest : List Value} (E : fqE X rm cy cc nL Ts own) {y : MethodName} {bytes : ByteArray} {maxL nn index : Nat} {ret : Option FieldType} {ws ws' : List Cond} {rmc : Room} {C : String} {Tt : u_T} {N ci : Nat} (q : Nat) (hq : q < Z n) {fs : (Nat → Int32) → (Nat → Int64) → List Value} (hT : ∀ f g, T ad n q f g = .inr (ci, fs f g)) (hc : vwCl[ci]? = some (C, Tt, N)) (As : List Value) {r : Option Nat} {σ' : fqS} (hM : ∀ (l : Launch) (D : va_G) (sz : Nat), Met l y ws rmc (fqPc T Z D cy ad sz n σ (.ref (ad q) :: As)) (fqQq T Z D ad sz n σ r σ') 0 0 (fqA T Z ad sz n σ)) (hG : GoodIn Ts (wsV own index C y ws)) (hw9 : ws = Cond.code y bytes maxL ret :: ws') (hrc : rmc.cells = 0) (hrs : rmc.slots = 0) (hd : y.cls = C ∧ y.cls ≠ "java/lang/invoke/MethodHandle" ∧ y.cls ≠ "java/lang/invoke/VarHandle" ∧ (parseMethodDescriptor y.desc).map (fun d => d.parameters.length) = some nn) (hR9 : rmc.frames + 1 ≤ rm.frames ∧ 8 + (maxL + 11) + rmc.locals ≤ rm.locals) (hn : As.length = nn) {st : List Value} (hst : st = As.reverse ++ .ref (ad q) :: rest) (hroom : (rest.map fun v => v.category).sum ≤ 8) (hdg : decode cc pc = .ok (.invokevirtual index, 3)) (hcs : cells ≤ rm.cells ∧ slots ≤ rm.slots)
    (k : fqG X T Z ad n nL cells slots σ' (pc + 3) lv (va_rf r :: rest)) : fqG X T Z ad n nL cells slots σ pc lv (st) := by
  obtain ⟨p, l, e, R, s, m, args, below, meth, c, Q, D, A⟩ := X
  obtain ⟨⟨hx, hb, hml, hown, hts⟩, hK, hA, hR⟩ := E
  exact fun H locs ls hw hl => va_callq (va_runV (As := As) (rest := rest) ⟨hx, hb, hml, hown, hts⟩ (hM l D H.size) (cwV nn hts hG hw9 hrc hrs hd (by rw [hR]; exact hR9)) ⟨fqPc_blind, va_recv hK.1 hw.1 hc (q0 := q) (by rw [fqW_get hq, hT]), fun U hU hW => ⟨rfl, by rw [hU], by rw [hU]; exact hw.1, hK.warm hW, hw.2.1.weaken (fun _ _ _ _ => trivial)⟩⟩ rfl hn hl.1 hst (lv_room hroom) hdg (by rw [hR]; exact hcs)) hw.2.2 (fun q _ h => fqA_in hw hA q h) (fqA_in hw hA) (fun r1 u t H1 locs ht hvm hp hB hz hk hS => by
    cases hp
    obtain ⟨hP1, hD1⟩ := hB
    rw [ht] at hP1
    exact k H1 locs ls ⟨hP1, hD1.weaken (fun _ q _ h => fqA_in hw hA q.1 h), hS⟩ hl)
theorem g_callSl {X : fqX} {rm : Room} {cy : Nat → ClassId} {cc : ByteArray} {nL : Nat} {Ts : List Cond} {own : String} {T : fqT} {Z : Nat → Nat} {ad : Nat → Nat} {n cells slots : Nat} {σ : fqS} {pc : Nat} {lv : List (Nat × Value)} {rest : List Value} (E : fqE X rm cy cc nL Ts own) {y : MethodName} {bytes : ByteArray} {maxL nn index : Nat} {ret : Option FieldType} {ws ws' : List Cond} {rmc : Room} (As : List Value) {r : Int64} {σ' : fqS} (hM : ∀ (l : Launch) (D : va_G) (sz : Nat), Met l y ws rmc (fqPc T Z D cy ad sz n σ (As)) (fqQl T Z D ad sz n σ r σ') 0 0 (fqA T Z ad sz n σ)) (hG : GoodIn Ts (va_wsS own index y ws)) (hw9 : ws = Cond.code y bytes maxL ret :: ws') (hrc : rmc.cells = 0) (hrs : rmc.slots = 0) (hd : y.cls ≠ "java/lang/invoke/MethodHandle" ∧ y.cls ≠ "java/lang/invoke/VarHandle" ∧ (parseMethodDescriptor y.desc).map (fun d => d.parameters.length) = some nn) (hR9 : rmc.frames + 1 ≤ rm.frames ∧ 8 + (maxL + 11) + rmc.locals ≤ rm.locals) (hn : As.length = nn) {st : List Value} (hst : st = As.reverse ++ rest) (hroom : (rest.map fun v => v.category).sum ≤ 8) (hdg : decode cc pc = .ok (.invokestatic index, 3)) (hcs : cells ≤ rm.cells ∧ slots ≤ rm.slots)
    (k : fqG X T Z ad n nL cells slots σ' (pc + 3) lv (.long r :: rest)) : fqG X T Z ad n nL cells slots σ pc lv (st) := by
  obtain ⟨p, l, e, R, s, m, args, below, meth, c, Q, D, A⟩ := X
  obtain ⟨⟨hx, hb, hml, hown, hts⟩, hK, hA, hR⟩ := E
  exact fun H locs ls hw hl => va_calll (va_runS (As := As) (rest := rest) ⟨hx, hb, hml, hown, hts⟩ (hM l D H.size) (va_cwS nn hts hG hw9 hrc hrs hd (by rw [hR]; exact hR9)) ⟨fqPc_blind, fun U hU hW => ⟨rfl, by rw [hU], by rw [hU]; exact hw.1, hK.warm hW, hw.2.1.weaken (fun _ _ _ _ => trivial)⟩⟩ rfl hn hl.1 hst (lv_room hroom) hdg (by rw [hR]; exact hcs)) hw.2.2 (fun q _ h => fqA_in hw hA q h) (fqA_in hw hA) (fun r1 u t H1 locs ht hvm hp hB hz hk hS => by
    cases hp
    obtain ⟨hP1, hD1⟩ := hB
    rw [ht] at hP1
    exact k H1 locs ls ⟨hP1, hD1.weaken (fun _ q _ h => fqA_in hw hA q.1 h), hS⟩ hl)
theorem g_callSi {X : fqX} {rm : Room} {cy : Nat → ClassId} {cc : ByteArray} {nL : Nat} {Ts : List Cond} {own : String} {T : fqT} {Z : Nat → Nat} {ad : Nat → Nat} {n cells slots : Nat} {σ : fqS} {pc : Nat} {lv : List (Nat × Value)} {rest : List Value} (E : fqE X rm cy cc nL Ts own) {y : MethodName} {bytes : ByteArray} {maxL nn index : Nat} {ret : Option FieldType} {ws ws' : List Cond} {rmc : Room} (As : List Value) {r : Int32} {σ' : fqS} (hM : ∀ (l : Launch) (D : va_G) (sz : Nat), Met l y ws rmc (fqPc T Z D cy ad sz n σ (As)) (fqQi T Z D ad sz n σ r σ') 0 0 (fqA T Z ad sz n σ)) (hG : GoodIn Ts (va_wsS own index y ws)) (hw9 : ws = Cond.code y bytes maxL ret :: ws') (hrc : rmc.cells = 0) (hrs : rmc.slots = 0) (hd : y.cls ≠ "java/lang/invoke/MethodHandle" ∧ y.cls ≠ "java/lang/invoke/VarHandle" ∧ (parseMethodDescriptor y.desc).map (fun d => d.parameters.length) = some nn) (hR9 : rmc.frames + 1 ≤ rm.frames ∧ 8 + (maxL + 11) + rmc.locals ≤ rm.locals) (hn : As.length = nn) {st : List Value} (hst : st = As.reverse ++ rest) (hroom : (rest.map fun v => v.category).sum ≤ 8) (hdg : decode cc pc = .ok (.invokestatic index, 3)) (hcs : cells ≤ rm.cells ∧ slots ≤ rm.slots)
    (k : fqG X T Z ad n nL cells slots σ' (pc + 3) lv (.int r :: rest)) : fqG X T Z ad n nL cells slots σ pc lv (st) := by
  obtain ⟨p, l, e, R, s, m, args, below, meth, c, Q, D, A⟩ := X
  obtain ⟨⟨hx, hb, hml, hown, hts⟩, hK, hA, hR⟩ := E
  exact fun H locs ls hw hl => va_calli (va_runS (As := As) (rest := rest) ⟨hx, hb, hml, hown, hts⟩ (hM l D H.size) (va_cwS nn hts hG hw9 hrc hrs hd (by rw [hR]; exact hR9)) ⟨fqPc_blind, fun U hU hW => ⟨rfl, by rw [hU], by rw [hU]; exact hw.1, hK.warm hW, hw.2.1.weaken (fun _ _ _ _ => trivial)⟩⟩ rfl hn hl.1 hst (lv_room hroom) hdg (by rw [hR]; exact hcs)) hw.2.2 (fun q _ h => fqA_in hw hA q h) (fqA_in hw hA) (fun r1 u t H1 locs ht hvm hp hB hz hk hS => by
    cases hp
    obtain ⟨hP1, hD1⟩ := hB
    rw [ht] at hP1
    exact k H1 locs ls ⟨hP1, hD1.weaken (fun _ q _ h => fqA_in hw hA q.1 h), hS⟩ hl)
theorem g_callSv {X : fqX} {rm : Room} {cy : Nat → ClassId} {cc : ByteArray} {nL : Nat} {Ts : List Cond} {own : String} {T : fqT} {Z : Nat → Nat} {ad : Nat → Nat} {n cells slots : Nat} {σ : fqS} {pc : Nat} {lv : List (Nat × Value)} {rest : List Value} (E : fqE X rm cy cc nL Ts own) {y : MethodName} {bytes : ByteArray} {maxL nn index : Nat} {ret : Option FieldType} {ws ws' : List Cond} {rmc : Room} (As : List Value) {σ' : fqS} (hM : ∀ (l : Launch) (D : va_G) (sz : Nat), Met l y ws rmc (fqPc T Z D cy ad sz n σ (As)) (fqQv T Z D ad sz n σ σ') 0 0 (fqA T Z ad sz n σ)) (hG : GoodIn Ts (va_wsS own index y ws)) (hw9 : ws = Cond.code y bytes maxL ret :: ws') (hrc : rmc.cells = 0) (hrs : rmc.slots = 0) (hd : y.cls ≠ "java/lang/invoke/MethodHandle" ∧ y.cls ≠ "java/lang/invoke/VarHandle" ∧ (parseMethodDescriptor y.desc).map (fun d => d.parameters.length) = some nn) (hR9 : rmc.frames + 1 ≤ rm.frames ∧ 8 + (maxL + 11) + rmc.locals ≤ rm.locals) (hn : As.length = nn) {st : List Value} (hst : st = As.reverse ++ rest) (hroom : (rest.map fun v => v.category).sum ≤ 8) (hdg : decode cc pc = .ok (.invokestatic index, 3)) (hcs : cells ≤ rm.cells ∧ slots ≤ rm.slots)
    (k : fqG X T Z ad n nL cells slots σ' (pc + 3) lv (rest)) : fqG X T Z ad n nL cells slots σ pc lv (st) := by
  obtain ⟨p, l, e, R, s, m, args, below, meth, c, Q, D, A⟩ := X
  obtain ⟨⟨hx, hb, hml, hown, hts⟩, hK, hA, hR⟩ := E
  exact fun H locs ls hw hl => va_callv (va_runS (As := As) (rest := rest) ⟨hx, hb, hml, hown, hts⟩ (hM l D H.size) (va_cwS nn hts hG hw9 hrc hrs hd (by rw [hR]; exact hR9)) ⟨fqPc_blind, fun U hU hW => ⟨rfl, by rw [hU], by rw [hU]; exact hw.1, hK.warm hW, hw.2.1.weaken (fun _ _ _ _ => trivial)⟩⟩ rfl hn hl.1 hst (lv_room hroom) hdg (by rw [hR]; exact hcs)) hw.2.2 (fun q _ h => fqA_in hw hA q h) (fqA_in hw hA) (fun u t H1 locs ht hvm hp hB hz hk hS => by
    obtain ⟨hP1, hD1⟩ := hB
    rw [ht] at hP1
    exact k H1 locs ls ⟨hP1, hD1.weaken (fun _ q _ h => fqA_in hw hA q.1 h), hS⟩ hl)
theorem g_callNl {X : fqX} {rm : Room} {cy : Nat → ClassId} {cc : ByteArray} {nL : Nat} {Ts : List Cond} {own : String} {T : fqT} {Z : Nat → Nat} {ad : Nat → Nat} {n cells slots : Nat} {σ : fqS} {pc : Nat} {lv : List (Nat × Value)} {rest : List Value} (E : fqE X rm cy cc nL Ts own) {y : MethodName} {bytes : ByteArray} {maxL nn index : Nat} {ret : Option FieldType} {ws ws' : List Cond} {rmc : Room} {host : String} (As : List Value) {r : Int64} {σ' : fqS} (hM : ∀ (l : Launch) (D : va_G) (sz : Nat), Met l y ws rmc (fqPc T Z D cy ad sz n σ (As)) (fqQl T Z D ad sz n σ r σ') 0 0 (fqA T Z ad sz n σ)) (hG : GoodIn Ts ws) (hw9 : ws = Cond.code y bytes maxL ret :: ws') (hrc : rmc.cells = 0) (hrs : rmc.slots = 0) (hlk : ∀ U : State, fqNw U → va_Nw (.methodLinkNest own index y host) U) (hini : Cond.initialized y.cls ∈ Ts) (hstt : Cond.static y ∈ Ts) (hd : y.cls ≠ "java/lang/invoke/MethodHandle" ∧ y.cls ≠ "java/lang/invoke/VarHandle" ∧ (parseMethodDescriptor y.desc).map (fun d => d.parameters.length) = some nn) (hR9 : rmc.frames + 1 ≤ rm.frames ∧ 8 + (maxL + 11) + rmc.locals ≤ rm.locals) (hn : As.length = nn) {st : List Value} (hst : st = As.reverse ++ rest) (hroom : (rest.map fun v => v.category).sum ≤ 8) (hdg : decode cc pc = .ok (.invokestatic index, 3)) (hcs : cells ≤ rm.cells ∧ slots ≤ rm.slots)
    (k : fqG X T Z ad n nL cells slots σ' (pc + 3) lv (.long r :: rest)) : fqG X T Z ad n nL cells slots σ pc lv (st) := by
  obtain ⟨p, l, e, R, s, m, args, below, meth, c, Q, D, A⟩ := X
  obtain ⟨⟨hx, hb, hml, hown, hts⟩, hK, hA, hR⟩ := E
  exact fun H locs ls hw hl => va_calll (va_runSN (As := As) (rest := rest) ⟨hx, hb, hml, hown, hts⟩ (hM l D H.size) ⟨va_cnB nn hts hG hw9 hrc hrs (hlk _ hK.2) (hts _ hini) hd (by rw [hR]; exact hR9), hts _ hstt, trivial⟩ ⟨fqPc_blind, fun U hU hW => ⟨rfl, by rw [hU], by rw [hU]; exact hw.1, hK.warm hW, hw.2.1.weaken (fun _ _ _ _ => trivial)⟩⟩ rfl hn hl.1 hst (lv_room hroom) hdg (by rw [hR]; exact hcs)) hw.2.2 (fun q _ h => fqA_in hw hA q h) (fqA_in hw hA) (fun r1 u t H1 locs ht hvm hp hB hz hk hS => by
    cases hp
    obtain ⟨hP1, hD1⟩ := hB
    rw [ht] at hP1
    exact k H1 locs ls ⟨hP1, hD1.weaken (fun _ q _ h => fqA_in hw hA q.1 h), hS⟩ hl)
theorem g_callNi {X : fqX} {rm : Room} {cy : Nat → ClassId} {cc : ByteArray} {nL : Nat} {Ts : List Cond} {own : String} {T : fqT} {Z : Nat → Nat} {ad : Nat → Nat} {n cells slots : Nat} {σ : fqS} {pc : Nat} {lv : List (Nat × Value)} {rest : List Value} (E : fqE X rm cy cc nL Ts own) {y : MethodName} {bytes : ByteArray} {maxL nn index : Nat} {ret : Option FieldType} {ws ws' : List Cond} {rmc : Room} {host : String} (As : List Value) {r : Int32} {σ' : fqS} (hM : ∀ (l : Launch) (D : va_G) (sz : Nat), Met l y ws rmc (fqPc T Z D cy ad sz n σ (As)) (fqQi T Z D ad sz n σ r σ') 0 0 (fqA T Z ad sz n σ)) (hG : GoodIn Ts ws) (hw9 : ws = Cond.code y bytes maxL ret :: ws') (hrc : rmc.cells = 0) (hrs : rmc.slots = 0) (hlk : ∀ U : State, fqNw U → va_Nw (.methodLinkNest own index y host) U) (hini : Cond.initialized y.cls ∈ Ts) (hstt : Cond.static y ∈ Ts) (hd : y.cls ≠ "java/lang/invoke/MethodHandle" ∧ y.cls ≠ "java/lang/invoke/VarHandle" ∧ (parseMethodDescriptor y.desc).map (fun d => d.parameters.length) = some nn) (hR9 : rmc.frames + 1 ≤ rm.frames ∧ 8 + (maxL + 11) + rmc.locals ≤ rm.locals) (hn : As.length = nn) {st : List Value} (hst : st = As.reverse ++ rest) (hroom : (rest.map fun v => v.category).sum ≤ 8) (hdg : decode cc pc = .ok (.invokestatic index, 3)) (hcs : cells ≤ rm.cells ∧ slots ≤ rm.slots)
    (k : fqG X T Z ad n nL cells slots σ' (pc + 3) lv (.int r :: rest)) : fqG X T Z ad n nL cells slots σ pc lv (st) := by
  obtain ⟨p, l, e, R, s, m, args, below, meth, c, Q, D, A⟩ := X
  obtain ⟨⟨hx, hb, hml, hown, hts⟩, hK, hA, hR⟩ := E
  exact fun H locs ls hw hl => va_calli (va_runSN (As := As) (rest := rest) ⟨hx, hb, hml, hown, hts⟩ (hM l D H.size) ⟨va_cnB nn hts hG hw9 hrc hrs (hlk _ hK.2) (hts _ hini) hd (by rw [hR]; exact hR9), hts _ hstt, trivial⟩ ⟨fqPc_blind, fun U hU hW => ⟨rfl, by rw [hU], by rw [hU]; exact hw.1, hK.warm hW, hw.2.1.weaken (fun _ _ _ _ => trivial)⟩⟩ rfl hn hl.1 hst (lv_room hroom) hdg (by rw [hR]; exact hcs)) hw.2.2 (fun q _ h => fqA_in hw hA q h) (fqA_in hw hA) (fun r1 u t H1 locs ht hvm hp hB hz hk hS => by
    cases hp
    obtain ⟨hP1, hD1⟩ := hB
    rw [ht] at hP1
    exact k H1 locs ls ⟨hP1, hD1.weaken (fun _ q _ h => fqA_in hw hA q.1 h), hS⟩ hl)
theorem g_callNv {X : fqX} {rm : Room} {cy : Nat → ClassId} {cc : ByteArray} {nL : Nat} {Ts : List Cond} {own : String} {T : fqT} {Z : Nat → Nat} {ad : Nat → Nat} {n cells slots : Nat} {σ : fqS} {pc : Nat} {lv : List (Nat × Value)} {rest : List Value} (E : fqE X rm cy cc nL Ts own) {y : MethodName} {bytes : ByteArray} {maxL nn index : Nat} {ret : Option FieldType} {ws ws' : List Cond} {rmc : Room} {host : String} (As : List Value) {σ' : fqS} (hM : ∀ (l : Launch) (D : va_G) (sz : Nat), Met l y ws rmc (fqPc T Z D cy ad sz n σ (As)) (fqQv T Z D ad sz n σ σ') 0 0 (fqA T Z ad sz n σ)) (hG : GoodIn Ts ws) (hw9 : ws = Cond.code y bytes maxL ret :: ws') (hrc : rmc.cells = 0) (hrs : rmc.slots = 0) (hlk : ∀ U : State, fqNw U → va_Nw (.methodLinkNest own index y host) U) (hini : Cond.initialized y.cls ∈ Ts) (hstt : Cond.static y ∈ Ts) (hd : y.cls ≠ "java/lang/invoke/MethodHandle" ∧ y.cls ≠ "java/lang/invoke/VarHandle" ∧ (parseMethodDescriptor y.desc).map (fun d => d.parameters.length) = some nn) (hR9 : rmc.frames + 1 ≤ rm.frames ∧ 8 + (maxL + 11) + rmc.locals ≤ rm.locals) (hn : As.length = nn) {st : List Value} (hst : st = As.reverse ++ rest) (hroom : (rest.map fun v => v.category).sum ≤ 8) (hdg : decode cc pc = .ok (.invokestatic index, 3)) (hcs : cells ≤ rm.cells ∧ slots ≤ rm.slots)
    (k : fqG X T Z ad n nL cells slots σ' (pc + 3) lv (rest)) : fqG X T Z ad n nL cells slots σ pc lv (st) := by
  obtain ⟨p, l, e, R, s, m, args, below, meth, c, Q, D, A⟩ := X
  obtain ⟨⟨hx, hb, hml, hown, hts⟩, hK, hA, hR⟩ := E
  exact fun H locs ls hw hl => va_callv (va_runSN (As := As) (rest := rest) ⟨hx, hb, hml, hown, hts⟩ (hM l D H.size) ⟨va_cnB nn hts hG hw9 hrc hrs (hlk _ hK.2) (hts _ hini) hd (by rw [hR]; exact hR9), hts _ hstt, trivial⟩ ⟨fqPc_blind, fun U hU hW => ⟨rfl, by rw [hU], by rw [hU]; exact hw.1, hK.warm hW, hw.2.1.weaken (fun _ _ _ _ => trivial)⟩⟩ rfl hn hl.1 hst (lv_room hroom) hdg (by rw [hR]; exact hcs)) hw.2.2 (fun q _ h => fqA_in hw hA q h) (fqA_in hw hA) (fun u t H1 locs ht hvm hp hB hz hk hS => by
    obtain ⟨hP1, hD1⟩ := hB
    rw [ht] at hP1
    exact k H1 locs ls ⟨hP1, hD1.weaken (fun _ q _ h => fqA_in hw hA q.1 h), hS⟩ hl)
end FQR
