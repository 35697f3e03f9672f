/-! the law's own rows: two worlds beside each other, and the script -/
theorem lw_PL {D : va_G} {U V : va_W} {H : Heap} (h : va_P D vwCl (U ++ V) H) : va_P D vwCl U H := fun k q hq => h k q (by rw [List.getElem?_append_left (List.getElem?_eq_some_iff.mp hq).1]; exact hq)
theorem lw_PR {D : va_G} {U V : va_W} {H : Heap} (h : va_P D vwCl (U ++ V) H) : va_P D vwCl V H := fun k q hq => h (U.length + k) q (by rw [List.getElem?_append_right (by omega), Nat.add_sub_cancel_left]; exact hq)
theorem lw_DL {A : Nat → Prop} {U V : va_W} (h : va_D A (U ++ V)) : va_D A U := ⟨fun i j p q hp hq e => h.1 i j p q (by rw [List.getElem?_append_left (List.getElem?_eq_some_iff.mp hp).1]; exact hp) (by rw [List.getElem?_append_left (List.getElem?_eq_some_iff.mp hq).1]; exact hq) e, fun k q hq => h.2 k q (by rw [List.getElem?_append_left (List.getElem?_eq_some_iff.mp hq).1]; exact hq)⟩
theorem lw_DR {A : Nat → Prop} {U V : va_W} (h : va_D A (U ++ V)) : va_D A V := ⟨fun i j p q hp hq e => by
  have := h.1 (U.length + i) (U.length + j) p q (by rw [List.getElem?_append_right (by omega), Nat.add_sub_cancel_left]; exact hp) (by rw [List.getElem?_append_right (by omega), Nat.add_sub_cancel_left]; exact hq) e
  omega, fun k q hq => h.2 (U.length + k) q (by rw [List.getElem?_append_right (by omega), Nat.add_sub_cancel_left]; exact hq)⟩
theorem lw_DX {A : Nat → Prop} {U V : va_W} (h : va_D A (U ++ V)) : ∀ (i j : Nat) (x y : Nat × va_E), U[i]? = some x → V[j]? = some y → x.1 ≠ y.1 := fun i j x y hx hy e => by
  have hi := (List.getElem?_eq_some_iff.mp hx).1
  have := h.1 i (U.length + j) x y (by rw [List.getElem?_append_left hi]; exact hx) (by rw [List.getElem?_append_right (by omega), Nat.add_sub_cancel_left]; exact hy) e
  omega
theorem lw_out {A : Nat → Prop} {D : va_G} {U V : va_W} {H : Heap} (hP : va_P D vwCl V H) (hX : ∀ (i j : Nat) (x y : Nat × va_E), U[i]? = some x → V[j]? = some y → x.1 ≠ y.1) : ∀ (j : Nat) (y : Nat × va_E), V[j]? = some y → y.1 < H.size ∧ ¬ va_A U H.size y.1 := fun j y hy => by
  have hl := (hP j y hy).lt
  refine ⟨hl, fun h => ?_⟩
  rcases h with ⟨k, e, h⟩ | h
  · exact hX k j _ y h hy rfl
  · omega
theorem lw_swapL {A : Nat → Prop} {D : va_G} {U V U' : va_W} {H H1 : Heap} (hP : va_P D vwCl (U ++ V) H) (hD : va_D A (U ++ V)) (hk : ∀ q : Nat, q < H.size → ¬ va_A U H.size q → H1[q]? = H[q]?) (hF : ∀ q, va_A U H.size q → A q) (hP1 : va_P D vwCl U' H1) (hD1 : va_D (va_A U H.size) U') : va_P D vwCl (U' ++ V) H1 ∧ va_D A (U' ++ V) := by
  have ho := lw_out (A := A) (lw_PR hP) (lw_DX hD)
  refine ⟨va_P.app hP1 (fun j y hy => (lw_PR hP j y hy).kept (hk y.1 (ho j y hy).1 (ho j y hy).2)), va_D.app (hD1.weaken (fun _ q _ h => hF q.1 h)) (lw_DR hD) (fun i j x y hx hy e => (ho j y hy).2 (by rw [← e]; exact hD1.2 i x hx))⟩
theorem lw_swapR {A : Nat → Prop} {D : va_G} {U V V' : va_W} {H H1 : Heap} (hP : va_P D vwCl (U ++ V) H) (hD : va_D A (U ++ V)) (hk : ∀ q : Nat, q < H.size → ¬ va_A V H.size q → H1[q]? = H[q]?) (hF : ∀ q, va_A V H.size q → A q) (hP1 : va_P D vwCl V' H1) (hD1 : va_D (va_A V H.size) V') : va_P D vwCl (U ++ V') H1 ∧ va_D A (U ++ V') := by
  have ho := lw_out (A := A) (U := V) (V := U) (lw_PL hP) (fun i j x y hx hy e => lw_DX hD j i y x hy hx e.symm)
  refine ⟨va_P.app (fun j y hy => (lw_PL hP j y hy).kept (hk y.1 (ho j y hy).1 (ho j y hy).2)) hP1, va_D.app (lw_DL hD) (hD1.weaken (fun _ q _ h => hF q.1 h)) (fun i j x y hx hy e => (ho i x hx).2 (by rw [e]; exact hD1.2 j y hy))⟩
theorem lw_free {A : Nat → Prop} {U : va_W} {H0 H : Heap} {locs : List Loc} (hD : va_D A U) (hS : va_S A H0 H locs) (hA : ∀ q : Nat, H0.size ≤ q → A q) : ∀ q : Nat, va_A U H.size q → A q := fun q h => by
  rcases h with ⟨k, e, h⟩ | h
  · exact hD.2 k _ h
  · exact hA q (Nat.le_trans hS.1 h)
/-- the script -/
def lwS (X : fqX) (b L : Nat) (xs : Nat → Int32) : Prop := match X with
  | (_, _, _, _, s, _, _, _, _, _, _, _, A) => va_X b L xs s s.heap ∧ b < s.heap.size ∧ ¬ A b
theorem h_sload {X : fqX} {rm : Room} {cy : Nat → ClassId} {cc : ByteArray} {nL : Nat} {Ts : List Cond} {own : String} {cells slots : Nat} {wl : va_W} {pc : Nat} {lv : List (Nat × Value)} {rest : List Value} (E : fqE X rm cy cc nL Ts own) {b L : Nat} {xs : Nat → Int32} (S : lwS X b L xs) {x : Int32} (j : Nat) (hj : j < L) (hL : L < 2 ^ 31) (hx9 : x = nI j) (hdg : decode cc pc = .ok (.iaload, 1)) (k : fqH X nL cells slots wl (pc + 1) lv (.int (xs j) :: rest)) : fqH X nL cells slots wl pc lv (.int x :: .ref b :: rest) := by
  obtain ⟨p, l, e, R, s, m, args, below, meth, c, Q, D, A⟩ := X
  obtain ⟨⟨hx, hb, hml, hown, hts⟩, hK, hA, hR⟩ := E
  subst hx9
  have hk : fqH (p, l, e, R, s, m, args, below, meth, c, Q, D, A) nL cells slots wl (pc + 1) lv (.int (xs (nI j).toNatClampNeg) :: rest) := by
    rw [nI_clamp (by omega)]
    exact k
  exact fun H locs ls hw hl => va_sld hx hb S.1 S.2.1 S.2.2 hw.2.2 (vp_in_nI hj hL) hdg (hk H locs ls hw hl)
theorem h_slen {X : fqX} {rm : Room} {cy : Nat → ClassId} {cc : ByteArray} {nL : Nat} {Ts : List Cond} {own : String} {cells slots : Nat} {wl : va_W} {pc : Nat} {lv : List (Nat × Value)} {rest : List Value} (E : fqE X rm cy cc nL Ts own) {b L : Nat} {xs : Nat → Int32} (S : lwS X b L xs) (hdg : decode cc pc = .ok (.arraylength, 1)) (k : fqH X nL cells slots wl (pc + 1) lv (.int (nI L) :: rest)) : fqH X nL cells slots wl pc lv (.ref b :: rest) := by
  obtain ⟨p, l, e, R, s, m, args, below, meth, c, Q, D, A⟩ := X
  obtain ⟨⟨hx, hb, hml, hown, hts⟩, hK, hA, hR⟩ := E
  exact fun H locs ls hw hl => va_slen hx hb S.1 S.2.1 S.2.2 hw.2.2 hdg (k H locs ls hw hl)
theorem l_callX {X : fqX} {rm : Room} {cy : Nat → ClassId} {cc : ByteArray} {nL : Nat} {Ts : List Cond} {own : String} {cells slots : Nat} {V : va_W} {adX : Nat → Nat} {n : Nat} {σ : fqS} {pc : Nat} {lv : List (Nat × Value)} {rest : List Value} (E : fqE X rm cy cc nL Ts own) {y : MethodName} {bytes : ByteArray} {maxL nn index : Nat} {ret : Option FieldType} {ws ws' : List Cond} {rmc : Room} {a0 : Nat} (ha : adX 0 = a0) (As : List Value) {r : Int64} {σ' : fqS} (hM : ∀ (l : Launch) (D : va_G) (sz : Nat), Met l y ws rmc (fqPc (TX cy) ZX D cy adX sz n σ (.ref (adX 0) :: As)) (fqQl (TX cy) ZX D adX sz n σ r σ') 0 0 (fqA (TX cy) ZX adX sz n σ)) (hG : GoodIn Ts (wsV own index RX8 y ws)) (hw9 : ws = Cond.code y bytes maxL ret :: ws') (hrc : rmc.cells = 0) (hrs : rmc.slots = 0) (hd : y.cls = RX8 ∧ y.cls ≠ "java/lang/invoke/MethodHandle" ∧ y.cls ≠ "java/lang/invoke/VarHandle" ∧ (parseMethodDescriptor y.desc).map (fun d => d.parameters.length) = some nn) (hR9 : rmc.frames + 1 ≤ rm.frames ∧ 8 + (maxL + 11) + rmc.locals ≤ rm.locals) (hn : As.length = nn) {st : List Value} (hst : st = As.reverse ++ .ref a0 :: rest) (hroom : (rest.map fun v => v.category).sum ≤ 8) (hdg : decode cc pc = .ok (.invokevirtual index, 3)) (hcs : cells ≤ rm.cells ∧ slots ≤ rm.slots)
    (k : fqH X nL cells slots (fqW (TX cy) ZX adX n σ' ++ V) (pc + 3) lv (.long r :: rest)) : fqH X nL cells slots (fqW (TX cy) ZX adX n σ ++ V) pc lv st := by
  obtain ⟨p, l, e, R, s, m, args, below, meth, c, Q, D, A⟩ := X
  obtain ⟨⟨hx, hb, hml, hown, hts⟩, hK, hA, hR⟩ := E
  subst ha
  exact fun H locs ls hw hl => va_calll (va_runV (As := As) (rest := rest) ⟨hx, hb, hml, hown, hts⟩ (hM l D H.size) (cwV nn hts hG hw9 hrc hrs hd (by rw [hR]; exact hR9)) ⟨fqPc_blind, va_recv hK.1 (lw_PL hw.1) (ci := 8) (q := (RX8, TX8, 13)) rfl (q0 := 0) (by rw [fqW_get (zx_l (by decide))]; rfl), fun U hU hW => ⟨rfl, by rw [hU], by rw [hU]; exact lw_PL hw.1, hK.warm hW, (lw_DL hw.2.1).weaken (fun _ _ _ _ => trivial)⟩⟩ rfl hn hl.1 hst (lv_room hroom) hdg (by rw [hR]; exact hcs)) hw.2.2 (fun q _ h => lw_free (lw_DL hw.2.1) hw.2.2 hA q h) (lw_free (lw_DL hw.2.1) hw.2.2 hA) (fun r1 u t H1 locs ht hvm hp hB hz hk hS => by
    cases hp
    obtain ⟨hP1, hD1⟩ := hB
    rw [ht] at hP1
    obtain ⟨h1, h2⟩ := lw_swapL hw.1 hw.2.1 hk (lw_free (lw_DL hw.2.1) hw.2.2 hA) hP1 hD1
    exact k H1 locs ls ⟨h1, h2, hS⟩ hl)
theorem l_callP {X : fqX} {rm : Room} {cy : Nat → ClassId} {cc : ByteArray} {nL : Nat} {Ts : List Cond} {own : String} {cells slots : Nat} {V : va_W} {adX : Nat → Nat} {n : Nat} {σ : fqS} {pc : Nat} {lv : List (Nat × Value)} {rest : List Value} (E : fqE X rm cy cc nL Ts own) {y : MethodName} {bytes : ByteArray} {maxL nn index mc ms : Nat} {ret : Option FieldType} {ws ws' : List Cond} {rmc : Room} {a0 : Nat} (ha : adX 0 = a0) (As : List Value) {post : Int64 → ((Nat → Nat) × Nat × fqS) → Prop} (hM : ∀ (l : Launch) (D : va_G) (sz : Nat), Met l y ws rmc (fqPc (TX cy) ZX D cy adX sz n σ (.ref (adX 0) :: As)) (faQl D cy adX sz n σ post) mc ms (fqA (TX cy) ZX adX sz n σ)) (hG : GoodIn Ts (wsV own index RX8 y ws)) (hw9 : ws = Cond.code y bytes maxL ret :: ws') (hrc : rmc.cells = mc) (hrs : rmc.slots = ms) (hd : y.cls = RX8 ∧ y.cls ≠ "java/lang/invoke/MethodHandle" ∧ y.cls ≠ "java/lang/invoke/VarHandle" ∧ (parseMethodDescriptor y.desc).map (fun d => d.parameters.length) = some nn) (hR9 : rmc.frames + 1 ≤ rm.frames ∧ 8 + (maxL + 11) + rmc.locals ≤ rm.locals) (hn : As.length = nn) {st : List Value} (hst : st = As.reverse ++ .ref a0 :: rest) (hroom : (rest.map fun v => v.category).sum ≤ 8) (hdg : decode cc pc = .ok (.invokevirtual index, 3)) (hcs : cells + mc ≤ rm.cells ∧ slots + ms ≤ rm.slots)
    (k : ∀ (r : Int64) (u : (Nat → Nat) × Nat × fqS), post r u → fqH X nL (cells + mc) (slots + ms) (fqW (TX cy) ZX u.1 u.2.1 u.2.2 ++ V) (pc + 3) lv (.long r :: rest)) : fqH X nL cells slots (fqW (TX cy) ZX adX n σ ++ V) pc lv st := by
  obtain ⟨p, l, e, R, s, m, args, below, meth, c, Q, D, A⟩ := X
  obtain ⟨⟨hx, hb, hml, hown, hts⟩, hK, hA, hR⟩ := E
  subst ha
  exact fun H locs ls hw hl => va_calll (va_runV (As := As) (rest := rest) ⟨hx, hb, hml, hown, hts⟩ (hM l D H.size) (cwV nn hts hG hw9 hrc hrs hd (by rw [hR]; exact hR9)) ⟨fqPc_blind, va_recv hK.1 (lw_PL hw.1) (ci := 8) (q := (RX8, TX8, 13)) rfl (q0 := 0) (by rw [fqW_get (zx_l (by decide))]; rfl), fun U hU hW => ⟨rfl, by rw [hU], by rw [hU]; exact lw_PL hw.1, hK.warm hW, (lw_DL hw.2.1).weaken (fun _ _ _ _ => trivial)⟩⟩ rfl hn hl.1 hst (lv_room hroom) hdg (by rw [hR]; exact hcs)) hw.2.2 (fun q _ h => lw_free (lw_DL hw.2.1) hw.2.2 hA q h) (lw_free (lw_DL hw.2.1) hw.2.2 hA) (fun r1 u t H1 locs ht hvm hp hB hz hk hS => by
    obtain ⟨hP1, hD1⟩ := hB
    rw [ht] at hP1
    obtain ⟨h1, h2⟩ := lw_swapL hw.1 hw.2.1 hk (lw_free (lw_DL hw.2.1) hw.2.2 hA) hP1 hD1
    exact k r1 u hp H1 locs ls ⟨h1, h2, hS⟩ hl)
theorem l_callM {X : fqX} {rm : Room} {cy : Nat → ClassId} {cc : ByteArray} {nL : Nat} {Ts : List Cond} {own : String} {cells slots : Nat} {U : va_W} {adM : Nat → Nat} {σ : fqS} {pc : Nat} {lv : List (Nat × Value)} {rest : List Value} (E : fqE X rm cy cc nL Ts own) {y : MethodName} {bytes : ByteArray} {maxL nn index : Nat} {ret : Option FieldType} {ws ws' : List Cond} {rmc : Room} (As : List Value) {r : Int64} {σ' : fqS} (hM : ∀ (l : Launch) (D : va_G) (sz : Nat), Met l y ws rmc (fqPc (TM cy) ZM D cy adM sz 0 σ (.ref (adM 0) :: As)) (fqQl (TM cy) ZM D adM sz 0 σ r σ') 0 0 (fqA (TM cy) ZM adM sz 0 σ)) (hG : GoodIn Ts (wsV own index RX9 y ws)) (hw9 : ws = Cond.code y bytes maxL ret :: ws') (hrc : rmc.cells = 0) (hrs : rmc.slots = 0) (hd : y.cls = RX9 ∧ y.cls ≠ "java/lang/invoke/MethodHandle" ∧ y.cls ≠ "java/lang/invoke/VarHandle" ∧ (parseMethodDescriptor y.desc).map (fun d => d.parameters.length) = some nn) (hR9 : rmc.frames + 1 ≤ rm.frames ∧ 8 + (maxL + 11) + rmc.locals ≤ rm.locals) (hn : As.length = nn) {st : List Value} (hst : st = As.reverse ++ .ref (adM 0) :: rest) (hroom : (rest.map fun v => v.category).sum ≤ 8) (hdg : decode cc pc = .ok (.invokevirtual index, 3)) (hcs : cells ≤ rm.cells ∧ slots ≤ rm.slots)
    (k : fqH X nL cells slots (U ++ fqW (TM cy) ZM adM 0 σ') (pc + 3) lv (.long r :: rest)) : fqH X nL cells slots (U ++ fqW (TM cy) ZM adM 0 σ) pc lv st := by
  obtain ⟨p, l, e, R, s, m, args, below, meth, c, Q, D, A⟩ := X
  obtain ⟨⟨hx, hb, hml, hown, hts⟩, hK, hA, hR⟩ := E
  exact fun H locs ls hw hl => va_calll (va_runV (As := As) (rest := rest) ⟨hx, hb, hml, hown, hts⟩ (hM l D H.size) (cwV nn hts hG hw9 hrc hrs hd (by rw [hR]; exact hR9)) ⟨fqPc_blind, va_recv hK.1 (lw_PR hw.1) (ci := 9) (q := (RX9, TX9, 33)) rfl (q0 := 0) (by rw [fqW_get (zm_l (by decide))]; rfl), fun U hU hW => ⟨rfl, by rw [hU], by rw [hU]; exact lw_PR hw.1, hK.warm hW, (lw_DR hw.2.1).weaken (fun _ _ _ _ => trivial)⟩⟩ rfl hn hl.1 hst (lv_room hroom) hdg (by rw [hR]; exact hcs)) hw.2.2 (fun q _ h => lw_free (lw_DR hw.2.1) hw.2.2 hA q h) (lw_free (lw_DR hw.2.1) hw.2.2 hA) (fun r1 u t H1 locs ht hvm hp hB hz hk hS => by
    cases hp
    obtain ⟨hP1, hD1⟩ := hB
    rw [ht] at hP1
    obtain ⟨h1, h2⟩ := lw_swapR hw.1 hw.2.1 hk (lw_free (lw_DR hw.2.1) hw.2.2 hA) hP1 hD1
    exact k H1 locs ls ⟨h1, h2, hS⟩ hl)

theorem lw_add (a k : Nat) (c : Int32) (h : c = nI k) : nI a + c = nI (a + k) := by rw [h, nI_add]
def lwS_player (Rel : Nat → Nat → fqS → fqS → Prop) (K : Nat) : Prop := ∀ (t n : Nat) (sx sm : fqS) (x1 : Int32), t < 512 → Rel t n sx sm → ∃ (r : Int64) (n' : Nat) (sx' sm' : fqS), pX8_player K n sx x1 = some (r, n', sx') ∧ pX9_player K 0 sm x1 = some (r, sm') ∧ Rel (t + 1) n' sx' sm'
def lwS_become (Rel : Nat → Nat → fqS → fqS → Prop) (K : Nat) : Prop := ∀ (t n : Nat) (sx sm : fqS) (x1 : Int32) (x2 : Int32), t < 512 → Rel t n sx sm → ∃ (r : Int64) (sx' sm' : fqS), pX8_become K n sx x1 x2 = some (r, sx') ∧ pX9_become K 0 sm x1 x2 = some (r, sm') ∧ Rel (t + 1) n sx' sm'
def lwS_as (Rel : Nat → Nat → fqS → fqS → Prop) (K : Nat) : Prop := ∀ (t n : Nat) (sx sm : fqS) (x1 : Int32) (x2 : Int32), t < 512 → Rel t n sx sm → ∃ (r : Int64) (sx' sm' : fqS), pX8_as K n sx x1 x2 = some (r, sx') ∧ pX9_as K 0 sm x1 x2 = some (r, sm') ∧ Rel (t + 1) n sx' sm'
def lwS_share (Rel : Nat → Nat → fqS → fqS → Prop) (K : Nat) : Prop := ∀ (t n : Nat) (sx sm : fqS) (x1 : Int32) (x2 : Int32), t < 512 → Rel t n sx sm → ∃ (r : Int64) (sx' sm' : fqS), pX8_share K n sx x1 x2 = some (r, sx') ∧ pX9_share K 0 sm x1 x2 = some (r, sm') ∧ Rel (t + 1) n sx' sm'
def lwS_shift (Rel : Nat → Nat → fqS → fqS → Prop) (K : Nat) : Prop := ∀ (t n : Nat) (sx sm : fqS) (x1 : Int32) (x2 : Int32) (x3 : Int32) (x4 : Int32), t < 512 → Rel t n sx sm → ∃ (r : Int64) (sx' sm' : fqS), pX8_shift K n sx x1 x2 x3 x4 = some (r, sx') ∧ pX9_shift K 0 sm x1 x2 x3 x4 = some (r, sm') ∧ Rel (t + 1) n sx' sm'
def lwS_mean (Rel : Nat → Nat → fqS → fqS → Prop) (K : Nat) : Prop := ∀ (t n : Nat) (sx sm : fqS) (x1 : Int32), t < 512 → Rel t n sx sm → ∃ (r : Int64) (sx' sm' : fqS), pX8_mean K n sx x1 = some (r, sx') ∧ pX9_mean K 0 sm x1 = some (r, sm') ∧ Rel (t + 1) n sx' sm'
def lwS_chance (Rel : Nat → Nat → fqS → fqS → Prop) (K : Nat) : Prop := ∀ (t n : Nat) (sx sm : fqS) (x1 : Int32) (x2 : Int32), t < 512 → Rel t n sx sm → ∃ (r : Int64) (sx' sm' : fqS), pX8_chance K n sx x1 x2 = some (r, sx') ∧ pX9_chance K 0 sm x1 x2 = some (r, sm') ∧ Rel (t + 1) n sx' sm'
def lwS_season (Rel : Nat → Nat → fqS → fqS → Prop) (K : Nat) : Prop := ∀ (t n : Nat) (sx sm : fqS), t < 512 → Rel t n sx sm → ∃ (r : Int64) (sx' sm' : fqS), pX8_season K n sx = some (r, sx') ∧ pX9_season K 0 sm = some (r, sm') ∧ Rel (t + 1) n sx' sm'
def lwS_size (Rel : Nat → Nat → fqS → fqS → Prop) (K : Nat) : Prop := ∀ (t n : Nat) (sx sm : fqS) (x1 : Int32), t < 512 → Rel t n sx sm → ∃ (r : Int64) (sx' sm' : fqS), pX8_size K n sx x1 = some (r, sx') ∧ pX9_size K 0 sm x1 = some (r, sm') ∧ Rel (t + 1) n sx' sm'
def lwS_bounds (Rel : Nat → Nat → fqS → fqS → Prop) (K : Nat) : Prop := ∀ (t n : Nat) (sx sm : fqS) (x1 : Int32) (x2 : Int32) (x3 : Int32), t < 512 → Rel t n sx sm → ∃ (r : Int64) (sx' sm' : fqS), pX8_bounds K n sx x1 x2 x3 = some (r, sx') ∧ pX9_bounds K 0 sm x1 x2 x3 = some (r, sm') ∧ Rel (t + 1) n sx' sm'
def lwS_wait (Rel : Nat → Nat → fqS → fqS → Prop) (K : Nat) : Prop := ∀ (t n : Nat) (sx sm : fqS) (x1 : Int32) (x2 : Int32) (x3 : Int32), t < 512 → Rel t n sx sm → ∃ (r : Int64) (sx' sm' : fqS), pX8_wait K n sx x1 x2 x3 = some (r, sx') ∧ pX9_wait K 0 sm x1 x2 x3 = some (r, sm') ∧ Rel (t + 1) n sx' sm'
def lwS_leave (Rel : Nat → Nat → fqS → fqS → Prop) (K : Nat) : Prop := ∀ (t n : Nat) (sx sm : fqS) (x1 : Int32), t < 512 → Rel t n sx sm → ∃ (r : Int64) (sx' sm' : fqS), pX8_leave K n sx x1 = some (r, sx') ∧ pX9_leave K 0 sm x1 = some (r, sm') ∧ Rel (t + 1) n sx' sm'
def lwS_waited (Rel : Nat → Nat → fqS → fqS → Prop) (K : Nat) : Prop := ∀ (t n : Nat) (sx sm : fqS) (x1 : Int32) (x2 : Int32), t < 512 → Rel t n sx sm → (x2 = 0 ∨ x2 = 1) → ∃ (r : Int64) (sx' sm' : fqS), pX8_waited K n sx x1 x2 = some (r, sx') ∧ pX9_waited K 0 sm x1 x2 = some (r, sm') ∧ Rel (t + 1) n sx' sm'
def lwS_pairing (Rel : Nat → Nat → fqS → fqS → Prop) (K : Nat) : Prop := ∀ (t n : Nat) (sx sm : fqS) (x1 : Int32) (x2 : Int32), t < 512 → Rel t n sx sm → ∃ (r : Int64) (sx' sm' : fqS), pX8_pairing K n sx x1 x2 = some (r, sx') ∧ pX9_pairing K 0 sm x1 x2 = some (r, sm') ∧ Rel (t + 1) n sx' sm'
def lwS_tick (Rel : Nat → Nat → fqS → fqS → Prop) (K : Nat) : Prop := ∀ (t n : Nat) (sx sm : fqS), t < 512 → Rel t n sx sm → ∃ (r : Int64) (sx' sm' : fqS), pX8_tick K n sx = some (r, sx') ∧ pX9_tick K 0 sm = some (r, sm') ∧ Rel (t + 1) n sx' sm'
def lwS_match (Rel : Nat → Nat → fqS → fqS → Prop) (K : Nat) : Prop := ∀ (t n : Nat) (sx sm : fqS) (x1 : Int32) (x2 : Int32), t < 512 → Rel t n sx sm → ∃ (r : Int64) (sx' sm' : fqS), pX8_match K n sx x1 x2 = some (r, sx') ∧ pX9_match K 0 sm x1 x2 = some (r, sm') ∧ Rel (t + 1) n sx' sm'
def lwS_end (Rel : Nat → Nat → fqS → fqS → Prop) (K : Nat) : Prop := ∀ (t n : Nat) (sx sm : fqS) (x1 : Int32) (x2 : Int32), t < 512 → Rel t n sx sm → ∃ (r : Int64) (sx' sm' : fqS), pX8_end K n sx x1 x2 = some (r, sx') ∧ pX9_end K 0 sm x1 x2 = some (r, sm') ∧ Rel (t + 1) n sx' sm'
def lwS_drop (Rel : Nat → Nat → fqS → fqS → Prop) (K : Nat) : Prop := ∀ (t n : Nat) (sx sm : fqS) (x1 : Int32), t < 512 → Rel t n sx sm → ∃ (r : Int64) (sx' sm' : fqS), pX8_drop K n sx x1 = some (r, sx') ∧ pX9_drop K 0 sm x1 = some (r, sm') ∧ Rel (t + 1) n sx' sm'
def lwS_surprise (Rel : Nat → Nat → fqS → fqS → Prop) (K : Nat) : Prop := ∀ (t n : Nat) (sx sm : fqS) (x1 : Int32) (x2 : Int32), t < 512 → Rel t n sx sm → ∃ (r : Int64) (sx' sm' : fqS), pX8_surprise K n sx x1 x2 = some (r, sx') ∧ pX9_surprise K 0 sm x1 x2 = some (r, sm') ∧ Rel (t + 1) n sx' sm'
def lwS_sinking (Rel : Nat → Nat → fqS → fqS → Prop) (K : Nat) : Prop := ∀ (t n : Nat) (sx sm : fqS), t < 512 → Rel t n sx sm → ∃ (r : Int64), pX8_sinking K n sx = some r ∧ pX9_sinking K 0 sm = some r ∧ Rel (t + 1) n sx sm
def lwS_limit (Rel : Nat → Nat → fqS → fqS → Prop) (K : Nat) : Prop := ∀ (t n : Nat) (sx sm : fqS) (x1 : Int32), t < 512 → Rel t n sx sm → ∃ (r : Int64) (sx' sm' : fqS), pX8_limit K n sx x1 = some (r, sx') ∧ pX9_limit K 0 sm x1 = some (r, sm') ∧ Rel (t + 1) n sx' sm'
def lwS_tell (Rel : Nat → Nat → fqS → fqS → Prop) (K : Nat) : Prop := ∀ (t n : Nat) (sx sm : fqS) (x1 : Int32), t < 512 → Rel t n sx sm → ∃ (r : Int64) (sx' sm' : fqS), pX8_tell K n sx x1 = some (r, sx') ∧ pX9_tell K 0 sm x1 = some (r, sm') ∧ Rel (t + 1) n sx' sm'
def lwS_check (Rel : Nat → Nat → fqS → fqS → Prop) (K : Nat) : Prop := ∀ (t n : Nat) (sx sm : fqS), t < 512 → Rel t n sx sm → ∃ (r : Int64) (sx' sm' : fqS), pX8_check K n sx = some (r, sx') ∧ pX9_check K 0 sm = some (r, sm') ∧ Rel (t + 1) n sx' sm'
def lwS_count (Rel : Nat → Nat → fqS → fqS → Prop) (K : Nat) : Prop := ∀ (t n : Nat) (sx sm : fqS) (x1 : Int32), t < 512 → Rel t n sx sm → ∃ (r : Int64) (sx' sm' : fqS), pX8_count K n sx x1 = some (r, sx') ∧ pX9_count K 0 sm x1 = some (r, sm') ∧ Rel (t + 1) n sx' sm'
def lwS_found (Rel : Nat → Nat → fqS → fqS → Prop) (K : Nat) : Prop := ∀ (t n : Nat) (sx sm : fqS) (x1 : Int32), t < 512 → Rel t n sx sm → ∃ (r : Int64) (sx' sm' : fqS), pX8_found K n sx x1 = some (r, sx') ∧ pX9_found K 0 sm x1 = some (r, sm') ∧ Rel (t + 1) n sx' sm'
set_option maxRecDepth 100000 in
def lwBase (Rel : Nat → Nat → fqS → fqS → Prop) : Prop := (∀ (t n : Nat) (sx sm : fqS), Rel t n sx sm → n ≤ 16 ∧ fqI sx 1 2 = nI n) ∧ (∀ (t n : Nat) (sx sm : fqS), t < 512 → Rel t n sx sm → Rel (t + 1) n sx sm) ∧ Rel 0 0 fq_sX8 fq_sX9
set_option maxRecDepth 100000 in
set_option maxHeartbeats 4000000 in
theorem lw_case_0 {X : fqX} {cy : Nat → ClassId} {adX adM : Nat → Nat} {n : Nat} {sx sm : fqS} {b L : Nat} {xs : Nat → Int32} {cells slots t a0 : Nat} {Rel : Nat → Nat → fqS → fqS → Prop} {K : Nat} (E : fqE X room_1 cy cL_law 4 wsL_law RL) (S : lwS X b L xs) (hL : L ≤ 2560) (hi : 5 * t + 5 ≤ L) (ha : adX 0 = a0) (hR : Rel t n sx sm) (hn : n ≤ 16) (hN : fqI sx 1 2 = nI n) (hs : lwS_player Rel K) (hc : cells + 4 ≤ room_1.cells ∧ slots + 27 ≤ room_1.slots)
    (hnext : ∀ (adX' : Nat → Nat) (n' : Nat) (sx' sm' : fqS), adX' 0 = a0 → Rel (t + 1) n' sx' sm' → fqH X 4 (cells + 4) (slots + 27) (fqW (TX cy) ZX adX' n' sx' ++ fqW (TM cy) ZM adM 0 sm') 884 [(0, .ref b), (1, .ref a0), (2, .ref (adM 0)), (3, .int (nI (5 * t)))] []) : fqH X 4 cells slots (fqW (TX cy) ZX adX n sx ++ fqW (TM cy) ZM adM 0 sm) 148 [(0, .ref b), (1, .ref a0), (2, .ref (adM 0)), (3, .int (nI (5 * t)))] [] := by
  refine h_aload_n (pc := 148) E dL_law_148 1 rfl rfl ?_
  refine h_aload_n (pc := 149) E dL_law_149 0 rfl rfl ?_
  refine h_iload_n (pc := 150) E dL_law_150 3 rfl rfl ?_
  refine h_iconst (pc := 151) E (1 : Int32) dL_law_151 (by decide) ?_
  refine h_iadd (pc := 152) E dL_law_152 ?_
  refine h_sload (pc := 153) E S (5 * t + 1) (by omega) (by omega) (lw_add _ 1 _ rfl) dL_law_153 ?_
  obtain ⟨r, n1, sx1, sm1, e1, e2, hR1⟩ := hs t n sx sm (xs (5 * t + 1)) (by omega) hR
  refine l_callP (pc := 154) E ha [.int (xs (5 * t + 1))] (fun l D sz => qX8_player l D cy adX sz n sx K (xs (5 * t + 1)) hn hN e1) gL_law_X8_player rfl rfl rfl kcX8_player ⟨by decide, by decide⟩ rfl rfl (Nat.le_of_ble_eq_true rfl) dL_law_154 hc (fun r2 u hu => ?_)
  obtain ⟨ad2, n2, sx2⟩ := u
  obtain ⟨hv, hu2, hag⟩ := hu
  cases hu2
  subst hv
  refine h_aload_n (pc := 157) E dL_law_157 2 rfl rfl ?_
  refine h_aload_n (pc := 158) E dL_law_158 0 rfl rfl ?_
  refine h_iload_n (pc := 159) E dL_law_159 3 rfl rfl ?_
  refine h_iconst (pc := 160) E (1 : Int32) dL_law_160 (by decide) ?_
  refine h_iadd (pc := 161) E dL_law_161 ?_
  refine h_sload (pc := 162) E S (5 * t + 1) (by omega) (by omega) (lw_add _ 1 _ rfl) dL_law_162 ?_
  refine l_callM (pc := 163) E [.int (xs (5 * t + 1))] (fun l D sz => qX9_player l D cy adM sz 0 sm K (xs (5 * t + 1)) e2) gL_law_X9_player rfl rfl rfl kcX9_player ⟨by decide, by decide⟩ rfl rfl (Nat.le_of_ble_eq_true rfl) dL_law_163 ⟨hc.1, hc.2⟩ ?_
  refine h_lif_eq (pc := 166) E 884 dL_law_166 dL_law_167 (by decide) (fun _ => ?_) (fun q => absurd rfl q)
  exact hnext ad2 _ _ _ ((hag 0 (zx_l (by decide))).trans ha) hR1
set_option maxRecDepth 100000 in
set_option maxHeartbeats 4000000 in
theorem lw_case_1 {X : fqX} {cy : Nat → ClassId} {adX adM : Nat → Nat} {n : Nat} {sx sm : fqS} {b L : Nat} {xs : Nat → Int32} {cells slots t a0 : Nat} {Rel : Nat → Nat → fqS → fqS → Prop} {K : Nat} (E : fqE X room_1 cy cL_law 4 wsL_law RL) (S : lwS X b L xs) (hL : L ≤ 2560) (hi : 5 * t + 5 ≤ L) (ha : adX 0 = a0) (hR : Rel t n sx sm) (hs : lwS_become Rel K) (hc : cells + 4 ≤ room_1.cells ∧ slots + 27 ≤ room_1.slots)
    (hnext : ∀ (adX' : Nat → Nat) (n' : Nat) (sx' sm' : fqS), adX' 0 = a0 → Rel (t + 1) n' sx' sm' → fqH X 4 (cells + 4) (slots + 27) (fqW (TX cy) ZX adX' n' sx' ++ fqW (TM cy) ZM adM 0 sm') 884 [(0, .ref b), (1, .ref a0), (2, .ref (adM 0)), (3, .int (nI (5 * t)))] []) : fqH X 4 cells slots (fqW (TX cy) ZX adX n sx ++ fqW (TM cy) ZM adM 0 sm) 172 [(0, .ref b), (1, .ref a0), (2, .ref (adM 0)), (3, .int (nI (5 * t)))] [] := by
  refine h_aload_n (pc := 172) E dL_law_172 1 rfl rfl ?_
  refine h_aload_n (pc := 173) E dL_law_173 0 rfl rfl ?_
  refine h_iload_n (pc := 174) E dL_law_174 3 rfl rfl ?_
  refine h_iconst (pc := 175) E (1 : Int32) dL_law_175 (by decide) ?_
  refine h_iadd (pc := 176) E dL_law_176 ?_
  refine h_sload (pc := 177) E S (5 * t + 1) (by omega) (by omega) (lw_add _ 1 _ rfl) dL_law_177 ?_
  refine h_aload_n (pc := 178) E dL_law_178 0 rfl rfl ?_
  refine h_iload_n (pc := 179) E dL_law_179 3 rfl rfl ?_
  refine h_iconst (pc := 180) E (2 : Int32) dL_law_180 (by decide) ?_
  refine h_iadd (pc := 181) E dL_law_181 ?_
  refine h_sload (pc := 182) E S (5 * t + 2) (by omega) (by omega) (lw_add _ 2 _ rfl) dL_law_182 ?_
  obtain ⟨r, sx1, sm1, e1, e2, hR1⟩ := hs t n sx sm (xs (5 * t + 1)) (xs (5 * t + 2)) (by omega) hR
  refine l_callX (pc := 183) E ha [.int (xs (5 * t + 1)), .int (xs (5 * t + 2))] (fun l D sz => qX8_become l D cy adX sz n sx K (xs (5 * t + 1)) (xs (5 * t + 2)) e1) gL_law_X8_become rfl rfl rfl kcX8_become ⟨by decide, by decide⟩ rfl rfl (Nat.le_of_ble_eq_true rfl) dL_law_183 ⟨Nat.le_trans (Nat.le_add_right _ 4) hc.1, Nat.le_trans (Nat.le_add_right _ 27) hc.2⟩ ?_
  refine h_aload_n (pc := 186) E dL_law_186 2 rfl rfl ?_
  refine h_aload_n (pc := 187) E dL_law_187 0 rfl rfl ?_
  refine h_iload_n (pc := 188) E dL_law_188 3 rfl rfl ?_
  refine h_iconst (pc := 189) E (1 : Int32) dL_law_189 (by decide) ?_
  refine h_iadd (pc := 190) E dL_law_190 ?_
  refine h_sload (pc := 191) E S (5 * t + 1) (by omega) (by omega) (lw_add _ 1 _ rfl) dL_law_191 ?_
  refine h_aload_n (pc := 192) E dL_law_192 0 rfl rfl ?_
  refine h_iload_n (pc := 193) E dL_law_193 3 rfl rfl ?_
  refine h_iconst (pc := 194) E (2 : Int32) dL_law_194 (by decide) ?_
  refine h_iadd (pc := 195) E dL_law_195 ?_
  refine h_sload (pc := 196) E S (5 * t + 2) (by omega) (by omega) (lw_add _ 2 _ rfl) dL_law_196 ?_
  refine l_callM (pc := 197) E [.int (xs (5 * t + 1)), .int (xs (5 * t + 2))] (fun l D sz => qX9_become l D cy adM sz 0 sm K (xs (5 * t + 1)) (xs (5 * t + 2)) e2) gL_law_X9_become rfl rfl rfl kcX9_become ⟨by decide, by decide⟩ rfl rfl (Nat.le_of_ble_eq_true rfl) dL_law_197 ⟨Nat.le_trans (Nat.le_add_right _ 4) hc.1, Nat.le_trans (Nat.le_add_right _ 27) hc.2⟩ ?_
  refine h_lif_eq (pc := 200) E 884 dL_law_200 dL_law_201 (by decide) (fun _ => ?_) (fun q => absurd rfl q)
  refine h_widen (Nat.le_add_right _ 4) (Nat.le_add_right _ 27) ?_
  exact hnext adX n sx1 sm1 ha hR1
set_option maxRecDepth 100000 in
set_option maxHeartbeats 4000000 in
theorem lw_case_2 {X : fqX} {cy : Nat → ClassId} {adX adM : Nat → Nat} {n : Nat} {sx sm : fqS} {b L : Nat} {xs : Nat → Int32} {cells slots t a0 : Nat} {Rel : Nat → Nat → fqS → fqS → Prop} {K : Nat} (E : fqE X room_1 cy cL_law 4 wsL_law RL) (S : lwS X b L xs) (hL : L ≤ 2560) (hi : 5 * t + 5 ≤ L) (ha : adX 0 = a0) (hR : Rel t n sx sm) (hs : lwS_as Rel K) (hc : cells + 4 ≤ room_1.cells ∧ slots + 27 ≤ room_1.slots)
    (hnext : ∀ (adX' : Nat → Nat) (n' : Nat) (sx' sm' : fqS), adX' 0 = a0 → Rel (t + 1) n' sx' sm' → fqH X 4 (cells + 4) (slots + 27) (fqW (TX cy) ZX adX' n' sx' ++ fqW (TM cy) ZM adM 0 sm') 884 [(0, .ref b), (1, .ref a0), (2, .ref (adM 0)), (3, .int (nI (5 * t)))] []) : fqH X 4 cells slots (fqW (TX cy) ZX adX n sx ++ fqW (TM cy) ZM adM 0 sm) 206 [(0, .ref b), (1, .ref a0), (2, .ref (adM 0)), (3, .int (nI (5 * t)))] [] := by
  refine h_aload_n (pc := 206) E dL_law_206 1 rfl rfl ?_
  refine h_aload_n (pc := 207) E dL_law_207 0 rfl rfl ?_
  refine h_iload_n (pc := 208) E dL_law_208 3 rfl rfl ?_
  refine h_iconst (pc := 209) E (1 : Int32) dL_law_209 (by decide) ?_
  refine h_iadd (pc := 210) E dL_law_210 ?_
  refine h_sload (pc := 211) E S (5 * t + 1) (by omega) (by omega) (lw_add _ 1 _ rfl) dL_law_211 ?_
  refine h_aload_n (pc := 212) E dL_law_212 0 rfl rfl ?_
  refine h_iload_n (pc := 213) E dL_law_213 3 rfl rfl ?_
  refine h_iconst (pc := 214) E (2 : Int32) dL_law_214 (by decide) ?_
  refine h_iadd (pc := 215) E dL_law_215 ?_
  refine h_sload (pc := 216) E S (5 * t + 2) (by omega) (by omega) (lw_add _ 2 _ rfl) dL_law_216 ?_
  obtain ⟨r, sx1, sm1, e1, e2, hR1⟩ := hs t n sx sm (xs (5 * t + 1)) (xs (5 * t + 2)) (by omega) hR
  refine l_callX (pc := 217) E ha [.int (xs (5 * t + 1)), .int (xs (5 * t + 2))] (fun l D sz => qX8_as l D cy adX sz n sx K (xs (5 * t + 1)) (xs (5 * t + 2)) e1) gL_law_X8_as rfl rfl rfl kcX8_as ⟨by decide, by decide⟩ rfl rfl (Nat.le_of_ble_eq_true rfl) dL_law_217 ⟨Nat.le_trans (Nat.le_add_right _ 4) hc.1, Nat.le_trans (Nat.le_add_right _ 27) hc.2⟩ ?_
  refine h_aload_n (pc := 220) E dL_law_220 2 rfl rfl ?_
  refine h_aload_n (pc := 221) E dL_law_221 0 rfl rfl ?_
  refine h_iload_n (pc := 222) E dL_law_222 3 rfl rfl ?_
  refine h_iconst (pc := 223) E (1 : Int32) dL_law_223 (by decide) ?_
  refine h_iadd (pc := 224) E dL_law_224 ?_
  refine h_sload (pc := 225) E S (5 * t + 1) (by omega) (by omega) (lw_add _ 1 _ rfl) dL_law_225 ?_
  refine h_aload_n (pc := 226) E dL_law_226 0 rfl rfl ?_
  refine h_iload_n (pc := 227) E dL_law_227 3 rfl rfl ?_
  refine h_iconst (pc := 228) E (2 : Int32) dL_law_228 (by decide) ?_
  refine h_iadd (pc := 229) E dL_law_229 ?_
  refine h_sload (pc := 230) E S (5 * t + 2) (by omega) (by omega) (lw_add _ 2 _ rfl) dL_law_230 ?_
  refine l_callM (pc := 231) E [.int (xs (5 * t + 1)), .int (xs (5 * t + 2))] (fun l D sz => qX9_as l D cy adM sz 0 sm K (xs (5 * t + 1)) (xs (5 * t + 2)) e2) gL_law_X9_as rfl rfl rfl kcX9_as ⟨by decide, by decide⟩ rfl rfl (Nat.le_of_ble_eq_true rfl) dL_law_231 ⟨Nat.le_trans (Nat.le_add_right _ 4) hc.1, Nat.le_trans (Nat.le_add_right _ 27) hc.2⟩ ?_
  refine h_lif_eq (pc := 234) E 884 dL_law_234 dL_law_235 (by decide) (fun _ => ?_) (fun q => absurd rfl q)
  refine h_widen (Nat.le_add_right _ 4) (Nat.le_add_right _ 27) ?_
  exact hnext adX n sx1 sm1 ha hR1
set_option maxRecDepth 100000 in
set_option maxHeartbeats 4000000 in
theorem lw_case_3 {X : fqX} {cy : Nat → ClassId} {adX adM : Nat → Nat} {n : Nat} {sx sm : fqS} {b L : Nat} {xs : Nat → Int32} {cells slots t a0 : Nat} {Rel : Nat → Nat → fqS → fqS → Prop} {K : Nat} (E : fqE X room_1 cy cL_law 4 wsL_law RL) (S : lwS X b L xs) (hL : L ≤ 2560) (hi : 5 * t + 5 ≤ L) (ha : adX 0 = a0) (hR : Rel t n sx sm) (hs : lwS_share Rel K) (hc : cells + 4 ≤ room_1.cells ∧ slots + 27 ≤ room_1.slots)
    (hnext : ∀ (adX' : Nat → Nat) (n' : Nat) (sx' sm' : fqS), adX' 0 = a0 → Rel (t + 1) n' sx' sm' → fqH X 4 (cells + 4) (slots + 27) (fqW (TX cy) ZX adX' n' sx' ++ fqW (TM cy) ZM adM 0 sm') 884 [(0, .ref b), (1, .ref a0), (2, .ref (adM 0)), (3, .int (nI (5 * t)))] []) : fqH X 4 cells slots (fqW (TX cy) ZX adX n sx ++ fqW (TM cy) ZM adM 0 sm) 240 [(0, .ref b), (1, .ref a0), (2, .ref (adM 0)), (3, .int (nI (5 * t)))] [] := by
  refine h_aload_n (pc := 240) E dL_law_240 1 rfl rfl ?_
  refine h_aload_n (pc := 241) E dL_law_241 0 rfl rfl ?_
  refine h_iload_n (pc := 242) E dL_law_242 3 rfl rfl ?_
  refine h_iconst (pc := 243) E (1 : Int32) dL_law_243 (by decide) ?_
  refine h_iadd (pc := 244) E dL_law_244 ?_
  refine h_sload (pc := 245) E S (5 * t + 1) (by omega) (by omega) (lw_add _ 1 _ rfl) dL_law_245 ?_
  refine h_aload_n (pc := 246) E dL_law_246 0 rfl rfl ?_
  refine h_iload_n (pc := 247) E dL_law_247 3 rfl rfl ?_
  refine h_iconst (pc := 248) E (2 : Int32) dL_law_248 (by decide) ?_
  refine h_iadd (pc := 249) E dL_law_249 ?_
  refine h_sload (pc := 250) E S (5 * t + 2) (by omega) (by omega) (lw_add _ 2 _ rfl) dL_law_250 ?_
  obtain ⟨r, sx1, sm1, e1, e2, hR1⟩ := hs t n sx sm (xs (5 * t + 1)) (xs (5 * t + 2)) (by omega) hR
  refine l_callX (pc := 251) E ha [.int (xs (5 * t + 1)), .int (xs (5 * t + 2))] (fun l D sz => qX8_share l D cy adX sz n sx K (xs (5 * t + 1)) (xs (5 * t + 2)) e1) gL_law_X8_share rfl rfl rfl kcX8_share ⟨by decide, by decide⟩ rfl rfl (Nat.le_of_ble_eq_true rfl) dL_law_251 ⟨Nat.le_trans (Nat.le_add_right _ 4) hc.1, Nat.le_trans (Nat.le_add_right _ 27) hc.2⟩ ?_
  refine h_aload_n (pc := 254) E dL_law_254 2 rfl rfl ?_
  refine h_aload_n (pc := 255) E dL_law_255 0 rfl rfl ?_
  refine h_iload_n (pc := 256) E dL_law_256 3 rfl rfl ?_
  refine h_iconst (pc := 257) E (1 : Int32) dL_law_257 (by decide) ?_
  refine h_iadd (pc := 258) E dL_law_258 ?_
  refine h_sload (pc := 259) E S (5 * t + 1) (by omega) (by omega) (lw_add _ 1 _ rfl) dL_law_259 ?_
  refine h_aload_n (pc := 260) E dL_law_260 0 rfl rfl ?_
  refine h_iload_n (pc := 261) E dL_law_261 3 rfl rfl ?_
  refine h_iconst (pc := 262) E (2 : Int32) dL_law_262 (by decide) ?_
  refine h_iadd (pc := 263) E dL_law_263 ?_
  refine h_sload (pc := 264) E S (5 * t + 2) (by omega) (by omega) (lw_add _ 2 _ rfl) dL_law_264 ?_
  refine l_callM (pc := 265) E [.int (xs (5 * t + 1)), .int (xs (5 * t + 2))] (fun l D sz => qX9_share l D cy adM sz 0 sm K (xs (5 * t + 1)) (xs (5 * t + 2)) e2) gL_law_X9_share rfl rfl rfl kcX9_share ⟨by decide, by decide⟩ rfl rfl (Nat.le_of_ble_eq_true rfl) dL_law_265 ⟨Nat.le_trans (Nat.le_add_right _ 4) hc.1, Nat.le_trans (Nat.le_add_right _ 27) hc.2⟩ ?_
  refine h_lif_eq (pc := 268) E 884 dL_law_268 dL_law_269 (by decide) (fun _ => ?_) (fun q => absurd rfl q)
  refine h_widen (Nat.le_add_right _ 4) (Nat.le_add_right _ 27) ?_
  exact hnext adX n sx1 sm1 ha hR1
set_option maxRecDepth 100000 in
set_option maxHeartbeats 4000000 in
theorem lw_case_4 {X : fqX} {cy : Nat → ClassId} {adX adM : Nat → Nat} {n : Nat} {sx sm : fqS} {b L : Nat} {xs : Nat → Int32} {cells slots t a0 : Nat} {Rel : Nat → Nat → fqS → fqS → Prop} {K : Nat} (E : fqE X room_1 cy cL_law 4 wsL_law RL) (S : lwS X b L xs) (hL : L ≤ 2560) (hi : 5 * t + 5 ≤ L) (ha : adX 0 = a0) (hR : Rel t n sx sm) (hs : lwS_shift Rel K) (hc : cells + 4 ≤ room_1.cells ∧ slots + 27 ≤ room_1.slots)
    (hnext : ∀ (adX' : Nat → Nat) (n' : Nat) (sx' sm' : fqS), adX' 0 = a0 → Rel (t + 1) n' sx' sm' → fqH X 4 (cells + 4) (slots + 27) (fqW (TX cy) ZX adX' n' sx' ++ fqW (TM cy) ZM adM 0 sm') 884 [(0, .ref b), (1, .ref a0), (2, .ref (adM 0)), (3, .int (nI (5 * t)))] []) : fqH X 4 cells slots (fqW (TX cy) ZX adX n sx ++ fqW (TM cy) ZM adM 0 sm) 274 [(0, .ref b), (1, .ref a0), (2, .ref (adM 0)), (3, .int (nI (5 * t)))] [] := by
  refine h_aload_n (pc := 274) E dL_law_274 1 rfl rfl ?_
  refine h_aload_n (pc := 275) E dL_law_275 0 rfl rfl ?_
  refine h_iload_n (pc := 276) E dL_law_276 3 rfl rfl ?_
  refine h_iconst (pc := 277) E (1 : Int32) dL_law_277 (by decide) ?_
  refine h_iadd (pc := 278) E dL_law_278 ?_
  refine h_sload (pc := 279) E S (5 * t + 1) (by omega) (by omega) (lw_add _ 1 _ rfl) dL_law_279 ?_
  refine h_aload_n (pc := 280) E dL_law_280 0 rfl rfl ?_
  refine h_iload_n (pc := 281) E dL_law_281 3 rfl rfl ?_
  refine h_iconst (pc := 282) E (2 : Int32) dL_law_282 (by decide) ?_
  refine h_iadd (pc := 283) E dL_law_283 ?_
  refine h_sload (pc := 284) E S (5 * t + 2) (by omega) (by omega) (lw_add _ 2 _ rfl) dL_law_284 ?_
  refine h_aload_n (pc := 285) E dL_law_285 0 rfl rfl ?_
  refine h_iload_n (pc := 286) E dL_law_286 3 rfl rfl ?_
  refine h_iconst (pc := 287) E (3 : Int32) dL_law_287 (by decide) ?_
  refine h_iadd (pc := 288) E dL_law_288 ?_
  refine h_sload (pc := 289) E S (5 * t + 3) (by omega) (by omega) (lw_add _ 3 _ rfl) dL_law_289 ?_
  refine h_aload_n (pc := 290) E dL_law_290 0 rfl rfl ?_
  refine h_iload_n (pc := 291) E dL_law_291 3 rfl rfl ?_
  refine h_iconst (pc := 292) E (4 : Int32) dL_law_292 (by decide) ?_
  refine h_iadd (pc := 293) E dL_law_293 ?_
  refine h_sload (pc := 294) E S (5 * t + 4) (by omega) (by omega) (lw_add _ 4 _ rfl) dL_law_294 ?_
  obtain ⟨r, sx1, sm1, e1, e2, hR1⟩ := hs t n sx sm (xs (5 * t + 1)) (xs (5 * t + 2)) (xs (5 * t + 3)) (xs (5 * t + 4)) (by omega) hR
  refine l_callX (pc := 295) E ha [.int (xs (5 * t + 1)), .int (xs (5 * t + 2)), .int (xs (5 * t + 3)), .int (xs (5 * t + 4))] (fun l D sz => qX8_shift l D cy adX sz n sx K (xs (5 * t + 1)) (xs (5 * t + 2)) (xs (5 * t + 3)) (xs (5 * t + 4)) e1) gL_law_X8_shift rfl rfl rfl kcX8_shift ⟨by decide, by decide⟩ rfl rfl (Nat.le_of_ble_eq_true rfl) dL_law_295 ⟨Nat.le_trans (Nat.le_add_right _ 4) hc.1, Nat.le_trans (Nat.le_add_right _ 27) hc.2⟩ ?_
  refine h_aload_n (pc := 298) E dL_law_298 2 rfl rfl ?_
  refine h_aload_n (pc := 299) E dL_law_299 0 rfl rfl ?_
  refine h_iload_n (pc := 300) E dL_law_300 3 rfl rfl ?_
  refine h_iconst (pc := 301) E (1 : Int32) dL_law_301 (by decide) ?_
  refine h_iadd (pc := 302) E dL_law_302 ?_
  refine h_sload (pc := 303) E S (5 * t + 1) (by omega) (by omega) (lw_add _ 1 _ rfl) dL_law_303 ?_
  refine h_aload_n (pc := 304) E dL_law_304 0 rfl rfl ?_
  refine h_iload_n (pc := 305) E dL_law_305 3 rfl rfl ?_
  refine h_iconst (pc := 306) E (2 : Int32) dL_law_306 (by decide) ?_
  refine h_iadd (pc := 307) E dL_law_307 ?_
  refine h_sload (pc := 308) E S (5 * t + 2) (by omega) (by omega) (lw_add _ 2 _ rfl) dL_law_308 ?_
  refine h_aload_n (pc := 309) E dL_law_309 0 rfl rfl ?_
  refine h_iload_n (pc := 310) E dL_law_310 3 rfl rfl ?_
  refine h_iconst (pc := 311) E (3 : Int32) dL_law_311 (by decide) ?_
  refine h_iadd (pc := 312) E dL_law_312 ?_
  refine h_sload (pc := 313) E S (5 * t + 3) (by omega) (by omega) (lw_add _ 3 _ rfl) dL_law_313 ?_
  refine h_aload_n (pc := 314) E dL_law_314 0 rfl rfl ?_
  refine h_iload_n (pc := 315) E dL_law_315 3 rfl rfl ?_
  refine h_iconst (pc := 316) E (4 : Int32) dL_law_316 (by decide) ?_
  refine h_iadd (pc := 317) E dL_law_317 ?_
  refine h_sload (pc := 318) E S (5 * t + 4) (by omega) (by omega) (lw_add _ 4 _ rfl) dL_law_318 ?_
  refine l_callM (pc := 319) E [.int (xs (5 * t + 1)), .int (xs (5 * t + 2)), .int (xs (5 * t + 3)), .int (xs (5 * t + 4))] (fun l D sz => qX9_shift l D cy adM sz 0 sm K (xs (5 * t + 1)) (xs (5 * t + 2)) (xs (5 * t + 3)) (xs (5 * t + 4)) e2) gL_law_X9_shift rfl rfl rfl kcX9_shift ⟨by decide, by decide⟩ rfl rfl (Nat.le_of_ble_eq_true rfl) dL_law_319 ⟨Nat.le_trans (Nat.le_add_right _ 4) hc.1, Nat.le_trans (Nat.le_add_right _ 27) hc.2⟩ ?_
  refine h_lif_eq (pc := 322) E 884 dL_law_322 dL_law_323 (by decide) (fun _ => ?_) (fun q => absurd rfl q)
  refine h_widen (Nat.le_add_right _ 4) (Nat.le_add_right _ 27) ?_
  exact hnext adX n sx1 sm1 ha hR1
set_option maxRecDepth 100000 in
set_option maxHeartbeats 4000000 in
theorem lw_case_5 {X : fqX} {cy : Nat → ClassId} {adX adM : Nat → Nat} {n : Nat} {sx sm : fqS} {b L : Nat} {xs : Nat → Int32} {cells slots t a0 : Nat} {Rel : Nat → Nat → fqS → fqS → Prop} {K : Nat} (E : fqE X room_1 cy cL_law 4 wsL_law RL) (S : lwS X b L xs) (hL : L ≤ 2560) (hi : 5 * t + 5 ≤ L) (ha : adX 0 = a0) (hR : Rel t n sx sm) (hs : lwS_mean Rel K) (hc : cells + 4 ≤ room_1.cells ∧ slots + 27 ≤ room_1.slots)
    (hnext : ∀ (adX' : Nat → Nat) (n' : Nat) (sx' sm' : fqS), adX' 0 = a0 → Rel (t + 1) n' sx' sm' → fqH X 4 (cells + 4) (slots + 27) (fqW (TX cy) ZX adX' n' sx' ++ fqW (TM cy) ZM adM 0 sm') 884 [(0, .ref b), (1, .ref a0), (2, .ref (adM 0)), (3, .int (nI (5 * t)))] []) : fqH X 4 cells slots (fqW (TX cy) ZX adX n sx ++ fqW (TM cy) ZM adM 0 sm) 328 [(0, .ref b), (1, .ref a0), (2, .ref (adM 0)), (3, .int (nI (5 * t)))] [] := by
  refine h_aload_n (pc := 328) E dL_law_328 1 rfl rfl ?_
  refine h_aload_n (pc := 329) E dL_law_329 0 rfl rfl ?_
  refine h_iload_n (pc := 330) E dL_law_330 3 rfl rfl ?_
  refine h_iconst (pc := 331) E (1 : Int32) dL_law_331 (by decide) ?_
  refine h_iadd (pc := 332) E dL_law_332 ?_
  refine h_sload (pc := 333) E S (5 * t + 1) (by omega) (by omega) (lw_add _ 1 _ rfl) dL_law_333 ?_
  obtain ⟨r, sx1, sm1, e1, e2, hR1⟩ := hs t n sx sm (xs (5 * t + 1)) (by omega) hR
  refine l_callX (pc := 334) E ha [.int (xs (5 * t + 1))] (fun l D sz => qX8_mean l D cy adX sz n sx K (xs (5 * t + 1)) e1) gL_law_X8_mean rfl rfl rfl kcX8_mean ⟨by decide, by decide⟩ rfl rfl (Nat.le_of_ble_eq_true rfl) dL_law_334 ⟨Nat.le_trans (Nat.le_add_right _ 4) hc.1, Nat.le_trans (Nat.le_add_right _ 27) hc.2⟩ ?_
  refine h_aload_n (pc := 337) E dL_law_337 2 rfl rfl ?_
  refine h_aload_n (pc := 338) E dL_law_338 0 rfl rfl ?_
  refine h_iload_n (pc := 339) E dL_law_339 3 rfl rfl ?_
  refine h_iconst (pc := 340) E (1 : Int32) dL_law_340 (by decide) ?_
  refine h_iadd (pc := 341) E dL_law_341 ?_
  refine h_sload (pc := 342) E S (5 * t + 1) (by omega) (by omega) (lw_add _ 1 _ rfl) dL_law_342 ?_
  refine l_callM (pc := 343) E [.int (xs (5 * t + 1))] (fun l D sz => qX9_mean l D cy adM sz 0 sm K (xs (5 * t + 1)) e2) gL_law_X9_mean rfl rfl rfl kcX9_mean ⟨by decide, by decide⟩ rfl rfl (Nat.le_of_ble_eq_true rfl) dL_law_343 ⟨Nat.le_trans (Nat.le_add_right _ 4) hc.1, Nat.le_trans (Nat.le_add_right _ 27) hc.2⟩ ?_
  refine h_lif_eq (pc := 346) E 884 dL_law_346 dL_law_347 (by decide) (fun _ => ?_) (fun q => absurd rfl q)
  refine h_widen (Nat.le_add_right _ 4) (Nat.le_add_right _ 27) ?_
  exact hnext adX n sx1 sm1 ha hR1
set_option maxRecDepth 100000 in
set_option maxHeartbeats 4000000 in
theorem lw_case_6 {X : fqX} {cy : Nat → ClassId} {adX adM : Nat → Nat} {n : Nat} {sx sm : fqS} {b L : Nat} {xs : Nat → Int32} {cells slots t a0 : Nat} {Rel : Nat → Nat → fqS → fqS → Prop} {K : Nat} (E : fqE X room_1 cy cL_law 4 wsL_law RL) (S : lwS X b L xs) (hL : L ≤ 2560) (hi : 5 * t + 5 ≤ L) (ha : adX 0 = a0) (hR : Rel t n sx sm) (hs : lwS_chance Rel K) (hc : cells + 4 ≤ room_1.cells ∧ slots + 27 ≤ room_1.slots)
    (hnext : ∀ (adX' : Nat → Nat) (n' : Nat) (sx' sm' : fqS), adX' 0 = a0 → Rel (t + 1) n' sx' sm' → fqH X 4 (cells + 4) (slots + 27) (fqW (TX cy) ZX adX' n' sx' ++ fqW (TM cy) ZM adM 0 sm') 884 [(0, .ref b), (1, .ref a0), (2, .ref (adM 0)), (3, .int (nI (5 * t)))] []) : fqH X 4 cells slots (fqW (TX cy) ZX adX n sx ++ fqW (TM cy) ZM adM 0 sm) 352 [(0, .ref b), (1, .ref a0), (2, .ref (adM 0)), (3, .int (nI (5 * t)))] [] := by
  refine h_aload_n (pc := 352) E dL_law_352 1 rfl rfl ?_
  refine h_aload_n (pc := 353) E dL_law_353 0 rfl rfl ?_
  refine h_iload_n (pc := 354) E dL_law_354 3 rfl rfl ?_
  refine h_iconst (pc := 355) E (1 : Int32) dL_law_355 (by decide) ?_
  refine h_iadd (pc := 356) E dL_law_356 ?_
  refine h_sload (pc := 357) E S (5 * t + 1) (by omega) (by omega) (lw_add _ 1 _ rfl) dL_law_357 ?_
  refine h_aload_n (pc := 358) E dL_law_358 0 rfl rfl ?_
  refine h_iload_n (pc := 359) E dL_law_359 3 rfl rfl ?_
  refine h_iconst (pc := 360) E (2 : Int32) dL_law_360 (by decide) ?_
  refine h_iadd (pc := 361) E dL_law_361 ?_
  refine h_sload (pc := 362) E S (5 * t + 2) (by omega) (by omega) (lw_add _ 2 _ rfl) dL_law_362 ?_
  obtain ⟨r, sx1, sm1, e1, e2, hR1⟩ := hs t n sx sm (xs (5 * t + 1)) (xs (5 * t + 2)) (by omega) hR
  refine l_callX (pc := 363) E ha [.int (xs (5 * t + 1)), .int (xs (5 * t + 2))] (fun l D sz => qX8_chance l D cy adX sz n sx K (xs (5 * t + 1)) (xs (5 * t + 2)) e1) gL_law_X8_chance rfl rfl rfl kcX8_chance ⟨by decide, by decide⟩ rfl rfl (Nat.le_of_ble_eq_true rfl) dL_law_363 ⟨Nat.le_trans (Nat.le_add_right _ 4) hc.1, Nat.le_trans (Nat.le_add_right _ 27) hc.2⟩ ?_
  refine h_aload_n (pc := 366) E dL_law_366 2 rfl rfl ?_
  refine h_aload_n (pc := 367) E dL_law_367 0 rfl rfl ?_
  refine h_iload_n (pc := 368) E dL_law_368 3 rfl rfl ?_
  refine h_iconst (pc := 369) E (1 : Int32) dL_law_369 (by decide) ?_
  refine h_iadd (pc := 370) E dL_law_370 ?_
  refine h_sload (pc := 371) E S (5 * t + 1) (by omega) (by omega) (lw_add _ 1 _ rfl) dL_law_371 ?_
  refine h_aload_n (pc := 372) E dL_law_372 0 rfl rfl ?_
  refine h_iload_n (pc := 373) E dL_law_373 3 rfl rfl ?_
  refine h_iconst (pc := 374) E (2 : Int32) dL_law_374 (by decide) ?_
  refine h_iadd (pc := 375) E dL_law_375 ?_
  refine h_sload (pc := 376) E S (5 * t + 2) (by omega) (by omega) (lw_add _ 2 _ rfl) dL_law_376 ?_
  refine l_callM (pc := 377) E [.int (xs (5 * t + 1)), .int (xs (5 * t + 2))] (fun l D sz => qX9_chance l D cy adM sz 0 sm K (xs (5 * t + 1)) (xs (5 * t + 2)) e2) gL_law_X9_chance rfl rfl rfl kcX9_chance ⟨by decide, by decide⟩ rfl rfl (Nat.le_of_ble_eq_true rfl) dL_law_377 ⟨Nat.le_trans (Nat.le_add_right _ 4) hc.1, Nat.le_trans (Nat.le_add_right _ 27) hc.2⟩ ?_
  refine h_lif_eq (pc := 380) E 884 dL_law_380 dL_law_381 (by decide) (fun _ => ?_) (fun q => absurd rfl q)
  refine h_widen (Nat.le_add_right _ 4) (Nat.le_add_right _ 27) ?_
  exact hnext adX n sx1 sm1 ha hR1
set_option maxRecDepth 100000 in
set_option maxHeartbeats 4000000 in
theorem lw_case_7 {X : fqX} {cy : Nat → ClassId} {adX adM : Nat → Nat} {n : Nat} {sx sm : fqS} {b L : Nat} {xs : Nat → Int32} {cells slots t a0 : Nat} {Rel : Nat → Nat → fqS → fqS → Prop} {K : Nat} (E : fqE X room_1 cy cL_law 4 wsL_law RL) (S : lwS X b L xs) (hL : L ≤ 2560) (hi : 5 * t + 5 ≤ L) (ha : adX 0 = a0) (hR : Rel t n sx sm) (hs : lwS_season Rel K) (hc : cells + 4 ≤ room_1.cells ∧ slots + 27 ≤ room_1.slots)
    (hnext : ∀ (adX' : Nat → Nat) (n' : Nat) (sx' sm' : fqS), adX' 0 = a0 → Rel (t + 1) n' sx' sm' → fqH X 4 (cells + 4) (slots + 27) (fqW (TX cy) ZX adX' n' sx' ++ fqW (TM cy) ZM adM 0 sm') 884 [(0, .ref b), (1, .ref a0), (2, .ref (adM 0)), (3, .int (nI (5 * t)))] []) : fqH X 4 cells slots (fqW (TX cy) ZX adX n sx ++ fqW (TM cy) ZM adM 0 sm) 386 [(0, .ref b), (1, .ref a0), (2, .ref (adM 0)), (3, .int (nI (5 * t)))] [] := by
  refine h_aload_n (pc := 386) E dL_law_386 1 rfl rfl ?_
  obtain ⟨r, sx1, sm1, e1, e2, hR1⟩ := hs t n sx sm (by omega) hR
  refine l_callX (pc := 387) E ha [] (fun l D sz => qX8_season l D cy adX sz n sx K e1) gL_law_X8_season rfl rfl rfl kcX8_season ⟨by decide, by decide⟩ rfl rfl (Nat.le_of_ble_eq_true rfl) dL_law_387 ⟨Nat.le_trans (Nat.le_add_right _ 4) hc.1, Nat.le_trans (Nat.le_add_right _ 27) hc.2⟩ ?_
  refine h_aload_n (pc := 390) E dL_law_390 2 rfl rfl ?_
  refine l_callM (pc := 391) E [] (fun l D sz => qX9_season l D cy adM sz 0 sm K e2) gL_law_X9_season rfl rfl rfl kcX9_season ⟨by decide, by decide⟩ rfl rfl (Nat.le_of_ble_eq_true rfl) dL_law_391 ⟨Nat.le_trans (Nat.le_add_right _ 4) hc.1, Nat.le_trans (Nat.le_add_right _ 27) hc.2⟩ ?_
  refine h_lif_eq (pc := 394) E 884 dL_law_394 dL_law_395 (by decide) (fun _ => ?_) (fun q => absurd rfl q)
  refine h_widen (Nat.le_add_right _ 4) (Nat.le_add_right _ 27) ?_
  exact hnext adX n sx1 sm1 ha hR1
set_option maxRecDepth 100000 in
set_option maxHeartbeats 4000000 in
theorem lw_case_8 {X : fqX} {cy : Nat → ClassId} {adX adM : Nat → Nat} {n : Nat} {sx sm : fqS} {b L : Nat} {xs : Nat → Int32} {cells slots t a0 : Nat} {Rel : Nat → Nat → fqS → fqS → Prop} {K : Nat} (E : fqE X room_1 cy cL_law 4 wsL_law RL) (S : lwS X b L xs) (hL : L ≤ 2560) (hi : 5 * t + 5 ≤ L) (ha : adX 0 = a0) (hR : Rel t n sx sm) (hs : lwS_size Rel K) (hc : cells + 4 ≤ room_1.cells ∧ slots + 27 ≤ room_1.slots)
    (hnext : ∀ (adX' : Nat → Nat) (n' : Nat) (sx' sm' : fqS), adX' 0 = a0 → Rel (t + 1) n' sx' sm' → fqH X 4 (cells + 4) (slots + 27) (fqW (TX cy) ZX adX' n' sx' ++ fqW (TM cy) ZM adM 0 sm') 884 [(0, .ref b), (1, .ref a0), (2, .ref (adM 0)), (3, .int (nI (5 * t)))] []) : fqH X 4 cells slots (fqW (TX cy) ZX adX n sx ++ fqW (TM cy) ZM adM 0 sm) 400 [(0, .ref b), (1, .ref a0), (2, .ref (adM 0)), (3, .int (nI (5 * t)))] [] := by
  refine h_aload_n (pc := 400) E dL_law_400 1 rfl rfl ?_
  refine h_aload_n (pc := 401) E dL_law_401 0 rfl rfl ?_
  refine h_iload_n (pc := 402) E dL_law_402 3 rfl rfl ?_
  refine h_iconst (pc := 403) E (1 : Int32) dL_law_403 (by decide) ?_
  refine h_iadd (pc := 404) E dL_law_404 ?_
  refine h_sload (pc := 405) E S (5 * t + 1) (by omega) (by omega) (lw_add _ 1 _ rfl) dL_law_405 ?_
  obtain ⟨r, sx1, sm1, e1, e2, hR1⟩ := hs t n sx sm (xs (5 * t + 1)) (by omega) hR
  refine l_callX (pc := 406) E ha [.int (xs (5 * t + 1))] (fun l D sz => qX8_size l D cy adX sz n sx K (xs (5 * t + 1)) e1) gL_law_X8_size rfl rfl rfl kcX8_size ⟨by decide, by decide⟩ rfl rfl (Nat.le_of_ble_eq_true rfl) dL_law_406 ⟨Nat.le_trans (Nat.le_add_right _ 4) hc.1, Nat.le_trans (Nat.le_add_right _ 27) hc.2⟩ ?_
  refine h_aload_n (pc := 409) E dL_law_409 2 rfl rfl ?_
  refine h_aload_n (pc := 410) E dL_law_410 0 rfl rfl ?_
  refine h_iload_n (pc := 411) E dL_law_411 3 rfl rfl ?_
  refine h_iconst (pc := 412) E (1 : Int32) dL_law_412 (by decide) ?_
  refine h_iadd (pc := 413) E dL_law_413 ?_
  refine h_sload (pc := 414) E S (5 * t + 1) (by omega) (by omega) (lw_add _ 1 _ rfl) dL_law_414 ?_
  refine l_callM (pc := 415) E [.int (xs (5 * t + 1))] (fun l D sz => qX9_size l D cy adM sz 0 sm K (xs (5 * t + 1)) e2) gL_law_X9_size rfl rfl rfl kcX9_size ⟨by decide, by decide⟩ rfl rfl (Nat.le_of_ble_eq_true rfl) dL_law_415 ⟨Nat.le_trans (Nat.le_add_right _ 4) hc.1, Nat.le_trans (Nat.le_add_right _ 27) hc.2⟩ ?_
  refine h_lif_eq (pc := 418) E 884 dL_law_418 dL_law_419 (by decide) (fun _ => ?_) (fun q => absurd rfl q)
  refine h_widen (Nat.le_add_right _ 4) (Nat.le_add_right _ 27) ?_
  exact hnext adX n sx1 sm1 ha hR1
set_option maxRecDepth 100000 in
set_option maxHeartbeats 4000000 in
theorem lw_case_9 {X : fqX} {cy : Nat → ClassId} {adX adM : Nat → Nat} {n : Nat} {sx sm : fqS} {b L : Nat} {xs : Nat → Int32} {cells slots t a0 : Nat} {Rel : Nat → Nat → fqS → fqS → Prop} {K : Nat} (E : fqE X room_1 cy cL_law 4 wsL_law RL) (S : lwS X b L xs) (hL : L ≤ 2560) (hi : 5 * t + 5 ≤ L) (ha : adX 0 = a0) (hR : Rel t n sx sm) (hs : lwS_bounds Rel K) (hc : cells + 4 ≤ room_1.cells ∧ slots + 27 ≤ room_1.slots)
    (hnext : ∀ (adX' : Nat → Nat) (n' : Nat) (sx' sm' : fqS), adX' 0 = a0 → Rel (t + 1) n' sx' sm' → fqH X 4 (cells + 4) (slots + 27) (fqW (TX cy) ZX adX' n' sx' ++ fqW (TM cy) ZM adM 0 sm') 884 [(0, .ref b), (1, .ref a0), (2, .ref (adM 0)), (3, .int (nI (5 * t)))] []) : fqH X 4 cells slots (fqW (TX cy) ZX adX n sx ++ fqW (TM cy) ZM adM 0 sm) 424 [(0, .ref b), (1, .ref a0), (2, .ref (adM 0)), (3, .int (nI (5 * t)))] [] := by
  refine h_aload_n (pc := 424) E dL_law_424 1 rfl rfl ?_
  refine h_aload_n (pc := 425) E dL_law_425 0 rfl rfl ?_
  refine h_iload_n (pc := 426) E dL_law_426 3 rfl rfl ?_
  refine h_iconst (pc := 427) E (1 : Int32) dL_law_427 (by decide) ?_
  refine h_iadd (pc := 428) E dL_law_428 ?_
  refine h_sload (pc := 429) E S (5 * t + 1) (by omega) (by omega) (lw_add _ 1 _ rfl) dL_law_429 ?_
  refine h_aload_n (pc := 430) E dL_law_430 0 rfl rfl ?_
  refine h_iload_n (pc := 431) E dL_law_431 3 rfl rfl ?_
  refine h_iconst (pc := 432) E (2 : Int32) dL_law_432 (by decide) ?_
  refine h_iadd (pc := 433) E dL_law_433 ?_
  refine h_sload (pc := 434) E S (5 * t + 2) (by omega) (by omega) (lw_add _ 2 _ rfl) dL_law_434 ?_
  refine h_aload_n (pc := 435) E dL_law_435 0 rfl rfl ?_
  refine h_iload_n (pc := 436) E dL_law_436 3 rfl rfl ?_
  refine h_iconst (pc := 437) E (3 : Int32) dL_law_437 (by decide) ?_
  refine h_iadd (pc := 438) E dL_law_438 ?_
  refine h_sload (pc := 439) E S (5 * t + 3) (by omega) (by omega) (lw_add _ 3 _ rfl) dL_law_439 ?_
  obtain ⟨r, sx1, sm1, e1, e2, hR1⟩ := hs t n sx sm (xs (5 * t + 1)) (xs (5 * t + 2)) (xs (5 * t + 3)) (by omega) hR
  refine l_callX (pc := 440) E ha [.int (xs (5 * t + 1)), .int (xs (5 * t + 2)), .int (xs (5 * t + 3))] (fun l D sz => qX8_bounds l D cy adX sz n sx K (xs (5 * t + 1)) (xs (5 * t + 2)) (xs (5 * t + 3)) e1) gL_law_X8_bounds rfl rfl rfl kcX8_bounds ⟨by decide, by decide⟩ rfl rfl (Nat.le_of_ble_eq_true rfl) dL_law_440 ⟨Nat.le_trans (Nat.le_add_right _ 4) hc.1, Nat.le_trans (Nat.le_add_right _ 27) hc.2⟩ ?_
  refine h_aload_n (pc := 443) E dL_law_443 2 rfl rfl ?_
  refine h_aload_n (pc := 444) E dL_law_444 0 rfl rfl ?_
  refine h_iload_n (pc := 445) E dL_law_445 3 rfl rfl ?_
  refine h_iconst (pc := 446) E (1 : Int32) dL_law_446 (by decide) ?_
  refine h_iadd (pc := 447) E dL_law_447 ?_
  refine h_sload (pc := 448) E S (5 * t + 1) (by omega) (by omega) (lw_add _ 1 _ rfl) dL_law_448 ?_
  refine h_aload_n (pc := 449) E dL_law_449 0 rfl rfl ?_
  refine h_iload_n (pc := 450) E dL_law_450 3 rfl rfl ?_
  refine h_iconst (pc := 451) E (2 : Int32) dL_law_451 (by decide) ?_
  refine h_iadd (pc := 452) E dL_law_452 ?_
  refine h_sload (pc := 453) E S (5 * t + 2) (by omega) (by omega) (lw_add _ 2 _ rfl) dL_law_453 ?_
  refine h_aload_n (pc := 454) E dL_law_454 0 rfl rfl ?_
  refine h_iload_n (pc := 455) E dL_law_455 3 rfl rfl ?_
  refine h_iconst (pc := 456) E (3 : Int32) dL_law_456 (by decide) ?_
  refine h_iadd (pc := 457) E dL_law_457 ?_
  refine h_sload (pc := 458) E S (5 * t + 3) (by omega) (by omega) (lw_add _ 3 _ rfl) dL_law_458 ?_
  refine l_callM (pc := 459) E [.int (xs (5 * t + 1)), .int (xs (5 * t + 2)), .int (xs (5 * t + 3))] (fun l D sz => qX9_bounds l D cy adM sz 0 sm K (xs (5 * t + 1)) (xs (5 * t + 2)) (xs (5 * t + 3)) e2) gL_law_X9_bounds rfl rfl rfl kcX9_bounds ⟨by decide, by decide⟩ rfl rfl (Nat.le_of_ble_eq_true rfl) dL_law_459 ⟨Nat.le_trans (Nat.le_add_right _ 4) hc.1, Nat.le_trans (Nat.le_add_right _ 27) hc.2⟩ ?_
  refine h_lif_eq (pc := 462) E 884 dL_law_462 dL_law_463 (by decide) (fun _ => ?_) (fun q => absurd rfl q)
  refine h_widen (Nat.le_add_right _ 4) (Nat.le_add_right _ 27) ?_
  exact hnext adX n sx1 sm1 ha hR1
set_option maxRecDepth 100000 in
set_option maxHeartbeats 4000000 in
theorem lw_case_10 {X : fqX} {cy : Nat → ClassId} {adX adM : Nat → Nat} {n : Nat} {sx sm : fqS} {b L : Nat} {xs : Nat → Int32} {cells slots t a0 : Nat} {Rel : Nat → Nat → fqS → fqS → Prop} {K : Nat} (E : fqE X room_1 cy cL_law 4 wsL_law RL) (S : lwS X b L xs) (hL : L ≤ 2560) (hi : 5 * t + 5 ≤ L) (ha : adX 0 = a0) (hR : Rel t n sx sm) (hs : lwS_wait Rel K) (hc : cells + 4 ≤ room_1.cells ∧ slots + 27 ≤ room_1.slots)
    (hnext : ∀ (adX' : Nat → Nat) (n' : Nat) (sx' sm' : fqS), adX' 0 = a0 → Rel (t + 1) n' sx' sm' → fqH X 4 (cells + 4) (slots + 27) (fqW (TX cy) ZX adX' n' sx' ++ fqW (TM cy) ZM adM 0 sm') 884 [(0, .ref b), (1, .ref a0), (2, .ref (adM 0)), (3, .int (nI (5 * t)))] []) : fqH X 4 cells slots (fqW (TX cy) ZX adX n sx ++ fqW (TM cy) ZM adM 0 sm) 468 [(0, .ref b), (1, .ref a0), (2, .ref (adM 0)), (3, .int (nI (5 * t)))] [] := by
  refine h_aload_n (pc := 468) E dL_law_468 1 rfl rfl ?_
  refine h_aload_n (pc := 469) E dL_law_469 0 rfl rfl ?_
  refine h_iload_n (pc := 470) E dL_law_470 3 rfl rfl ?_
  refine h_iconst (pc := 471) E (1 : Int32) dL_law_471 (by decide) ?_
  refine h_iadd (pc := 472) E dL_law_472 ?_
  refine h_sload (pc := 473) E S (5 * t + 1) (by omega) (by omega) (lw_add _ 1 _ rfl) dL_law_473 ?_
  refine h_aload_n (pc := 474) E dL_law_474 0 rfl rfl ?_
  refine h_iload_n (pc := 475) E dL_law_475 3 rfl rfl ?_
  refine h_iconst (pc := 476) E (2 : Int32) dL_law_476 (by decide) ?_
  refine h_iadd (pc := 477) E dL_law_477 ?_
  refine h_sload (pc := 478) E S (5 * t + 2) (by omega) (by omega) (lw_add _ 2 _ rfl) dL_law_478 ?_
  refine h_aload_n (pc := 479) E dL_law_479 0 rfl rfl ?_
  refine h_iload_n (pc := 480) E dL_law_480 3 rfl rfl ?_
  refine h_iconst (pc := 481) E (3 : Int32) dL_law_481 (by decide) ?_
  refine h_iadd (pc := 482) E dL_law_482 ?_
  refine h_sload (pc := 483) E S (5 * t + 3) (by omega) (by omega) (lw_add _ 3 _ rfl) dL_law_483 ?_
  obtain ⟨r, sx1, sm1, e1, e2, hR1⟩ := hs t n sx sm (xs (5 * t + 1)) (xs (5 * t + 2)) (xs (5 * t + 3)) (by omega) hR
  refine l_callX (pc := 484) E ha [.int (xs (5 * t + 1)), .int (xs (5 * t + 2)), .int (xs (5 * t + 3))] (fun l D sz => qX8_wait l D cy adX sz n sx K (xs (5 * t + 1)) (xs (5 * t + 2)) (xs (5 * t + 3)) e1) gL_law_X8_wait rfl rfl rfl kcX8_wait ⟨by decide, by decide⟩ rfl rfl (Nat.le_of_ble_eq_true rfl) dL_law_484 ⟨Nat.le_trans (Nat.le_add_right _ 4) hc.1, Nat.le_trans (Nat.le_add_right _ 27) hc.2⟩ ?_
  refine h_aload_n (pc := 487) E dL_law_487 2 rfl rfl ?_
  refine h_aload_n (pc := 488) E dL_law_488 0 rfl rfl ?_
  refine h_iload_n (pc := 489) E dL_law_489 3 rfl rfl ?_
  refine h_iconst (pc := 490) E (1 : Int32) dL_law_490 (by decide) ?_
  refine h_iadd (pc := 491) E dL_law_491 ?_
  refine h_sload (pc := 492) E S (5 * t + 1) (by omega) (by omega) (lw_add _ 1 _ rfl) dL_law_492 ?_
  refine h_aload_n (pc := 493) E dL_law_493 0 rfl rfl ?_
  refine h_iload_n (pc := 494) E dL_law_494 3 rfl rfl ?_
  refine h_iconst (pc := 495) E (2 : Int32) dL_law_495 (by decide) ?_
  refine h_iadd (pc := 496) E dL_law_496 ?_
  refine h_sload (pc := 497) E S (5 * t + 2) (by omega) (by omega) (lw_add _ 2 _ rfl) dL_law_497 ?_
  refine h_aload_n (pc := 498) E dL_law_498 0 rfl rfl ?_
  refine h_iload_n (pc := 499) E dL_law_499 3 rfl rfl ?_
  refine h_iconst (pc := 500) E (3 : Int32) dL_law_500 (by decide) ?_
  refine h_iadd (pc := 501) E dL_law_501 ?_
  refine h_sload (pc := 502) E S (5 * t + 3) (by omega) (by omega) (lw_add _ 3 _ rfl) dL_law_502 ?_
  refine l_callM (pc := 503) E [.int (xs (5 * t + 1)), .int (xs (5 * t + 2)), .int (xs (5 * t + 3))] (fun l D sz => qX9_wait l D cy adM sz 0 sm K (xs (5 * t + 1)) (xs (5 * t + 2)) (xs (5 * t + 3)) e2) gL_law_X9_wait rfl rfl rfl kcX9_wait ⟨by decide, by decide⟩ rfl rfl (Nat.le_of_ble_eq_true rfl) dL_law_503 ⟨Nat.le_trans (Nat.le_add_right _ 4) hc.1, Nat.le_trans (Nat.le_add_right _ 27) hc.2⟩ ?_
  refine h_lif_eq (pc := 506) E 884 dL_law_506 dL_law_507 (by decide) (fun _ => ?_) (fun q => absurd rfl q)
  refine h_widen (Nat.le_add_right _ 4) (Nat.le_add_right _ 27) ?_
  exact hnext adX n sx1 sm1 ha hR1
set_option maxRecDepth 100000 in
set_option maxHeartbeats 4000000 in
theorem lw_case_11 {X : fqX} {cy : Nat → ClassId} {adX adM : Nat → Nat} {n : Nat} {sx sm : fqS} {b L : Nat} {xs : Nat → Int32} {cells slots t a0 : Nat} {Rel : Nat → Nat → fqS → fqS → Prop} {K : Nat} (E : fqE X room_1 cy cL_law 4 wsL_law RL) (S : lwS X b L xs) (hL : L ≤ 2560) (hi : 5 * t + 5 ≤ L) (ha : adX 0 = a0) (hR : Rel t n sx sm) (hs : lwS_leave Rel K) (hc : cells + 4 ≤ room_1.cells ∧ slots + 27 ≤ room_1.slots)
    (hnext : ∀ (adX' : Nat → Nat) (n' : Nat) (sx' sm' : fqS), adX' 0 = a0 → Rel (t + 1) n' sx' sm' → fqH X 4 (cells + 4) (slots + 27) (fqW (TX cy) ZX adX' n' sx' ++ fqW (TM cy) ZM adM 0 sm') 884 [(0, .ref b), (1, .ref a0), (2, .ref (adM 0)), (3, .int (nI (5 * t)))] []) : fqH X 4 cells slots (fqW (TX cy) ZX adX n sx ++ fqW (TM cy) ZM adM 0 sm) 512 [(0, .ref b), (1, .ref a0), (2, .ref (adM 0)), (3, .int (nI (5 * t)))] [] := by
  refine h_aload_n (pc := 512) E dL_law_512 1 rfl rfl ?_
  refine h_aload_n (pc := 513) E dL_law_513 0 rfl rfl ?_
  refine h_iload_n (pc := 514) E dL_law_514 3 rfl rfl ?_
  refine h_iconst (pc := 515) E (1 : Int32) dL_law_515 (by decide) ?_
  refine h_iadd (pc := 516) E dL_law_516 ?_
  refine h_sload (pc := 517) E S (5 * t + 1) (by omega) (by omega) (lw_add _ 1 _ rfl) dL_law_517 ?_
  obtain ⟨r, sx1, sm1, e1, e2, hR1⟩ := hs t n sx sm (xs (5 * t + 1)) (by omega) hR
  refine l_callX (pc := 518) E ha [.int (xs (5 * t + 1))] (fun l D sz => qX8_leave l D cy adX sz n sx K (xs (5 * t + 1)) e1) gL_law_X8_leave rfl rfl rfl kcX8_leave ⟨by decide, by decide⟩ rfl rfl (Nat.le_of_ble_eq_true rfl) dL_law_518 ⟨Nat.le_trans (Nat.le_add_right _ 4) hc.1, Nat.le_trans (Nat.le_add_right _ 27) hc.2⟩ ?_
  refine h_aload_n (pc := 521) E dL_law_521 2 rfl rfl ?_
  refine h_aload_n (pc := 522) E dL_law_522 0 rfl rfl ?_
  refine h_iload_n (pc := 523) E dL_law_523 3 rfl rfl ?_
  refine h_iconst (pc := 524) E (1 : Int32) dL_law_524 (by decide) ?_
  refine h_iadd (pc := 525) E dL_law_525 ?_
  refine h_sload (pc := 526) E S (5 * t + 1) (by omega) (by omega) (lw_add _ 1 _ rfl) dL_law_526 ?_
  refine l_callM (pc := 527) E [.int (xs (5 * t + 1))] (fun l D sz => qX9_leave l D cy adM sz 0 sm K (xs (5 * t + 1)) e2) gL_law_X9_leave rfl rfl rfl kcX9_leave ⟨by decide, by decide⟩ rfl rfl (Nat.le_of_ble_eq_true rfl) dL_law_527 ⟨Nat.le_trans (Nat.le_add_right _ 4) hc.1, Nat.le_trans (Nat.le_add_right _ 27) hc.2⟩ ?_
  refine h_lif_eq (pc := 530) E 884 dL_law_530 dL_law_531 (by decide) (fun _ => ?_) (fun q => absurd rfl q)
  refine h_widen (Nat.le_add_right _ 4) (Nat.le_add_right _ 27) ?_
  exact hnext adX n sx1 sm1 ha hR1
set_option maxRecDepth 100000 in
set_option maxHeartbeats 4000000 in
theorem lw_case_12 {X : fqX} {cy : Nat → ClassId} {adX adM : Nat → Nat} {n : Nat} {sx sm : fqS} {b L : Nat} {xs : Nat → Int32} {cells slots t a0 : Nat} {Rel : Nat → Nat → fqS → fqS → Prop} {K : Nat} (E : fqE X room_1 cy cL_law 4 wsL_law RL) (S : lwS X b L xs) (hL : L ≤ 2560) (hi : 5 * t + 5 ≤ L) (ha : adX 0 = a0) (hR : Rel t n sx sm) (hs : lwS_waited Rel K) (hc : cells + 4 ≤ room_1.cells ∧ slots + 27 ≤ room_1.slots)
    (hnext : ∀ (adX' : Nat → Nat) (n' : Nat) (sx' sm' : fqS), adX' 0 = a0 → Rel (t + 1) n' sx' sm' → fqH X 4 (cells + 4) (slots + 27) (fqW (TX cy) ZX adX' n' sx' ++ fqW (TM cy) ZM adM 0 sm') 884 [(0, .ref b), (1, .ref a0), (2, .ref (adM 0)), (3, .int (nI (5 * t)))] []) : fqH X 4 cells slots (fqW (TX cy) ZX adX n sx ++ fqW (TM cy) ZM adM 0 sm) 536 [(0, .ref b), (1, .ref a0), (2, .ref (adM 0)), (3, .int (nI (5 * t)))] [] := by
  refine h_aload_n (pc := 536) E dL_law_536 1 rfl rfl ?_
  refine h_aload_n (pc := 537) E dL_law_537 0 rfl rfl ?_
  refine h_iload_n (pc := 538) E dL_law_538 3 rfl rfl ?_
  refine h_iconst (pc := 539) E (1 : Int32) dL_law_539 (by decide) ?_
  refine h_iadd (pc := 540) E dL_law_540 ?_
  refine h_sload (pc := 541) E S (5 * t + 1) (by omega) (by omega) (lw_add _ 1 _ rfl) dL_law_541 ?_
  refine h_aload_n (pc := 542) E dL_law_542 0 rfl rfl ?_
  refine h_iload_n (pc := 543) E dL_law_543 3 rfl rfl ?_
  refine h_iconst (pc := 544) E (2 : Int32) dL_law_544 (by decide) ?_
  refine h_iadd (pc := 545) E dL_law_545 ?_
  refine h_sload (pc := 546) E S (5 * t + 2) (by omega) (by omega) (lw_add _ 2 _ rfl) dL_law_546 ?_
  refine h_if_eq (pc := 547) E 554 dL_law_547 (by decide) (fun hcb => ?_) (fun hcb => ?_)
  · refine h_iconst (pc := 554) E (0 : Int32) dL_law_554 (by decide) ?_
    obtain ⟨r, sx1, sm1, e1, e2, hR1⟩ := hs t n sx sm (xs (5 * t + 1)) (0 : Int32) (by omega) hR (Or.inl rfl)
    refine l_callX (pc := 555) E ha [.int (xs (5 * t + 1)), .int (0 : Int32)] (fun l D sz => qX8_waited l D cy adX sz n sx K (xs (5 * t + 1)) (0 : Int32) e1) gL_law_X8_waited rfl rfl rfl kcX8_waited ⟨by decide, by decide⟩ rfl rfl (Nat.le_of_ble_eq_true rfl) dL_law_555 ⟨Nat.le_trans (Nat.le_add_right _ 4) hc.1, Nat.le_trans (Nat.le_add_right _ 27) hc.2⟩ ?_
    refine h_aload_n (pc := 558) E dL_law_558 2 rfl rfl ?_
    refine h_aload_n (pc := 559) E dL_law_559 0 rfl rfl ?_
    refine h_iload_n (pc := 560) E dL_law_560 3 rfl rfl ?_
    refine h_iconst (pc := 561) E (1 : Int32) dL_law_561 (by decide) ?_
    refine h_iadd (pc := 562) E dL_law_562 ?_
    refine h_sload (pc := 563) E S (5 * t + 1) (by omega) (by omega) (lw_add _ 1 _ rfl) dL_law_563 ?_
    refine h_aload_n (pc := 564) E dL_law_564 0 rfl rfl ?_
    refine h_iload_n (pc := 565) E dL_law_565 3 rfl rfl ?_
    refine h_iconst (pc := 566) E (2 : Int32) dL_law_566 (by decide) ?_
    refine h_iadd (pc := 567) E dL_law_567 ?_
    refine h_sload (pc := 568) E S (5 * t + 2) (by omega) (by omega) (lw_add _ 2 _ rfl) dL_law_568 ?_
    refine h_if_eq (pc := 569) E 576 dL_law_569 (by decide) (fun _ => ?_) (fun q => absurd hcb q)
    refine h_iconst (pc := 576) E (0 : Int32) dL_law_576 (by decide) ?_
    refine l_callM (pc := 577) E [.int (xs (5 * t + 1)), .int (0 : Int32)] (fun l D sz => qX9_waited l D cy adM sz 0 sm K (xs (5 * t + 1)) (0 : Int32) e2) gL_law_X9_waited rfl rfl rfl kcX9_waited ⟨by decide, by decide⟩ rfl rfl (Nat.le_of_ble_eq_true rfl) dL_law_577 ⟨Nat.le_trans (Nat.le_add_right _ 4) hc.1, Nat.le_trans (Nat.le_add_right _ 27) hc.2⟩ ?_
    refine h_lif_eq (pc := 580) E 884 dL_law_580 dL_law_581 (by decide) (fun _ => ?_) (fun q => absurd rfl q)
    refine h_widen (Nat.le_add_right _ 4) (Nat.le_add_right _ 27) ?_
    exact hnext adX n sx1 sm1 ha hR1
  · refine h_iconst (pc := 550) E (1 : Int32) dL_law_550 (by decide) ?_
    refine h_goto (pc := 551) E 555 dL_law_551 (by decide) ?_
    obtain ⟨r, sx1, sm1, e1, e2, hR1⟩ := hs t n sx sm (xs (5 * t + 1)) (1 : Int32) (by omega) hR (Or.inr rfl)
    refine l_callX (pc := 555) E ha [.int (xs (5 * t + 1)), .int (1 : Int32)] (fun l D sz => qX8_waited l D cy adX sz n sx K (xs (5 * t + 1)) (1 : Int32) e1) gL_law_X8_waited rfl rfl rfl kcX8_waited ⟨by decide, by decide⟩ rfl rfl (Nat.le_of_ble_eq_true rfl) dL_law_555 ⟨Nat.le_trans (Nat.le_add_right _ 4) hc.1, Nat.le_trans (Nat.le_add_right _ 27) hc.2⟩ ?_
    refine h_aload_n (pc := 558) E dL_law_558 2 rfl rfl ?_
    refine h_aload_n (pc := 559) E dL_law_559 0 rfl rfl ?_
    refine h_iload_n (pc := 560) E dL_law_560 3 rfl rfl ?_
    refine h_iconst (pc := 561) E (1 : Int32) dL_law_561 (by decide) ?_
    refine h_iadd (pc := 562) E dL_law_562 ?_
    refine h_sload (pc := 563) E S (5 * t + 1) (by omega) (by omega) (lw_add _ 1 _ rfl) dL_law_563 ?_
    refine h_aload_n (pc := 564) E dL_law_564 0 rfl rfl ?_
    refine h_iload_n (pc := 565) E dL_law_565 3 rfl rfl ?_
    refine h_iconst (pc := 566) E (2 : Int32) dL_law_566 (by decide) ?_
    refine h_iadd (pc := 567) E dL_law_567 ?_
    refine h_sload (pc := 568) E S (5 * t + 2) (by omega) (by omega) (lw_add _ 2 _ rfl) dL_law_568 ?_
    refine h_if_eq (pc := 569) E 576 dL_law_569 (by decide) (fun q => absurd q hcb) (fun _ => ?_)
    refine h_iconst (pc := 572) E (1 : Int32) dL_law_572 (by decide) ?_
    refine h_goto (pc := 573) E 577 dL_law_573 (by decide) ?_
    refine l_callM (pc := 577) E [.int (xs (5 * t + 1)), .int (1 : Int32)] (fun l D sz => qX9_waited l D cy adM sz 0 sm K (xs (5 * t + 1)) (1 : Int32) e2) gL_law_X9_waited rfl rfl rfl kcX9_waited ⟨by decide, by decide⟩ rfl rfl (Nat.le_of_ble_eq_true rfl) dL_law_577 ⟨Nat.le_trans (Nat.le_add_right _ 4) hc.1, Nat.le_trans (Nat.le_add_right _ 27) hc.2⟩ ?_
    refine h_lif_eq (pc := 580) E 884 dL_law_580 dL_law_581 (by decide) (fun _ => ?_) (fun q => absurd rfl q)
    refine h_widen (Nat.le_add_right _ 4) (Nat.le_add_right _ 27) ?_
    exact hnext adX n sx1 sm1 ha hR1
set_option maxRecDepth 100000 in
set_option maxHeartbeats 4000000 in
theorem lw_case_13 {X : fqX} {cy : Nat → ClassId} {adX adM : Nat → Nat} {n : Nat} {sx sm : fqS} {b L : Nat} {xs : Nat → Int32} {cells slots t a0 : Nat} {Rel : Nat → Nat → fqS → fqS → Prop} {K : Nat} (E : fqE X room_1 cy cL_law 4 wsL_law RL) (S : lwS X b L xs) (hL : L ≤ 2560) (hi : 5 * t + 5 ≤ L) (ha : adX 0 = a0) (hR : Rel t n sx sm) (hs : lwS_pairing Rel K) (hc : cells + 4 ≤ room_1.cells ∧ slots + 27 ≤ room_1.slots)
    (hnext : ∀ (adX' : Nat → Nat) (n' : Nat) (sx' sm' : fqS), adX' 0 = a0 → Rel (t + 1) n' sx' sm' → fqH X 4 (cells + 4) (slots + 27) (fqW (TX cy) ZX adX' n' sx' ++ fqW (TM cy) ZM adM 0 sm') 884 [(0, .ref b), (1, .ref a0), (2, .ref (adM 0)), (3, .int (nI (5 * t)))] []) : fqH X 4 cells slots (fqW (TX cy) ZX adX n sx ++ fqW (TM cy) ZM adM 0 sm) 586 [(0, .ref b), (1, .ref a0), (2, .ref (adM 0)), (3, .int (nI (5 * t)))] [] := by
  refine h_aload_n (pc := 586) E dL_law_586 1 rfl rfl ?_
  refine h_aload_n (pc := 587) E dL_law_587 0 rfl rfl ?_
  refine h_iload_n (pc := 588) E dL_law_588 3 rfl rfl ?_
  refine h_iconst (pc := 589) E (1 : Int32) dL_law_589 (by decide) ?_
  refine h_iadd (pc := 590) E dL_law_590 ?_
  refine h_sload (pc := 591) E S (5 * t + 1) (by omega) (by omega) (lw_add _ 1 _ rfl) dL_law_591 ?_
  refine h_aload_n (pc := 592) E dL_law_592 0 rfl rfl ?_
  refine h_iload_n (pc := 593) E dL_law_593 3 rfl rfl ?_
  refine h_iconst (pc := 594) E (2 : Int32) dL_law_594 (by decide) ?_
  refine h_iadd (pc := 595) E dL_law_595 ?_
  refine h_sload (pc := 596) E S (5 * t + 2) (by omega) (by omega) (lw_add _ 2 _ rfl) dL_law_596 ?_
  obtain ⟨r, sx1, sm1, e1, e2, hR1⟩ := hs t n sx sm (xs (5 * t + 1)) (xs (5 * t + 2)) (by omega) hR
  refine l_callX (pc := 597) E ha [.int (xs (5 * t + 1)), .int (xs (5 * t + 2))] (fun l D sz => qX8_pairing l D cy adX sz n sx K (xs (5 * t + 1)) (xs (5 * t + 2)) e1) gL_law_X8_pairing rfl rfl rfl kcX8_pairing ⟨by decide, by decide⟩ rfl rfl (Nat.le_of_ble_eq_true rfl) dL_law_597 ⟨Nat.le_trans (Nat.le_add_right _ 4) hc.1, Nat.le_trans (Nat.le_add_right _ 27) hc.2⟩ ?_
  refine h_aload_n (pc := 600) E dL_law_600 2 rfl rfl ?_
  refine h_aload_n (pc := 601) E dL_law_601 0 rfl rfl ?_
  refine h_iload_n (pc := 602) E dL_law_602 3 rfl rfl ?_
  refine h_iconst (pc := 603) E (1 : Int32) dL_law_603 (by decide) ?_
  refine h_iadd (pc := 604) E dL_law_604 ?_
  refine h_sload (pc := 605) E S (5 * t + 1) (by omega) (by omega) (lw_add _ 1 _ rfl) dL_law_605 ?_
  refine h_aload_n (pc := 606) E dL_law_606 0 rfl rfl ?_
  refine h_iload_n (pc := 607) E dL_law_607 3 rfl rfl ?_
  refine h_iconst (pc := 608) E (2 : Int32) dL_law_608 (by decide) ?_
  refine h_iadd (pc := 609) E dL_law_609 ?_
  refine h_sload (pc := 610) E S (5 * t + 2) (by omega) (by omega) (lw_add _ 2 _ rfl) dL_law_610 ?_
  refine l_callM (pc := 611) E [.int (xs (5 * t + 1)), .int (xs (5 * t + 2))] (fun l D sz => qX9_pairing l D cy adM sz 0 sm K (xs (5 * t + 1)) (xs (5 * t + 2)) e2) gL_law_X9_pairing rfl rfl rfl kcX9_pairing ⟨by decide, by decide⟩ rfl rfl (Nat.le_of_ble_eq_true rfl) dL_law_611 ⟨Nat.le_trans (Nat.le_add_right _ 4) hc.1, Nat.le_trans (Nat.le_add_right _ 27) hc.2⟩ ?_
  refine h_lif_eq (pc := 614) E 884 dL_law_614 dL_law_615 (by decide) (fun _ => ?_) (fun q => absurd rfl q)
  refine h_widen (Nat.le_add_right _ 4) (Nat.le_add_right _ 27) ?_
  exact hnext adX n sx1 sm1 ha hR1
set_option maxRecDepth 100000 in
set_option maxHeartbeats 4000000 in
theorem lw_case_14 {X : fqX} {cy : Nat → ClassId} {adX adM : Nat → Nat} {n : Nat} {sx sm : fqS} {b L : Nat} {xs : Nat → Int32} {cells slots t a0 : Nat} {Rel : Nat → Nat → fqS → fqS → Prop} {K : Nat} (E : fqE X room_1 cy cL_law 4 wsL_law RL) (S : lwS X b L xs) (hL : L ≤ 2560) (hi : 5 * t + 5 ≤ L) (ha : adX 0 = a0) (hR : Rel t n sx sm) (hs : lwS_tick Rel K) (hc : cells + 4 ≤ room_1.cells ∧ slots + 27 ≤ room_1.slots)
    (hnext : ∀ (adX' : Nat → Nat) (n' : Nat) (sx' sm' : fqS), adX' 0 = a0 → Rel (t + 1) n' sx' sm' → fqH X 4 (cells + 4) (slots + 27) (fqW (TX cy) ZX adX' n' sx' ++ fqW (TM cy) ZM adM 0 sm') 884 [(0, .ref b), (1, .ref a0), (2, .ref (adM 0)), (3, .int (nI (5 * t)))] []) : fqH X 4 cells slots (fqW (TX cy) ZX adX n sx ++ fqW (TM cy) ZM adM 0 sm) 620 [(0, .ref b), (1, .ref a0), (2, .ref (adM 0)), (3, .int (nI (5 * t)))] [] := by
  refine h_aload_n (pc := 620) E dL_law_620 1 rfl rfl ?_
  obtain ⟨r, sx1, sm1, e1, e2, hR1⟩ := hs t n sx sm (by omega) hR
  refine l_callX (pc := 621) E ha [] (fun l D sz => qX8_tick l D cy adX sz n sx K e1) gL_law_X8_tick rfl rfl rfl kcX8_tick ⟨by decide, by decide⟩ rfl rfl (Nat.le_of_ble_eq_true rfl) dL_law_621 ⟨Nat.le_trans (Nat.le_add_right _ 4) hc.1, Nat.le_trans (Nat.le_add_right _ 27) hc.2⟩ ?_
  refine h_aload_n (pc := 624) E dL_law_624 2 rfl rfl ?_
  refine l_callM (pc := 625) E [] (fun l D sz => qX9_tick l D cy adM sz 0 sm K e2) gL_law_X9_tick rfl rfl rfl kcX9_tick ⟨by decide, by decide⟩ rfl rfl (Nat.le_of_ble_eq_true rfl) dL_law_625 ⟨Nat.le_trans (Nat.le_add_right _ 4) hc.1, Nat.le_trans (Nat.le_add_right _ 27) hc.2⟩ ?_
  refine h_lif_eq (pc := 628) E 884 dL_law_628 dL_law_629 (by decide) (fun _ => ?_) (fun q => absurd rfl q)
  refine h_widen (Nat.le_add_right _ 4) (Nat.le_add_right _ 27) ?_
  exact hnext adX n sx1 sm1 ha hR1
set_option maxRecDepth 100000 in
set_option maxHeartbeats 4000000 in
theorem lw_case_15 {X : fqX} {cy : Nat → ClassId} {adX adM : Nat → Nat} {n : Nat} {sx sm : fqS} {b L : Nat} {xs : Nat → Int32} {cells slots t a0 : Nat} {Rel : Nat → Nat → fqS → fqS → Prop} {K : Nat} (E : fqE X room_1 cy cL_law 4 wsL_law RL) (S : lwS X b L xs) (hL : L ≤ 2560) (hi : 5 * t + 5 ≤ L) (ha : adX 0 = a0) (hR : Rel t n sx sm) (hs : lwS_match Rel K) (hc : cells + 4 ≤ room_1.cells ∧ slots + 27 ≤ room_1.slots)
    (hnext : ∀ (adX' : Nat → Nat) (n' : Nat) (sx' sm' : fqS), adX' 0 = a0 → Rel (t + 1) n' sx' sm' → fqH X 4 (cells + 4) (slots + 27) (fqW (TX cy) ZX adX' n' sx' ++ fqW (TM cy) ZM adM 0 sm') 884 [(0, .ref b), (1, .ref a0), (2, .ref (adM 0)), (3, .int (nI (5 * t)))] []) : fqH X 4 cells slots (fqW (TX cy) ZX adX n sx ++ fqW (TM cy) ZM adM 0 sm) 634 [(0, .ref b), (1, .ref a0), (2, .ref (adM 0)), (3, .int (nI (5 * t)))] [] := by
  refine h_aload_n (pc := 634) E dL_law_634 1 rfl rfl ?_
  refine h_aload_n (pc := 635) E dL_law_635 0 rfl rfl ?_
  refine h_iload_n (pc := 636) E dL_law_636 3 rfl rfl ?_
  refine h_iconst (pc := 637) E (1 : Int32) dL_law_637 (by decide) ?_
  refine h_iadd (pc := 638) E dL_law_638 ?_
  refine h_sload (pc := 639) E S (5 * t + 1) (by omega) (by omega) (lw_add _ 1 _ rfl) dL_law_639 ?_
  refine h_aload_n (pc := 640) E dL_law_640 0 rfl rfl ?_
  refine h_iload_n (pc := 641) E dL_law_641 3 rfl rfl ?_
  refine h_iconst (pc := 642) E (2 : Int32) dL_law_642 (by decide) ?_
  refine h_iadd (pc := 643) E dL_law_643 ?_
  refine h_sload (pc := 644) E S (5 * t + 2) (by omega) (by omega) (lw_add _ 2 _ rfl) dL_law_644 ?_
  obtain ⟨r, sx1, sm1, e1, e2, hR1⟩ := hs t n sx sm (xs (5 * t + 1)) (xs (5 * t + 2)) (by omega) hR
  refine l_callX (pc := 645) E ha [.int (xs (5 * t + 1)), .int (xs (5 * t + 2))] (fun l D sz => qX8_match l D cy adX sz n sx K (xs (5 * t + 1)) (xs (5 * t + 2)) e1) gL_law_X8_match rfl rfl rfl kcX8_match ⟨by decide, by decide⟩ rfl rfl (Nat.le_of_ble_eq_true rfl) dL_law_645 ⟨Nat.le_trans (Nat.le_add_right _ 4) hc.1, Nat.le_trans (Nat.le_add_right _ 27) hc.2⟩ ?_
  refine h_aload_n (pc := 648) E dL_law_648 2 rfl rfl ?_
  refine h_aload_n (pc := 649) E dL_law_649 0 rfl rfl ?_
  refine h_iload_n (pc := 650) E dL_law_650 3 rfl rfl ?_
  refine h_iconst (pc := 651) E (1 : Int32) dL_law_651 (by decide) ?_
  refine h_iadd (pc := 652) E dL_law_652 ?_
  refine h_sload (pc := 653) E S (5 * t + 1) (by omega) (by omega) (lw_add _ 1 _ rfl) dL_law_653 ?_
  refine h_aload_n (pc := 654) E dL_law_654 0 rfl rfl ?_
  refine h_iload_n (pc := 655) E dL_law_655 3 rfl rfl ?_
  refine h_iconst (pc := 656) E (2 : Int32) dL_law_656 (by decide) ?_
  refine h_iadd (pc := 657) E dL_law_657 ?_
  refine h_sload (pc := 658) E S (5 * t + 2) (by omega) (by omega) (lw_add _ 2 _ rfl) dL_law_658 ?_
  refine l_callM (pc := 659) E [.int (xs (5 * t + 1)), .int (xs (5 * t + 2))] (fun l D sz => qX9_match l D cy adM sz 0 sm K (xs (5 * t + 1)) (xs (5 * t + 2)) e2) gL_law_X9_match rfl rfl rfl kcX9_match ⟨by decide, by decide⟩ rfl rfl (Nat.le_of_ble_eq_true rfl) dL_law_659 ⟨Nat.le_trans (Nat.le_add_right _ 4) hc.1, Nat.le_trans (Nat.le_add_right _ 27) hc.2⟩ ?_
  refine h_lif_eq (pc := 662) E 884 dL_law_662 dL_law_663 (by decide) (fun _ => ?_) (fun q => absurd rfl q)
  refine h_widen (Nat.le_add_right _ 4) (Nat.le_add_right _ 27) ?_
  exact hnext adX n sx1 sm1 ha hR1
set_option maxRecDepth 100000 in
set_option maxHeartbeats 4000000 in
theorem lw_case_16 {X : fqX} {cy : Nat → ClassId} {adX adM : Nat → Nat} {n : Nat} {sx sm : fqS} {b L : Nat} {xs : Nat → Int32} {cells slots t a0 : Nat} {Rel : Nat → Nat → fqS → fqS → Prop} {K : Nat} (E : fqE X room_1 cy cL_law 4 wsL_law RL) (S : lwS X b L xs) (hL : L ≤ 2560) (hi : 5 * t + 5 ≤ L) (ha : adX 0 = a0) (hR : Rel t n sx sm) (hs : lwS_end Rel K) (hc : cells + 4 ≤ room_1.cells ∧ slots + 27 ≤ room_1.slots)
    (hnext : ∀ (adX' : Nat → Nat) (n' : Nat) (sx' sm' : fqS), adX' 0 = a0 → Rel (t + 1) n' sx' sm' → fqH X 4 (cells + 4) (slots + 27) (fqW (TX cy) ZX adX' n' sx' ++ fqW (TM cy) ZM adM 0 sm') 884 [(0, .ref b), (1, .ref a0), (2, .ref (adM 0)), (3, .int (nI (5 * t)))] []) : fqH X 4 cells slots (fqW (TX cy) ZX adX n sx ++ fqW (TM cy) ZM adM 0 sm) 668 [(0, .ref b), (1, .ref a0), (2, .ref (adM 0)), (3, .int (nI (5 * t)))] [] := by
  refine h_aload_n (pc := 668) E dL_law_668 1 rfl rfl ?_
  refine h_aload_n (pc := 669) E dL_law_669 0 rfl rfl ?_
  refine h_iload_n (pc := 670) E dL_law_670 3 rfl rfl ?_
  refine h_iconst (pc := 671) E (1 : Int32) dL_law_671 (by decide) ?_
  refine h_iadd (pc := 672) E dL_law_672 ?_
  refine h_sload (pc := 673) E S (5 * t + 1) (by omega) (by omega) (lw_add _ 1 _ rfl) dL_law_673 ?_
  refine h_aload_n (pc := 674) E dL_law_674 0 rfl rfl ?_
  refine h_iload_n (pc := 675) E dL_law_675 3 rfl rfl ?_
  refine h_iconst (pc := 676) E (2 : Int32) dL_law_676 (by decide) ?_
  refine h_iadd (pc := 677) E dL_law_677 ?_
  refine h_sload (pc := 678) E S (5 * t + 2) (by omega) (by omega) (lw_add _ 2 _ rfl) dL_law_678 ?_
  obtain ⟨r, sx1, sm1, e1, e2, hR1⟩ := hs t n sx sm (xs (5 * t + 1)) (xs (5 * t + 2)) (by omega) hR
  refine l_callX (pc := 679) E ha [.int (xs (5 * t + 1)), .int (xs (5 * t + 2))] (fun l D sz => qX8_end l D cy adX sz n sx K (xs (5 * t + 1)) (xs (5 * t + 2)) e1) gL_law_X8_end rfl rfl rfl kcX8_end ⟨by decide, by decide⟩ rfl rfl (Nat.le_of_ble_eq_true rfl) dL_law_679 ⟨Nat.le_trans (Nat.le_add_right _ 4) hc.1, Nat.le_trans (Nat.le_add_right _ 27) hc.2⟩ ?_
  refine h_aload_n (pc := 682) E dL_law_682 2 rfl rfl ?_
  refine h_aload_n (pc := 683) E dL_law_683 0 rfl rfl ?_
  refine h_iload_n (pc := 684) E dL_law_684 3 rfl rfl ?_
  refine h_iconst (pc := 685) E (1 : Int32) dL_law_685 (by decide) ?_
  refine h_iadd (pc := 686) E dL_law_686 ?_
  refine h_sload (pc := 687) E S (5 * t + 1) (by omega) (by omega) (lw_add _ 1 _ rfl) dL_law_687 ?_
  refine h_aload_n (pc := 688) E dL_law_688 0 rfl rfl ?_
  refine h_iload_n (pc := 689) E dL_law_689 3 rfl rfl ?_
  refine h_iconst (pc := 690) E (2 : Int32) dL_law_690 (by decide) ?_
  refine h_iadd (pc := 691) E dL_law_691 ?_
  refine h_sload (pc := 692) E S (5 * t + 2) (by omega) (by omega) (lw_add _ 2 _ rfl) dL_law_692 ?_
  refine l_callM (pc := 693) E [.int (xs (5 * t + 1)), .int (xs (5 * t + 2))] (fun l D sz => qX9_end l D cy adM sz 0 sm K (xs (5 * t + 1)) (xs (5 * t + 2)) e2) gL_law_X9_end rfl rfl rfl kcX9_end ⟨by decide, by decide⟩ rfl rfl (Nat.le_of_ble_eq_true rfl) dL_law_693 ⟨Nat.le_trans (Nat.le_add_right _ 4) hc.1, Nat.le_trans (Nat.le_add_right _ 27) hc.2⟩ ?_
  refine h_lif_eq (pc := 696) E 884 dL_law_696 dL_law_697 (by decide) (fun _ => ?_) (fun q => absurd rfl q)
  refine h_widen (Nat.le_add_right _ 4) (Nat.le_add_right _ 27) ?_
  exact hnext adX n sx1 sm1 ha hR1
set_option maxRecDepth 100000 in
set_option maxHeartbeats 4000000 in
theorem lw_case_17 {X : fqX} {cy : Nat → ClassId} {adX adM : Nat → Nat} {n : Nat} {sx sm : fqS} {b L : Nat} {xs : Nat → Int32} {cells slots t a0 : Nat} {Rel : Nat → Nat → fqS → fqS → Prop} {K : Nat} (E : fqE X room_1 cy cL_law 4 wsL_law RL) (S : lwS X b L xs) (hL : L ≤ 2560) (hi : 5 * t + 5 ≤ L) (ha : adX 0 = a0) (hR : Rel t n sx sm) (hs : lwS_drop Rel K) (hc : cells + 4 ≤ room_1.cells ∧ slots + 27 ≤ room_1.slots)
    (hnext : ∀ (adX' : Nat → Nat) (n' : Nat) (sx' sm' : fqS), adX' 0 = a0 → Rel (t + 1) n' sx' sm' → fqH X 4 (cells + 4) (slots + 27) (fqW (TX cy) ZX adX' n' sx' ++ fqW (TM cy) ZM adM 0 sm') 884 [(0, .ref b), (1, .ref a0), (2, .ref (adM 0)), (3, .int (nI (5 * t)))] []) : fqH X 4 cells slots (fqW (TX cy) ZX adX n sx ++ fqW (TM cy) ZM adM 0 sm) 702 [(0, .ref b), (1, .ref a0), (2, .ref (adM 0)), (3, .int (nI (5 * t)))] [] := by
  refine h_aload_n (pc := 702) E dL_law_702 1 rfl rfl ?_
  refine h_aload_n (pc := 703) E dL_law_703 0 rfl rfl ?_
  refine h_iload_n (pc := 704) E dL_law_704 3 rfl rfl ?_
  refine h_iconst (pc := 705) E (1 : Int32) dL_law_705 (by decide) ?_
  refine h_iadd (pc := 706) E dL_law_706 ?_
  refine h_sload (pc := 707) E S (5 * t + 1) (by omega) (by omega) (lw_add _ 1 _ rfl) dL_law_707 ?_
  obtain ⟨r, sx1, sm1, e1, e2, hR1⟩ := hs t n sx sm (xs (5 * t + 1)) (by omega) hR
  refine l_callX (pc := 708) E ha [.int (xs (5 * t + 1))] (fun l D sz => qX8_drop l D cy adX sz n sx K (xs (5 * t + 1)) e1) gL_law_X8_drop rfl rfl rfl kcX8_drop ⟨by decide, by decide⟩ rfl rfl (Nat.le_of_ble_eq_true rfl) dL_law_708 ⟨Nat.le_trans (Nat.le_add_right _ 4) hc.1, Nat.le_trans (Nat.le_add_right _ 27) hc.2⟩ ?_
  refine h_aload_n (pc := 711) E dL_law_711 2 rfl rfl ?_
  refine h_aload_n (pc := 712) E dL_law_712 0 rfl rfl ?_
  refine h_iload_n (pc := 713) E dL_law_713 3 rfl rfl ?_
  refine h_iconst (pc := 714) E (1 : Int32) dL_law_714 (by decide) ?_
  refine h_iadd (pc := 715) E dL_law_715 ?_
  refine h_sload (pc := 716) E S (5 * t + 1) (by omega) (by omega) (lw_add _ 1 _ rfl) dL_law_716 ?_
  refine l_callM (pc := 717) E [.int (xs (5 * t + 1))] (fun l D sz => qX9_drop l D cy adM sz 0 sm K (xs (5 * t + 1)) e2) gL_law_X9_drop rfl rfl rfl kcX9_drop ⟨by decide, by decide⟩ rfl rfl (Nat.le_of_ble_eq_true rfl) dL_law_717 ⟨Nat.le_trans (Nat.le_add_right _ 4) hc.1, Nat.le_trans (Nat.le_add_right _ 27) hc.2⟩ ?_
  refine h_lif_eq (pc := 720) E 884 dL_law_720 dL_law_721 (by decide) (fun _ => ?_) (fun q => absurd rfl q)
  refine h_widen (Nat.le_add_right _ 4) (Nat.le_add_right _ 27) ?_
  exact hnext adX n sx1 sm1 ha hR1
set_option maxRecDepth 100000 in
set_option maxHeartbeats 4000000 in
theorem lw_case_18 {X : fqX} {cy : Nat → ClassId} {adX adM : Nat → Nat} {n : Nat} {sx sm : fqS} {b L : Nat} {xs : Nat → Int32} {cells slots t a0 : Nat} {Rel : Nat → Nat → fqS → fqS → Prop} {K : Nat} (E : fqE X room_1 cy cL_law 4 wsL_law RL) (S : lwS X b L xs) (hL : L ≤ 2560) (hi : 5 * t + 5 ≤ L) (ha : adX 0 = a0) (hR : Rel t n sx sm) (hs : lwS_surprise Rel K) (hc : cells + 4 ≤ room_1.cells ∧ slots + 27 ≤ room_1.slots)
    (hnext : ∀ (adX' : Nat → Nat) (n' : Nat) (sx' sm' : fqS), adX' 0 = a0 → Rel (t + 1) n' sx' sm' → fqH X 4 (cells + 4) (slots + 27) (fqW (TX cy) ZX adX' n' sx' ++ fqW (TM cy) ZM adM 0 sm') 884 [(0, .ref b), (1, .ref a0), (2, .ref (adM 0)), (3, .int (nI (5 * t)))] []) : fqH X 4 cells slots (fqW (TX cy) ZX adX n sx ++ fqW (TM cy) ZM adM 0 sm) 726 [(0, .ref b), (1, .ref a0), (2, .ref (adM 0)), (3, .int (nI (5 * t)))] [] := by
  refine h_aload_n (pc := 726) E dL_law_726 1 rfl rfl ?_
  refine h_aload_n (pc := 727) E dL_law_727 0 rfl rfl ?_
  refine h_iload_n (pc := 728) E dL_law_728 3 rfl rfl ?_
  refine h_iconst (pc := 729) E (1 : Int32) dL_law_729 (by decide) ?_
  refine h_iadd (pc := 730) E dL_law_730 ?_
  refine h_sload (pc := 731) E S (5 * t + 1) (by omega) (by omega) (lw_add _ 1 _ rfl) dL_law_731 ?_
  refine h_aload_n (pc := 732) E dL_law_732 0 rfl rfl ?_
  refine h_iload_n (pc := 733) E dL_law_733 3 rfl rfl ?_
  refine h_iconst (pc := 734) E (2 : Int32) dL_law_734 (by decide) ?_
  refine h_iadd (pc := 735) E dL_law_735 ?_
  refine h_sload (pc := 736) E S (5 * t + 2) (by omega) (by omega) (lw_add _ 2 _ rfl) dL_law_736 ?_
  obtain ⟨r, sx1, sm1, e1, e2, hR1⟩ := hs t n sx sm (xs (5 * t + 1)) (xs (5 * t + 2)) (by omega) hR
  refine l_callX (pc := 737) E ha [.int (xs (5 * t + 1)), .int (xs (5 * t + 2))] (fun l D sz => qX8_surprise l D cy adX sz n sx K (xs (5 * t + 1)) (xs (5 * t + 2)) e1) gL_law_X8_surprise rfl rfl rfl kcX8_surprise ⟨by decide, by decide⟩ rfl rfl (Nat.le_of_ble_eq_true rfl) dL_law_737 ⟨Nat.le_trans (Nat.le_add_right _ 4) hc.1, Nat.le_trans (Nat.le_add_right _ 27) hc.2⟩ ?_
  refine h_aload_n (pc := 740) E dL_law_740 2 rfl rfl ?_
  refine h_aload_n (pc := 741) E dL_law_741 0 rfl rfl ?_
  refine h_iload_n (pc := 742) E dL_law_742 3 rfl rfl ?_
  refine h_iconst (pc := 743) E (1 : Int32) dL_law_743 (by decide) ?_
  refine h_iadd (pc := 744) E dL_law_744 ?_
  refine h_sload (pc := 745) E S (5 * t + 1) (by omega) (by omega) (lw_add _ 1 _ rfl) dL_law_745 ?_
  refine h_aload_n (pc := 746) E dL_law_746 0 rfl rfl ?_
  refine h_iload_n (pc := 747) E dL_law_747 3 rfl rfl ?_
  refine h_iconst (pc := 748) E (2 : Int32) dL_law_748 (by decide) ?_
  refine h_iadd (pc := 749) E dL_law_749 ?_
  refine h_sload (pc := 750) E S (5 * t + 2) (by omega) (by omega) (lw_add _ 2 _ rfl) dL_law_750 ?_
  refine l_callM (pc := 751) E [.int (xs (5 * t + 1)), .int (xs (5 * t + 2))] (fun l D sz => qX9_surprise l D cy adM sz 0 sm K (xs (5 * t + 1)) (xs (5 * t + 2)) e2) gL_law_X9_surprise rfl rfl rfl kcX9_surprise ⟨by decide, by decide⟩ rfl rfl (Nat.le_of_ble_eq_true rfl) dL_law_751 ⟨Nat.le_trans (Nat.le_add_right _ 4) hc.1, Nat.le_trans (Nat.le_add_right _ 27) hc.2⟩ ?_
  refine h_lif_eq (pc := 754) E 884 dL_law_754 dL_law_755 (by decide) (fun _ => ?_) (fun q => absurd rfl q)
  refine h_widen (Nat.le_add_right _ 4) (Nat.le_add_right _ 27) ?_
  exact hnext adX n sx1 sm1 ha hR1
set_option maxRecDepth 100000 in
set_option maxHeartbeats 4000000 in
theorem lw_case_19 {X : fqX} {cy : Nat → ClassId} {adX adM : Nat → Nat} {n : Nat} {sx sm : fqS} {b L : Nat} {xs : Nat → Int32} {cells slots t a0 : Nat} {Rel : Nat → Nat → fqS → fqS → Prop} {K : Nat} (E : fqE X room_1 cy cL_law 4 wsL_law RL) (S : lwS X b L xs) (hL : L ≤ 2560) (hi : 5 * t + 5 ≤ L) (ha : adX 0 = a0) (hR : Rel t n sx sm) (hs : lwS_sinking Rel K) (hc : cells + 4 ≤ room_1.cells ∧ slots + 27 ≤ room_1.slots)
    (hnext : ∀ (adX' : Nat → Nat) (n' : Nat) (sx' sm' : fqS), adX' 0 = a0 → Rel (t + 1) n' sx' sm' → fqH X 4 (cells + 4) (slots + 27) (fqW (TX cy) ZX adX' n' sx' ++ fqW (TM cy) ZM adM 0 sm') 884 [(0, .ref b), (1, .ref a0), (2, .ref (adM 0)), (3, .int (nI (5 * t)))] []) : fqH X 4 cells slots (fqW (TX cy) ZX adX n sx ++ fqW (TM cy) ZM adM 0 sm) 760 [(0, .ref b), (1, .ref a0), (2, .ref (adM 0)), (3, .int (nI (5 * t)))] [] := by
  refine h_aload_n (pc := 760) E dL_law_760 1 rfl rfl ?_
  obtain ⟨r, e1, e2, hR1⟩ := hs t n sx sm (by omega) hR
  refine l_callX (pc := 761) E ha [] (fun l D sz => qX8_sinking l D cy adX sz n sx K e1) gL_law_X8_sinking rfl rfl rfl kcX8_sinking ⟨by decide, by decide⟩ rfl rfl (Nat.le_of_ble_eq_true rfl) dL_law_761 ⟨Nat.le_trans (Nat.le_add_right _ 4) hc.1, Nat.le_trans (Nat.le_add_right _ 27) hc.2⟩ ?_
  refine h_aload_n (pc := 764) E dL_law_764 2 rfl rfl ?_
  refine l_callM (pc := 765) E [] (fun l D sz => qX9_sinking l D cy adM sz 0 sm K e2) gL_law_X9_sinking rfl rfl rfl kcX9_sinking ⟨by decide, by decide⟩ rfl rfl (Nat.le_of_ble_eq_true rfl) dL_law_765 ⟨Nat.le_trans (Nat.le_add_right _ 4) hc.1, Nat.le_trans (Nat.le_add_right _ 27) hc.2⟩ ?_
  refine h_lif_eq (pc := 768) E 884 dL_law_768 dL_law_769 (by decide) (fun _ => ?_) (fun q => absurd rfl q)
  refine h_widen (Nat.le_add_right _ 4) (Nat.le_add_right _ 27) ?_
  exact hnext adX n sx sm ha hR1
set_option maxRecDepth 100000 in
set_option maxHeartbeats 4000000 in
theorem lw_case_20 {X : fqX} {cy : Nat → ClassId} {adX adM : Nat → Nat} {n : Nat} {sx sm : fqS} {b L : Nat} {xs : Nat → Int32} {cells slots t a0 : Nat} {Rel : Nat → Nat → fqS → fqS → Prop} {K : Nat} (E : fqE X room_1 cy cL_law 4 wsL_law RL) (S : lwS X b L xs) (hL : L ≤ 2560) (hi : 5 * t + 5 ≤ L) (ha : adX 0 = a0) (hR : Rel t n sx sm) (hs : lwS_limit Rel K) (hc : cells + 4 ≤ room_1.cells ∧ slots + 27 ≤ room_1.slots)
    (hnext : ∀ (adX' : Nat → Nat) (n' : Nat) (sx' sm' : fqS), adX' 0 = a0 → Rel (t + 1) n' sx' sm' → fqH X 4 (cells + 4) (slots + 27) (fqW (TX cy) ZX adX' n' sx' ++ fqW (TM cy) ZM adM 0 sm') 884 [(0, .ref b), (1, .ref a0), (2, .ref (adM 0)), (3, .int (nI (5 * t)))] []) : fqH X 4 cells slots (fqW (TX cy) ZX adX n sx ++ fqW (TM cy) ZM adM 0 sm) 774 [(0, .ref b), (1, .ref a0), (2, .ref (adM 0)), (3, .int (nI (5 * t)))] [] := by
  refine h_aload_n (pc := 774) E dL_law_774 1 rfl rfl ?_
  refine h_aload_n (pc := 775) E dL_law_775 0 rfl rfl ?_
  refine h_iload_n (pc := 776) E dL_law_776 3 rfl rfl ?_
  refine h_iconst (pc := 777) E (1 : Int32) dL_law_777 (by decide) ?_
  refine h_iadd (pc := 778) E dL_law_778 ?_
  refine h_sload (pc := 779) E S (5 * t + 1) (by omega) (by omega) (lw_add _ 1 _ rfl) dL_law_779 ?_
  obtain ⟨r, sx1, sm1, e1, e2, hR1⟩ := hs t n sx sm (xs (5 * t + 1)) (by omega) hR
  refine l_callX (pc := 780) E ha [.int (xs (5 * t + 1))] (fun l D sz => qX8_limit l D cy adX sz n sx K (xs (5 * t + 1)) e1) gL_law_X8_limit rfl rfl rfl kcX8_limit ⟨by decide, by decide⟩ rfl rfl (Nat.le_of_ble_eq_true rfl) dL_law_780 ⟨Nat.le_trans (Nat.le_add_right _ 4) hc.1, Nat.le_trans (Nat.le_add_right _ 27) hc.2⟩ ?_
  refine h_aload_n (pc := 783) E dL_law_783 2 rfl rfl ?_
  refine h_aload_n (pc := 784) E dL_law_784 0 rfl rfl ?_
  refine h_iload_n (pc := 785) E dL_law_785 3 rfl rfl ?_
  refine h_iconst (pc := 786) E (1 : Int32) dL_law_786 (by decide) ?_
  refine h_iadd (pc := 787) E dL_law_787 ?_
  refine h_sload (pc := 788) E S (5 * t + 1) (by omega) (by omega) (lw_add _ 1 _ rfl) dL_law_788 ?_
  refine l_callM (pc := 789) E [.int (xs (5 * t + 1))] (fun l D sz => qX9_limit l D cy adM sz 0 sm K (xs (5 * t + 1)) e2) gL_law_X9_limit rfl rfl rfl kcX9_limit ⟨by decide, by decide⟩ rfl rfl (Nat.le_of_ble_eq_true rfl) dL_law_789 ⟨Nat.le_trans (Nat.le_add_right _ 4) hc.1, Nat.le_trans (Nat.le_add_right _ 27) hc.2⟩ ?_
  refine h_lif_eq (pc := 792) E 884 dL_law_792 dL_law_793 (by decide) (fun _ => ?_) (fun q => absurd rfl q)
  refine h_widen (Nat.le_add_right _ 4) (Nat.le_add_right _ 27) ?_
  exact hnext adX n sx1 sm1 ha hR1
set_option maxRecDepth 100000 in
set_option maxHeartbeats 4000000 in
theorem lw_case_21 {X : fqX} {cy : Nat → ClassId} {adX adM : Nat → Nat} {n : Nat} {sx sm : fqS} {b L : Nat} {xs : Nat → Int32} {cells slots t a0 : Nat} {Rel : Nat → Nat → fqS → fqS → Prop} {K : Nat} (E : fqE X room_1 cy cL_law 4 wsL_law RL) (S : lwS X b L xs) (hL : L ≤ 2560) (hi : 5 * t + 5 ≤ L) (ha : adX 0 = a0) (hR : Rel t n sx sm) (hs : lwS_tell Rel K) (hc : cells + 4 ≤ room_1.cells ∧ slots + 27 ≤ room_1.slots)
    (hnext : ∀ (adX' : Nat → Nat) (n' : Nat) (sx' sm' : fqS), adX' 0 = a0 → Rel (t + 1) n' sx' sm' → fqH X 4 (cells + 4) (slots + 27) (fqW (TX cy) ZX adX' n' sx' ++ fqW (TM cy) ZM adM 0 sm') 884 [(0, .ref b), (1, .ref a0), (2, .ref (adM 0)), (3, .int (nI (5 * t)))] []) : fqH X 4 cells slots (fqW (TX cy) ZX adX n sx ++ fqW (TM cy) ZM adM 0 sm) 798 [(0, .ref b), (1, .ref a0), (2, .ref (adM 0)), (3, .int (nI (5 * t)))] [] := by
  refine h_aload_n (pc := 798) E dL_law_798 1 rfl rfl ?_
  refine h_aload_n (pc := 799) E dL_law_799 0 rfl rfl ?_
  refine h_iload_n (pc := 800) E dL_law_800 3 rfl rfl ?_
  refine h_iconst (pc := 801) E (1 : Int32) dL_law_801 (by decide) ?_
  refine h_iadd (pc := 802) E dL_law_802 ?_
  refine h_sload (pc := 803) E S (5 * t + 1) (by omega) (by omega) (lw_add _ 1 _ rfl) dL_law_803 ?_
  obtain ⟨r, sx1, sm1, e1, e2, hR1⟩ := hs t n sx sm (xs (5 * t + 1)) (by omega) hR
  refine l_callX (pc := 804) E ha [.int (xs (5 * t + 1))] (fun l D sz => qX8_tell l D cy adX sz n sx K (xs (5 * t + 1)) e1) gL_law_X8_tell rfl rfl rfl kcX8_tell ⟨by decide, by decide⟩ rfl rfl (Nat.le_of_ble_eq_true rfl) dL_law_804 ⟨Nat.le_trans (Nat.le_add_right _ 4) hc.1, Nat.le_trans (Nat.le_add_right _ 27) hc.2⟩ ?_
  refine h_aload_n (pc := 807) E dL_law_807 2 rfl rfl ?_
  refine h_aload_n (pc := 808) E dL_law_808 0 rfl rfl ?_
  refine h_iload_n (pc := 809) E dL_law_809 3 rfl rfl ?_
  refine h_iconst (pc := 810) E (1 : Int32) dL_law_810 (by decide) ?_
  refine h_iadd (pc := 811) E dL_law_811 ?_
  refine h_sload (pc := 812) E S (5 * t + 1) (by omega) (by omega) (lw_add _ 1 _ rfl) dL_law_812 ?_
  refine l_callM (pc := 813) E [.int (xs (5 * t + 1))] (fun l D sz => qX9_tell l D cy adM sz 0 sm K (xs (5 * t + 1)) e2) gL_law_X9_tell rfl rfl rfl kcX9_tell ⟨by decide, by decide⟩ rfl rfl (Nat.le_of_ble_eq_true rfl) dL_law_813 ⟨Nat.le_trans (Nat.le_add_right _ 4) hc.1, Nat.le_trans (Nat.le_add_right _ 27) hc.2⟩ ?_
  refine h_lif_eq (pc := 816) E 884 dL_law_816 dL_law_817 (by decide) (fun _ => ?_) (fun q => absurd rfl q)
  refine h_widen (Nat.le_add_right _ 4) (Nat.le_add_right _ 27) ?_
  exact hnext adX n sx1 sm1 ha hR1
set_option maxRecDepth 100000 in
set_option maxHeartbeats 4000000 in
theorem lw_case_22 {X : fqX} {cy : Nat → ClassId} {adX adM : Nat → Nat} {n : Nat} {sx sm : fqS} {b L : Nat} {xs : Nat → Int32} {cells slots t a0 : Nat} {Rel : Nat → Nat → fqS → fqS → Prop} {K : Nat} (E : fqE X room_1 cy cL_law 4 wsL_law RL) (S : lwS X b L xs) (hL : L ≤ 2560) (hi : 5 * t + 5 ≤ L) (ha : adX 0 = a0) (hR : Rel t n sx sm) (hs : lwS_check Rel K) (hc : cells + 4 ≤ room_1.cells ∧ slots + 27 ≤ room_1.slots)
    (hnext : ∀ (adX' : Nat → Nat) (n' : Nat) (sx' sm' : fqS), adX' 0 = a0 → Rel (t + 1) n' sx' sm' → fqH X 4 (cells + 4) (slots + 27) (fqW (TX cy) ZX adX' n' sx' ++ fqW (TM cy) ZM adM 0 sm') 884 [(0, .ref b), (1, .ref a0), (2, .ref (adM 0)), (3, .int (nI (5 * t)))] []) : fqH X 4 cells slots (fqW (TX cy) ZX adX n sx ++ fqW (TM cy) ZM adM 0 sm) 822 [(0, .ref b), (1, .ref a0), (2, .ref (adM 0)), (3, .int (nI (5 * t)))] [] := by
  refine h_aload_n (pc := 822) E dL_law_822 1 rfl rfl ?_
  obtain ⟨r, sx1, sm1, e1, e2, hR1⟩ := hs t n sx sm (by omega) hR
  refine l_callX (pc := 823) E ha [] (fun l D sz => qX8_check l D cy adX sz n sx K e1) gL_law_X8_check rfl rfl rfl kcX8_check ⟨by decide, by decide⟩ rfl rfl (Nat.le_of_ble_eq_true rfl) dL_law_823 ⟨Nat.le_trans (Nat.le_add_right _ 4) hc.1, Nat.le_trans (Nat.le_add_right _ 27) hc.2⟩ ?_
  refine h_aload_n (pc := 826) E dL_law_826 2 rfl rfl ?_
  refine l_callM (pc := 827) E [] (fun l D sz => qX9_check l D cy adM sz 0 sm K e2) gL_law_X9_check rfl rfl rfl kcX9_check ⟨by decide, by decide⟩ rfl rfl (Nat.le_of_ble_eq_true rfl) dL_law_827 ⟨Nat.le_trans (Nat.le_add_right _ 4) hc.1, Nat.le_trans (Nat.le_add_right _ 27) hc.2⟩ ?_
  refine h_lif_eq (pc := 830) E 884 dL_law_830 dL_law_831 (by decide) (fun _ => ?_) (fun q => absurd rfl q)
  refine h_widen (Nat.le_add_right _ 4) (Nat.le_add_right _ 27) ?_
  exact hnext adX n sx1 sm1 ha hR1
set_option maxRecDepth 100000 in
set_option maxHeartbeats 4000000 in
theorem lw_case_23 {X : fqX} {cy : Nat → ClassId} {adX adM : Nat → Nat} {n : Nat} {sx sm : fqS} {b L : Nat} {xs : Nat → Int32} {cells slots t a0 : Nat} {Rel : Nat → Nat → fqS → fqS → Prop} {K : Nat} (E : fqE X room_1 cy cL_law 4 wsL_law RL) (S : lwS X b L xs) (hL : L ≤ 2560) (hi : 5 * t + 5 ≤ L) (ha : adX 0 = a0) (hR : Rel t n sx sm) (hs : lwS_count Rel K) (hc : cells + 4 ≤ room_1.cells ∧ slots + 27 ≤ room_1.slots)
    (hnext : ∀ (adX' : Nat → Nat) (n' : Nat) (sx' sm' : fqS), adX' 0 = a0 → Rel (t + 1) n' sx' sm' → fqH X 4 (cells + 4) (slots + 27) (fqW (TX cy) ZX adX' n' sx' ++ fqW (TM cy) ZM adM 0 sm') 884 [(0, .ref b), (1, .ref a0), (2, .ref (adM 0)), (3, .int (nI (5 * t)))] []) : fqH X 4 cells slots (fqW (TX cy) ZX adX n sx ++ fqW (TM cy) ZM adM 0 sm) 836 [(0, .ref b), (1, .ref a0), (2, .ref (adM 0)), (3, .int (nI (5 * t)))] [] := by
  refine h_aload_n (pc := 836) E dL_law_836 1 rfl rfl ?_
  refine h_aload_n (pc := 837) E dL_law_837 0 rfl rfl ?_
  refine h_iload_n (pc := 838) E dL_law_838 3 rfl rfl ?_
  refine h_iconst (pc := 839) E (1 : Int32) dL_law_839 (by decide) ?_
  refine h_iadd (pc := 840) E dL_law_840 ?_
  refine h_sload (pc := 841) E S (5 * t + 1) (by omega) (by omega) (lw_add _ 1 _ rfl) dL_law_841 ?_
  obtain ⟨r, sx1, sm1, e1, e2, hR1⟩ := hs t n sx sm (xs (5 * t + 1)) (by omega) hR
  refine l_callX (pc := 842) E ha [.int (xs (5 * t + 1))] (fun l D sz => qX8_count l D cy adX sz n sx K (xs (5 * t + 1)) e1) gL_law_X8_count rfl rfl rfl kcX8_count ⟨by decide, by decide⟩ rfl rfl (Nat.le_of_ble_eq_true rfl) dL_law_842 ⟨Nat.le_trans (Nat.le_add_right _ 4) hc.1, Nat.le_trans (Nat.le_add_right _ 27) hc.2⟩ ?_
  refine h_aload_n (pc := 845) E dL_law_845 2 rfl rfl ?_
  refine h_aload_n (pc := 846) E dL_law_846 0 rfl rfl ?_
  refine h_iload_n (pc := 847) E dL_law_847 3 rfl rfl ?_
  refine h_iconst (pc := 848) E (1 : Int32) dL_law_848 (by decide) ?_
  refine h_iadd (pc := 849) E dL_law_849 ?_
  refine h_sload (pc := 850) E S (5 * t + 1) (by omega) (by omega) (lw_add _ 1 _ rfl) dL_law_850 ?_
  refine l_callM (pc := 851) E [.int (xs (5 * t + 1))] (fun l D sz => qX9_count l D cy adM sz 0 sm K (xs (5 * t + 1)) e2) gL_law_X9_count rfl rfl rfl kcX9_count ⟨by decide, by decide⟩ rfl rfl (Nat.le_of_ble_eq_true rfl) dL_law_851 ⟨Nat.le_trans (Nat.le_add_right _ 4) hc.1, Nat.le_trans (Nat.le_add_right _ 27) hc.2⟩ ?_
  refine h_lif_eq (pc := 854) E 884 dL_law_854 dL_law_855 (by decide) (fun _ => ?_) (fun q => absurd rfl q)
  refine h_widen (Nat.le_add_right _ 4) (Nat.le_add_right _ 27) ?_
  exact hnext adX n sx1 sm1 ha hR1
set_option maxRecDepth 100000 in
set_option maxHeartbeats 4000000 in
theorem lw_case_24 {X : fqX} {cy : Nat → ClassId} {adX adM : Nat → Nat} {n : Nat} {sx sm : fqS} {b L : Nat} {xs : Nat → Int32} {cells slots t a0 : Nat} {Rel : Nat → Nat → fqS → fqS → Prop} {K : Nat} (E : fqE X room_1 cy cL_law 4 wsL_law RL) (S : lwS X b L xs) (hL : L ≤ 2560) (hi : 5 * t + 5 ≤ L) (ha : adX 0 = a0) (hR : Rel t n sx sm) (hs : lwS_found Rel K) (hc : cells + 4 ≤ room_1.cells ∧ slots + 27 ≤ room_1.slots)
    (hnext : ∀ (adX' : Nat → Nat) (n' : Nat) (sx' sm' : fqS), adX' 0 = a0 → Rel (t + 1) n' sx' sm' → fqH X 4 (cells + 4) (slots + 27) (fqW (TX cy) ZX adX' n' sx' ++ fqW (TM cy) ZM adM 0 sm') 884 [(0, .ref b), (1, .ref a0), (2, .ref (adM 0)), (3, .int (nI (5 * t)))] []) : fqH X 4 cells slots (fqW (TX cy) ZX adX n sx ++ fqW (TM cy) ZM adM 0 sm) 860 [(0, .ref b), (1, .ref a0), (2, .ref (adM 0)), (3, .int (nI (5 * t)))] [] := by
  refine h_aload_n (pc := 860) E dL_law_860 1 rfl rfl ?_
  refine h_aload_n (pc := 861) E dL_law_861 0 rfl rfl ?_
  refine h_iload_n (pc := 862) E dL_law_862 3 rfl rfl ?_
  refine h_iconst (pc := 863) E (1 : Int32) dL_law_863 (by decide) ?_
  refine h_iadd (pc := 864) E dL_law_864 ?_
  refine h_sload (pc := 865) E S (5 * t + 1) (by omega) (by omega) (lw_add _ 1 _ rfl) dL_law_865 ?_
  obtain ⟨r, sx1, sm1, e1, e2, hR1⟩ := hs t n sx sm (xs (5 * t + 1)) (by omega) hR
  refine l_callX (pc := 866) E ha [.int (xs (5 * t + 1))] (fun l D sz => qX8_found l D cy adX sz n sx K (xs (5 * t + 1)) e1) gL_law_X8_found rfl rfl rfl kcX8_found ⟨by decide, by decide⟩ rfl rfl (Nat.le_of_ble_eq_true rfl) dL_law_866 ⟨Nat.le_trans (Nat.le_add_right _ 4) hc.1, Nat.le_trans (Nat.le_add_right _ 27) hc.2⟩ ?_
  refine h_aload_n (pc := 869) E dL_law_869 2 rfl rfl ?_
  refine h_aload_n (pc := 870) E dL_law_870 0 rfl rfl ?_
  refine h_iload_n (pc := 871) E dL_law_871 3 rfl rfl ?_
  refine h_iconst (pc := 872) E (1 : Int32) dL_law_872 (by decide) ?_
  refine h_iadd (pc := 873) E dL_law_873 ?_
  refine h_sload (pc := 874) E S (5 * t + 1) (by omega) (by omega) (lw_add _ 1 _ rfl) dL_law_874 ?_
  refine l_callM (pc := 875) E [.int (xs (5 * t + 1))] (fun l D sz => qX9_found l D cy adM sz 0 sm K (xs (5 * t + 1)) e2) gL_law_X9_found rfl rfl rfl kcX9_found ⟨by decide, by decide⟩ rfl rfl (Nat.le_of_ble_eq_true rfl) dL_law_875 ⟨Nat.le_trans (Nat.le_add_right _ 4) hc.1, Nat.le_trans (Nat.le_add_right _ 27) hc.2⟩ ?_
  refine h_lif_eq (pc := 878) E 884 dL_law_878 dL_law_879 (by decide) (fun _ => ?_) (fun q => absurd rfl q)
  refine h_widen (Nat.le_add_right _ 4) (Nat.le_add_right _ 27) ?_
  exact hnext adX n sx1 sm1 ha hR1
def lwAll (Rel : Nat → Nat → fqS → fqS → Prop) (K : Nat) : Prop := lwS_player Rel K ∧ lwS_become Rel K ∧ lwS_as Rel K ∧ lwS_share Rel K ∧ lwS_shift Rel K ∧ lwS_mean Rel K ∧ lwS_chance Rel K ∧ lwS_season Rel K ∧ lwS_size Rel K ∧ lwS_bounds Rel K ∧ lwS_wait Rel K ∧ lwS_leave Rel K ∧ lwS_waited Rel K ∧ lwS_pairing Rel K ∧ lwS_tick Rel K ∧ lwS_match Rel K ∧ lwS_end Rel K ∧ lwS_drop Rel K ∧ lwS_surprise Rel K ∧ lwS_sinking Rel K ∧ lwS_limit Rel K ∧ lwS_tell Rel K ∧ lwS_check Rel K ∧ lwS_count Rel K ∧ lwS_found Rel K
theorem lw_sw25 {x : Int32} (h0 : ¬ x = 0) (h1 : ¬ x = 1) (h2 : ¬ x = 2) (h3 : ¬ x = 3) (h4 : ¬ x = 4) (h5 : ¬ x = 5) (h6 : ¬ x = 6) (h7 : ¬ x = 7) (h8 : ¬ x = 8) (h9 : ¬ x = 9) (h10 : ¬ x = 10) (h11 : ¬ x = 11) (h12 : ¬ x = 12) (h13 : ¬ x = 13) (h14 : ¬ x = 14) (h15 : ¬ x = 15) (h16 : ¬ x = 16) (h17 : ¬ x = 17) (h18 : ¬ x = 18) (h19 : ¬ x = 19) (h20 : ¬ x = 20) (h21 : ¬ x = 21) (h22 : ¬ x = 22) (h23 : ¬ x = 23) (h24 : ¬ x = 24) : x.toInt < 0 ∨ 24 < x.toInt := by
  have a0 : x.toInt ≠ 0 := fq_i32 h0
  have a1 : x.toInt ≠ 1 := fq_i32 h1
  have a2 : x.toInt ≠ 2 := fq_i32 h2
  have a3 : x.toInt ≠ 3 := fq_i32 h3
  have a4 : x.toInt ≠ 4 := fq_i32 h4
  have a5 : x.toInt ≠ 5 := fq_i32 h5
  have a6 : x.toInt ≠ 6 := fq_i32 h6
  have a7 : x.toInt ≠ 7 := fq_i32 h7
  have a8 : x.toInt ≠ 8 := fq_i32 h8
  have a9 : x.toInt ≠ 9 := fq_i32 h9
  have a10 : x.toInt ≠ 10 := fq_i32 h10
  have a11 : x.toInt ≠ 11 := fq_i32 h11
  have a12 : x.toInt ≠ 12 := fq_i32 h12
  have a13 : x.toInt ≠ 13 := fq_i32 h13
  have a14 : x.toInt ≠ 14 := fq_i32 h14
  have a15 : x.toInt ≠ 15 := fq_i32 h15
  have a16 : x.toInt ≠ 16 := fq_i32 h16
  have a17 : x.toInt ≠ 17 := fq_i32 h17
  have a18 : x.toInt ≠ 18 := fq_i32 h18
  have a19 : x.toInt ≠ 19 := fq_i32 h19
  have a20 : x.toInt ≠ 20 := fq_i32 h20
  have a21 : x.toInt ≠ 21 := fq_i32 h21
  have a22 : x.toInt ≠ 22 := fq_i32 h22
  have a23 : x.toInt ≠ 23 := fq_i32 h23
  have a24 : x.toInt ≠ 24 := fq_i32 h24
  omega
theorem lw_cond {L i : Nat} (hL : L ≤ 2560) (hi : i ≤ 2560) (h : ¬ (nI L - 5 < nI i)) : i + 5 ≤ L := by
  have e : (nI L - nI 5).toInt = (L : Int) - 5 := pk_sub_toInt (by omega) (by omega)
  have e2 : (nI i).toInt = (i : Int) := nI_toInt (by omega)
  rcases Nat.lt_or_ge L (i + 5) with q | q
  · exfalso
    apply h
    show nI L - nI 5 < nI i
    rw [Int32.lt_iff_toInt_lt, e, e2]
    omega
  · exact q
set_option maxRecDepth 100000 in
set_option maxHeartbeats 4000000 in
theorem lw_loop {X : fqX} {cy : Nat → ClassId} {adM : Nat → Nat} {b L : Nat} {xs : Nat → Int32} {a0 : Nat} {Rel : Nat → Nat → fqS → fqS → Prop} {K : Nat} (E : fqE X room_1 cy cL_law 4 wsL_law RL) (S : lwS X b L xs) (hL : L ≤ 2560) (hb9 : lwBase Rel) (hall : lwAll Rel K) (hexit : ∀ (cells slots : Nat) (wl : va_W) (lv : List (Nat × Value)), cells ≤ 600000 → slots ≤ 7302250 → fqH X 4 cells slots wl 891 lv [.int 1]) :
    ∀ (m t : Nat) (adX : Nat → Nat) (n : Nat) (sx sm : fqS), 5 * t ≤ L → L + 5 ≤ 5 * t + 5 * m → adX 0 = a0 → Rel t n sx sm → fqH X 4 (46 + 4 * t) (3063 + 27 * t) (fqW (TX cy) ZX adX n sx ++ fqW (TM cy) ZM adM 0 sm) 18 [(0, .ref b), (1, .ref a0), (2, .ref (adM 0)), (3, .int (nI (5 * t)))] [] := by
  intro m
  induction m with
  | zero => intro t adX n sx sm h1 h2; exact absurd h2 (by omega)
  | succ m ih =>
    intro t adX n sx sm h1 h2 ha hR
    refine h_iload_n (pc := 18) E dL_law_18 3 rfl rfl ?_
    refine h_aload_n (pc := 19) E dL_law_19 0 rfl rfl ?_
    refine h_slen (pc := 20) E S dL_law_20 ?_
    refine h_iconst (pc := 21) E (5 : Int32) dL_law_21 (by decide) ?_
    refine h_isub (pc := 22) E dL_law_22 ?_
    refine h_icmp_gt (pc := 23) E 890 dL_law_23 (by decide) (fun _ => ?_) (fun hc => ?_)
    · refine h_iconst (pc := 890) E (1 : Int32) dL_law_890 (by decide) ?_
      exact hexit _ _ _ _ (by omega) (by omega)
    have h5 : 5 * t + 5 ≤ L := lw_cond hL (by omega) hc
    refine h_aload_n (pc := 26) E dL_law_26 0 rfl rfl ?_
    refine h_iload_n (pc := 27) E dL_law_27 3 rfl rfl ?_
    refine h_sload (pc := 28) E S (5 * t + 0) (by omega) (by omega) rfl dL_law_28 ?_
    refine h_bipush (pc := 29) E (31 : Int32) dL_law_29 (by decide) ?_
    refine h_iand (pc := 31) E dL_law_31 ?_
    have hcs : 46 + 4 * t + 4 ≤ room_1.cells ∧ 3063 + 27 * t + 27 ≤ room_1.slots := ⟨by show _ ≤ 600000; omega, by show _ ≤ 7302250; omega⟩
    have hnext : ∀ (adX' : Nat → Nat) (n' : Nat) (sx' sm' : fqS), adX' 0 = a0 → Rel (t + 1) n' sx' sm' → fqH X 4 (46 + 4 * t + 4) (3063 + 27 * t + 27) (fqW (TX cy) ZX adX' n' sx' ++ fqW (TM cy) ZM adM 0 sm') 884 [(0, .ref b), (1, .ref a0), (2, .ref (adM 0)), (3, .int (nI (5 * t)))] [] := by
      intro adX' n' sx' sm' ha' hR'
      refine h_iinc (pc := 884) E (nI (5 * (t + 1))) [(3, .int (nI (5 * (t + 1)))), (0, .ref b), (1, .ref a0), (2, .ref (adM 0))] dL_law_884 3 rfl (lw_add _ 5 _ rfl) (by decide) rfl ?_
      refine h_goto (pc := 887) E 18 dL_law_887 (by decide) ?_
      refine h_lv [1, 2, 3, 0] rfl ?_
      exact ih (t + 1) adX' n' sx' sm' (by omega) (by omega) ha' hR'
    by_cases c0 : xs (5 * t + 0) &&& 31 = 0
    · refine h_tableIn (pc := 32) E (off := 116) 148 dL_law_32 (by rw [c0]; decide) (by rw [c0]; decide) (by rw [c0]; rfl) (by decide) ?_
      exact lw_case_0 E S hL h5 ha hR (hb9.1 _ _ _ _ hR).1 (hb9.1 _ _ _ _ hR).2 hall.1 hcs hnext
    by_cases c1 : xs (5 * t + 0) &&& 31 = 1
    · refine h_tableIn (pc := 32) E (off := 140) 172 dL_law_32 (by rw [c1]; decide) (by rw [c1]; decide) (by rw [c1]; rfl) (by decide) ?_
      exact lw_case_1 E S hL h5 ha hR hall.2.1 hcs hnext
    by_cases c2 : xs (5 * t + 0) &&& 31 = 2
    · refine h_tableIn (pc := 32) E (off := 174) 206 dL_law_32 (by rw [c2]; decide) (by rw [c2]; decide) (by rw [c2]; rfl) (by decide) ?_
      exact lw_case_2 E S hL h5 ha hR hall.2.2.1 hcs hnext
    by_cases c3 : xs (5 * t + 0) &&& 31 = 3
    · refine h_tableIn (pc := 32) E (off := 208) 240 dL_law_32 (by rw [c3]; decide) (by rw [c3]; decide) (by rw [c3]; rfl) (by decide) ?_
      exact lw_case_3 E S hL h5 ha hR hall.2.2.2.1 hcs hnext
    by_cases c4 : xs (5 * t + 0) &&& 31 = 4
    · refine h_tableIn (pc := 32) E (off := 242) 274 dL_law_32 (by rw [c4]; decide) (by rw [c4]; decide) (by rw [c4]; rfl) (by decide) ?_
      exact lw_case_4 E S hL h5 ha hR hall.2.2.2.2.1 hcs hnext
    by_cases c5 : xs (5 * t + 0) &&& 31 = 5
    · refine h_tableIn (pc := 32) E (off := 296) 328 dL_law_32 (by rw [c5]; decide) (by rw [c5]; decide) (by rw [c5]; rfl) (by decide) ?_
      exact lw_case_5 E S hL h5 ha hR hall.2.2.2.2.2.1 hcs hnext
    by_cases c6 : xs (5 * t + 0) &&& 31 = 6
    · refine h_tableIn (pc := 32) E (off := 320) 352 dL_law_32 (by rw [c6]; decide) (by rw [c6]; decide) (by rw [c6]; rfl) (by decide) ?_
      exact lw_case_6 E S hL h5 ha hR hall.2.2.2.2.2.2.1 hcs hnext
    by_cases c7 : xs (5 * t + 0) &&& 31 = 7
    · refine h_tableIn (pc := 32) E (off := 354) 386 dL_law_32 (by rw [c7]; decide) (by rw [c7]; decide) (by rw [c7]; rfl) (by decide) ?_
      exact lw_case_7 E S hL h5 ha hR hall.2.2.2.2.2.2.2.1 hcs hnext
    by_cases c8 : xs (5 * t + 0) &&& 31 = 8
    · refine h_tableIn (pc := 32) E (off := 368) 400 dL_law_32 (by rw [c8]; decide) (by rw [c8]; decide) (by rw [c8]; rfl) (by decide) ?_
      exact lw_case_8 E S hL h5 ha hR hall.2.2.2.2.2.2.2.2.1 hcs hnext
    by_cases c9 : xs (5 * t + 0) &&& 31 = 9
    · refine h_tableIn (pc := 32) E (off := 392) 424 dL_law_32 (by rw [c9]; decide) (by rw [c9]; decide) (by rw [c9]; rfl) (by decide) ?_
      exact lw_case_9 E S hL h5 ha hR hall.2.2.2.2.2.2.2.2.2.1 hcs hnext
    by_cases c10 : xs (5 * t + 0) &&& 31 = 10
    · refine h_tableIn (pc := 32) E (off := 436) 468 dL_law_32 (by rw [c10]; decide) (by rw [c10]; decide) (by rw [c10]; rfl) (by decide) ?_
      exact lw_case_10 E S hL h5 ha hR hall.2.2.2.2.2.2.2.2.2.2.1 hcs hnext
    by_cases c11 : xs (5 * t + 0) &&& 31 = 11
    · refine h_tableIn (pc := 32) E (off := 480) 512 dL_law_32 (by rw [c11]; decide) (by rw [c11]; decide) (by rw [c11]; rfl) (by decide) ?_
      exact lw_case_11 E S hL h5 ha hR hall.2.2.2.2.2.2.2.2.2.2.2.1 hcs hnext
    by_cases c12 : xs (5 * t + 0) &&& 31 = 12
    · refine h_tableIn (pc := 32) E (off := 504) 536 dL_law_32 (by rw [c12]; decide) (by rw [c12]; decide) (by rw [c12]; rfl) (by decide) ?_
      exact lw_case_12 E S hL h5 ha hR hall.2.2.2.2.2.2.2.2.2.2.2.2.1 hcs hnext
    by_cases c13 : xs (5 * t + 0) &&& 31 = 13
    · refine h_tableIn (pc := 32) E (off := 554) 586 dL_law_32 (by rw [c13]; decide) (by rw [c13]; decide) (by rw [c13]; rfl) (by decide) ?_
      exact lw_case_13 E S hL h5 ha hR hall.2.2.2.2.2.2.2.2.2.2.2.2.2.1 hcs hnext
    by_cases c14 : xs (5 * t + 0) &&& 31 = 14
    · refine h_tableIn (pc := 32) E (off := 588) 620 dL_law_32 (by rw [c14]; decide) (by rw [c14]; decide) (by rw [c14]; rfl) (by decide) ?_
      exact lw_case_14 E S hL h5 ha hR hall.2.2.2.2.2.2.2.2.2.2.2.2.2.2.1 hcs hnext
    by_cases c15 : xs (5 * t + 0) &&& 31 = 15
    · refine h_tableIn (pc := 32) E (off := 602) 634 dL_law_32 (by rw [c15]; decide) (by rw [c15]; decide) (by rw [c15]; rfl) (by decide) ?_
      exact lw_case_15 E S hL h5 ha hR hall.2.2.2.2.2.2.2.2.2.2.2.2.2.2.2.1 hcs hnext
    by_cases c16 : xs (5 * t + 0) &&& 31 = 16
    · refine h_tableIn (pc := 32) E (off := 636) 668 dL_law_32 (by rw [c16]; decide) (by rw [c16]; decide) (by rw [c16]; rfl) (by decide) ?_
      exact lw_case_16 E S hL h5 ha hR hall.2.2.2.2.2.2.2.2.2.2.2.2.2.2.2.2.1 hcs hnext
    by_cases c17 : xs (5 * t + 0) &&& 31 = 17
    · refine h_tableIn (pc := 32) E (off := 670) 702 dL_law_32 (by rw [c17]; decide) (by rw [c17]; decide) (by rw [c17]; rfl) (by decide) ?_
      exact lw_case_17 E S hL h5 ha hR hall.2.2.2.2.2.2.2.2.2.2.2.2.2.2.2.2.2.1 hcs hnext
    by_cases c18 : xs (5 * t + 0) &&& 31 = 18
    · refine h_tableIn (pc := 32) E (off := 694) 726 dL_law_32 (by rw [c18]; decide) (by rw [c18]; decide) (by rw [c18]; rfl) (by decide) ?_
      exact lw_case_18 E S hL h5 ha hR hall.2.2.2.2.2.2.2.2.2.2.2.2.2.2.2.2.2.2.1 hcs hnext
    by_cases c19 : xs (5 * t + 0) &&& 31 = 19
    · refine h_tableIn (pc := 32) E (off := 728) 760 dL_law_32 (by rw [c19]; decide) (by rw [c19]; decide) (by rw [c19]; rfl) (by decide) ?_
      exact lw_case_19 E S hL h5 ha hR hall.2.2.2.2.2.2.2.2.2.2.2.2.2.2.2.2.2.2.2.1 hcs hnext
    by_cases c20 : xs (5 * t + 0) &&& 31 = 20
    · refine h_tableIn (pc := 32) E (off := 742) 774 dL_law_32 (by rw [c20]; decide) (by rw [c20]; decide) (by rw [c20]; rfl) (by decide) ?_
      exact lw_case_20 E S hL h5 ha hR hall.2.2.2.2.2.2.2.2.2.2.2.2.2.2.2.2.2.2.2.2.1 hcs hnext
    by_cases c21 : xs (5 * t + 0) &&& 31 = 21
    · refine h_tableIn (pc := 32) E (off := 766) 798 dL_law_32 (by rw [c21]; decide) (by rw [c21]; decide) (by rw [c21]; rfl) (by decide) ?_
      exact lw_case_21 E S hL h5 ha hR hall.2.2.2.2.2.2.2.2.2.2.2.2.2.2.2.2.2.2.2.2.2.1 hcs hnext
    by_cases c22 : xs (5 * t + 0) &&& 31 = 22
    · refine h_tableIn (pc := 32) E (off := 790) 822 dL_law_32 (by rw [c22]; decide) (by rw [c22]; decide) (by rw [c22]; rfl) (by decide) ?_
      exact lw_case_22 E S hL h5 ha hR hall.2.2.2.2.2.2.2.2.2.2.2.2.2.2.2.2.2.2.2.2.2.2.1 hcs hnext
    by_cases c23 : xs (5 * t + 0) &&& 31 = 23
    · refine h_tableIn (pc := 32) E (off := 804) 836 dL_law_32 (by rw [c23]; decide) (by rw [c23]; decide) (by rw [c23]; rfl) (by decide) ?_
      exact lw_case_23 E S hL h5 ha hR hall.2.2.2.2.2.2.2.2.2.2.2.2.2.2.2.2.2.2.2.2.2.2.2.1 hcs hnext
    by_cases c24 : xs (5 * t + 0) &&& 31 = 24
    · refine h_tableIn (pc := 32) E (off := 828) 860 dL_law_32 (by rw [c24]; decide) (by rw [c24]; decide) (by rw [c24]; rfl) (by decide) ?_
      exact lw_case_24 E S hL h5 ha hR hall.2.2.2.2.2.2.2.2.2.2.2.2.2.2.2.2.2.2.2.2.2.2.2.2 hcs hnext
    refine h_tableOut (pc := 32) E 884 dL_law_32 (lw_sw25 c0 c1 c2 c3 c4 c5 c6 c7 c8 c9 c10 c11 c12 c13 c14 c15 c16 c17 c18 c19 c20 c21 c22 c23 c24) (by decide) ?_
    refine h_widen (Nat.le_add_right _ 4) (Nat.le_add_right _ 27) ?_
    exact hnext adX n sx sm ha (hb9.2.1 _ _ _ _ (by omega) hR)
