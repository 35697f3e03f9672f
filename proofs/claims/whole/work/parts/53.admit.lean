def faB (D : va_G) (cy : Nat → ClassId) (ad : Nat → Nat) (sz n : Nat) (σ : fqS) (u : (Nat → Nat) × Nat × fqS) (t : State) : Prop := va_P D vwCl (fqW (TX cy) ZX u.1 u.2.1 u.2.2) t.heap ∧ va_D (fqA (TX cy) ZX ad sz n σ) (fqW (TX cy) ZX u.1 u.2.1 u.2.2)
def faQi (D : va_G) (cy : Nat → ClassId) (ad : Nat → Nat) (sz n : Nat) (σ : fqS) (post : Int32 → ((Nat → Nat) × Nat × fqS) → Prop) : Array Value → State → Outcome → State → Prop := va_Qi post (fun u t => faB D cy ad sz n σ u t) (fqA (TX cy) ZX ad sz n σ)
def faQl (D : va_G) (cy : Nat → ClassId) (ad : Nat → Nat) (sz n : Nat) (σ : fqS) (post : Int64 → ((Nat → Nat) × Nat × fqS) → Prop) : Array Value → State → Outcome → State → Prop := va_Ql post (fun u t => faB D cy ad sz n σ u t) (fqA (TX cy) ZX ad sz n σ)
theorem fa_enter_i {l : Launch} {y : MethodName} {ws : List Cond} {rm : Room} {cc : ByteArray} {maxL mc ms : Nat} {av : List Value} {D : va_G} {cy : Nat → ClassId} {ad : Nat → Nat} {sz n : Nat} {σ : fqS} {post : Int32 → ((Nat → Nat) × Nat × fqS) → Prop} {own : String} (ws' : List Cond) (hy : plainName y.cls = true) (hw0 : ws = Cond.code y cc maxL (some .int) :: ws') (hlen : (lg_sl av).length ≤ maxL) (hown : y.cls = own)
    (body : ∀ X : fqX, fqE X rm cy cc maxL ws own → (∀ (v : Int32) (u : (Nat → Nat) × Nat × fqS) (pc : Nat) (lv : List (Nat × Value)), decode cc pc = .ok (.ireturn, 1) → post v u → fqH X maxL mc ms (fqW (TX cy) ZX u.1 u.2.1 u.2.2) pc lv [.int v]) → fqG X (TX cy) ZX ad n maxL 0 0 σ 0 (lv_args 0 av) []) : Met l y ws rm (fqPc (TX cy) ZX D cy ad sz n σ av) (faQi D cy ad sz n σ post) mc ms (fqA (TX cy) ZX ad sz n σ) := by
  refine Met.ofW (cc := cc) (maxL := maxL) (ret := (some .int)) hy hw0 ?_
  intro p e s m args below meth c s₁ B hml hv
  obtain ⟨rfl, hsz, hP, hK, hD0⟩ := hv
  subst hsz
  have hl := lv_entry av (n := maxL) hlen
  rw [lg_entry_eq]
  have hD := hD0.self (sz := s.heap.size)
  have hlocks := B.notSynchronized
  exact body (p, l, e, _, s, m, _, below, meth, c, _, D, fqA (TX cy) ZX ad s.heap.size n σ) ⟨⟨B.exec, B.bytes, hml, hown ▸ findClass_of_methodNamed B.named, atoms_spec (ws := ws) B.pre⟩, hK, fun q h => Or.inr h, rfl⟩
    (fun v u pc lv hd he => fun H locs ls hw hl => W.iret B.exec B.bytes B.returns (fun t ht hW => ⟨⟨v, u, rfl, he, by rw [ht]; exact hw.1, hw.2.1⟩, hw.2.2.F ht⟩) hw.2.2.2.2 hd) s.heap [] _ ⟨hP, hD, va_S.rf⟩ hl
theorem fa_enter_l {l : Launch} {y : MethodName} {ws : List Cond} {rm : Room} {cc : ByteArray} {maxL mc ms : Nat} {av : List Value} {D : va_G} {cy : Nat → ClassId} {ad : Nat → Nat} {sz n : Nat} {σ : fqS} {post : Int64 → ((Nat → Nat) × Nat × fqS) → Prop} {own : String} (ws' : List Cond) (hy : plainName y.cls = true) (hw0 : ws = Cond.code y cc maxL (some .long) :: ws') (hlen : (lg_sl av).length ≤ maxL) (hown : y.cls = own)
    (body : ∀ X : fqX, fqE X rm cy cc maxL ws own → (∀ (v : Int64) (u : (Nat → Nat) × Nat × fqS) (pc : Nat) (lv : List (Nat × Value)), decode cc pc = .ok (.lreturn, 1) → post v u → fqH X maxL mc ms (fqW (TX cy) ZX u.1 u.2.1 u.2.2) pc lv [.long v]) → fqG X (TX cy) ZX ad n maxL 0 0 σ 0 (lv_args 0 av) []) : Met l y ws rm (fqPc (TX cy) ZX D cy ad sz n σ av) (faQl D cy ad sz n σ post) mc ms (fqA (TX cy) ZX ad sz n σ) := by
  refine Met.ofW (cc := cc) (maxL := maxL) (ret := (some .long)) hy hw0 ?_
  intro p e s m args below meth c s₁ B hml hv
  obtain ⟨rfl, hsz, hP, hK, hD0⟩ := hv
  subst hsz
  have hl := lv_entry av (n := maxL) hlen
  rw [lg_entry_eq]
  have hD := hD0.self (sz := s.heap.size)
  have hlocks := B.notSynchronized
  exact body (p, l, e, _, s, m, _, below, meth, c, _, D, fqA (TX cy) ZX ad s.heap.size n σ) ⟨⟨B.exec, B.bytes, hml, hown ▸ findClass_of_methodNamed B.named, atoms_spec (ws := ws) B.pre⟩, hK, fun q h => Or.inr h, rfl⟩
    (fun v u pc lv hd he => fun H locs ls hw hl => W.lret B.exec B.bytes B.returns (fun t ht hW => ⟨⟨v, u, rfl, he, by rw [ht]; exact hw.1, hw.2.1⟩, hw.2.2.F ht⟩) hw.2.2.2.2 hd) s.heap [] _ ⟨hP, hD, va_S.rf⟩ hl
theorem g_callVa {X : fqX} {rm : Room} {cy : Nat → ClassId} {cc : ByteArray} {nL : Nat} {Ts : List Cond} {own : String} {ad : Nat → Nat} {n cells slots : Nat} {σ : fqS} {pc : Nat} {lv : List (Nat × Value)} {rest : List Value} (E : fqE X rm cy cc nL Ts own) {y : MethodName} {bytes : ByteArray} {maxL nn index mc ms : Nat} {ret : Option FieldType} {ws ws' : List Cond} {rmc : Room} {C : String} {Tt : u_T} {N ci : Nat} (q : Nat) (hq : q < ZX n) {fs : (Nat → Int32) → (Nat → Int64) → List Value} (hT : ∀ f g, TX cy ad n q f g = .inr (ci, fs f g)) (hc : vwCl[ci]? = some (C, Tt, N)) (As : List Value) {post : Int32 → ((Nat → Nat) × Nat × fqS) → Prop} (hM : ∀ (l : Launch) (D : va_G) (sz : Nat), Met l y ws rmc (fqPc (TX cy) ZX D cy ad sz n σ (.ref (ad q) :: As)) (faQi D cy ad sz n σ post) mc ms (fqA (TX cy) ZX ad sz n σ)) (hG : GoodIn Ts (wsV own index C y ws)) (hw9 : ws = Cond.code y bytes maxL ret :: ws') (hrc : rmc.cells = mc) (hrs : rmc.slots = ms) (hd : y.cls = C ∧ y.cls ≠ "java/lang/invoke/MethodHandle" ∧ y.cls ≠ "java/lang/invoke/VarHandle" ∧ (parseMethodDescriptor y.desc).map (fun d => d.parameters.length) = some nn) (hR9 : rmc.frames + 1 ≤ rm.frames ∧ 8 + (maxL + 11) + rmc.locals ≤ rm.locals) (hn : As.length = nn) {st : List Value} (hst : st = As.reverse ++ .ref (ad q) :: rest) (hroom : (rest.map fun v => v.category).sum ≤ 8) (hdg : decode cc pc = .ok (.invokevirtual index, 3)) (hcs : cells + mc ≤ rm.cells ∧ slots + ms ≤ rm.slots)
    (k : ∀ (r : Int32) (u : (Nat → Nat) × Nat × fqS), post r u → fqH X nL (cells + mc) (slots + ms) (fqW (TX cy) ZX u.1 u.2.1 u.2.2) (pc + 3) lv (.int r :: rest)) : fqG X (TX cy) ZX ad n nL cells slots σ pc lv st := by
  obtain ⟨p, l, e, R, s, m, args, below, meth, c, Q, D, A⟩ := X
  obtain ⟨⟨hx, hb, hml, hown, hts⟩, hK, hA, hR⟩ := E
  exact fun H locs ls hw hl => va_calli (va_runV (As := As) (rest := rest) ⟨hx, hb, hml, hown, hts⟩ (hM l D H.size) (cwV nn hts hG hw9 hrc hrs hd (by rw [hR]; exact hR9)) ⟨fqPc_blind, va_recv hK.1 hw.1 hc (q0 := q) (by rw [fqW_get hq, hT]), fun U hU hW => ⟨rfl, by rw [hU], by rw [hU]; exact hw.1, hK.warm hW, hw.2.1.weaken (fun _ _ _ _ => trivial)⟩⟩ rfl hn hl.1 hst (lv_room hroom) hdg (by rw [hR]; exact hcs)) hw.2.2 (fun q _ h => fqA_in hw hA q h) (fqA_in hw hA) (fun r1 u t H1 locs ht hvm hp hB hz hk hS => by
    obtain ⟨hP1, hD1⟩ := hB
    rw [ht] at hP1
    exact k r1 u hp H1 locs ls ⟨hP1, hD1.weaken (fun _ q _ h => fqA_in hw hA q.1 h), hS⟩ hl)
theorem fq_dvX5 : ∀ j, j < 5 → defaultValue (tyX5 j) = vp_V ([.int (0 : Int32), .null, .null, .null, .int (0 : Int32)]) j := by decide +kernel
theorem wX6_admit_0 : Cond.fieldLink RX6 21 "FairQueue$Players" "number" "I" ∈ wsX6_admit := by decide +kernel
theorem wX6_admit_1 : Cond.fieldLink RX6 11 "FairQueue$Players" "row" "[LFairQueue$Player;" ∈ wsX6_admit := by decide +kernel
theorem wX6_admit_2 : Cond.classLink RX6 9 RX5 ∈ wsX6_admit := by decide +kernel
theorem wX6_admit_3 : Cond.instantiable RX5 5 ∈ wsX6_admit := by decide +kernel
theorem wX6_admit_4 : Cond.initialized RX5 ∈ wsX6_admit := by decide +kernel
theorem wX6_admit_5 : Cond.methodLink RX6 25 yX5_init ∈ wsX6_admit := by decide +kernel
theorem wX6_admit_6 : Cond.instanceMethod yX5_init ∈ wsX6_admit := by decide +kernel
theorem uX6_admit_X6 : ∀ w ∈ u_ws RX6 TX6 3, w ∈ wsX6_admit := fun _ h => List.mem_cons_of_mem _ (List.mem_append_left _ (List.mem_append_right _ h))
theorem uX6_admit_X5 : ∀ w ∈ u_ws RX5 TX5 5, w ∈ wsX6_admit := fun _ h => List.mem_cons_of_mem _ (List.mem_append_right _ h)
theorem kcX6_admit : yX6_admit.cls = RX6 ∧ yX6_admit.cls ≠ "java/lang/invoke/MethodHandle" ∧ yX6_admit.cls ≠ "java/lang/invoke/VarHandle" ∧ (parseMethodDescriptor yX6_admit.desc).map (fun d => d.parameters.length) = some 1 := by decide +kernel
def fqAdm (ad : Nat → Nat) (n : Nat) (σ : fqS) (x1 : Int32) (r : Int32) (u : (Nat → Nat) × Nat × fqS) : Prop := (n < 16 → r = nI n ∧ u.2 = (n + 1, fqPI (fqNew σ n x1 fqEven) 1 2 (nI (n + 1))) ∧ ∀ c, c < ZX n → u.1 c = ad c) ∧ (¬ n < 16 → r = -1 ∧ u = (ad, n, σ))
set_option maxRecDepth 100000 in
set_option maxHeartbeats 4000000 in
theorem qX6_admit (l : Launch) (D : va_G) (cy : Nat → ClassId) (ad : Nat → Nat) (sz n : Nat) (σ : fqS) (x1 : Int32) (hn : n ≤ 16) (hN : fqI σ 1 2 = nI n) : Met l yX6_admit wsX6_admit ({ frames := 2, cells := 4, slots := 27, locals := 42 } : Room) (fqPc (TX cy) ZX D cy ad sz n σ [.ref (ad 1), .int x1]) (faQi D cy ad sz n σ (fqAdm ad n σ x1)) 4 27 (fqA (TX cy) ZX ad sz n σ) := by
  refine fa_enter_i (cc := cX6_admit) (maxL := 2) (own := RX6) _ (by decide) rfl (Nat.le_of_ble_eq_true rfl) rfl (fun X E hret => ?_)
  show fqG X (TX cy) ZX ad n 2 0 0 σ 0 [(0, .ref (ad 1)), (1, .int x1)] []
  have h16 : (16 : Int32) = nI 16 := rfl
  refine g_aload_n (pc := 0) E dX6_admit_0 0 rfl rfl ?_
  refine g_getfield (pc := 1) E uX6_admit_X6 1 (zx_l (by decide)) (fun _ _ => rfl) rfl 2 (by decide) wX6_admit_0 (.int (fqI σ 1 2)) rfl dX6_admit_1 ?_
  refine g_if_lt (pc := 4) E 19 dX6_admit_4 (by decide) (fun h => absurd h (by rw [hN]; exact nI_pos (by omega))) (fun _ => ?_)
  refine g_aload_n (pc := 7) E dX6_admit_7 0 rfl rfl ?_
  refine g_getfield (pc := 8) E uX6_admit_X6 1 (zx_l (by decide)) (fun _ _ => rfl) rfl 2 (by decide) wX6_admit_0 (.int (fqI σ 1 2)) rfl dX6_admit_8 ?_
  refine g_aload_n (pc := 11) E dX6_admit_11 0 rfl rfl ?_
  refine g_getfield (pc := 12) E uX6_admit_X6 1 (zx_l (by decide)) (fun _ _ => rfl) rfl 0 (by decide) wX6_admit_1 (.ref (ad 2)) rfl dX6_admit_12 ?_
  refine g_alen (pc := 15) E 2 (zx_l (by decide)) 4 (fun _ _ => rfl) rfl (16 : Int32) (by rfl) dX6_admit_15 ?_
  refine g_icmp_lt (pc := 16) E 21 dX6_admit_16 (by decide) (fun c1 => ?_) (fun c1 => ?_)
  · have hlt : n < 16 := by
      rw [hN, h16] at c1
      exact (nI_ltI (by omega) (by omega)).mp c1
    refine g_aload_n (pc := 21) E dX6_admit_21 0 rfl rfl ?_
    refine g_getfield (pc := 22) E uX6_admit_X6 1 (zx_l (by decide)) (fun _ _ => rfl) rfl 0 (by decide) wX6_admit_1 (.ref (ad 2)) rfl dX6_admit_22 ?_
    refine g_aload_n (pc := 25) E dX6_admit_25 0 rfl rfl ?_
    refine g_getfield (pc := 26) E uX6_admit_X6 1 (zx_l (by decide)) (fun _ _ => rfl) rfl 2 (by decide) wX6_admit_0 (.int (fqI σ 1 2)) rfl dX6_admit_26 ?_
    refine fqG_of ?_
    refine h_new (pc := 29) E uX6_admit_X5 tyX5 tyX5_ok wX6_admit_2 wX6_admit_3 wX6_admit_4 (ci := 5) rfl [.int (0 : Int32), .null, .null, .null, .int (0 : Int32)] fq_dvX5 (by decide) (by decide) dX6_admit_29 (fun q => ?_)
    refine h_dup (pc := 32) E dX6_admit_32 rfl ?_
    refine h_iload_n (pc := 33) E dX6_admit_33 1 rfl rfl ?_
    refine h_callI2 (pc := 34) E [.int x1] (wX5_init cy q x1) (fun l D sz => qX5_init l D cy sz q x1) gX6_admit_X5_init rfl rfl rfl wX6_admit_4 wX6_admit_5 wX6_admit_6 rfl kcX5_init ⟨by decide, by decide⟩ rfl rfl (Nat.le_of_ble_eq_true rfl) dX6_admit_34 ⟨by decide, by decide⟩ (fun u => ?_)
    obtain ⟨q1, q2, q3⟩ := u
    have e1 : (fqW (TX cy) ZX ad n σ).length = ZX n := fqW_len
    refine h_wl (wl' := fqW (TX cy) ZX ad n σ ++ [(q, .inr (5, [.int x1, .ref q1, .ref q2, .ref q3, .int (0 : Int32)])), (q1, .inl (cy 1, 7, .inr (.inl fqEven))), (q2, .inl (cy 1, 7, .inr (.inl (fun _ => 0)))), (q3, .inl (cy 1, 8, .inr (.inl (fun _ => 0))))]) rfl ?_
    refine h_aastore (pc := 37) E 2 4 (ZX n) 5 (f := fun i => (fqRow n i).map (fun p => ad (26 + 4 * p))) (r := (RX5, TX5, 5)) (vs := [.int x1, .ref q1, .ref q2, .ref q3, .int (0 : Int32)]) (by rw [List.getElem?_append_left (by rw [e1]; unfold ZX; omega), fqW_get (zx_l (by decide))]; rfl) rfl (by rw [List.getElem?_append_right (by rw [e1]; exact Nat.le_refl _), e1, Nat.sub_self]; rfl) rfl (by rw [hN]; exact vp_in_nI hlt (by omega)) (fqW (TX cy) ZX (fqAd ad n q q1 q2 q3) (n + 1) (fqNew σ n x1 fqEven)) (by
      rw [List.set_append_left _ _ (by rw [e1]; unfold ZX; omega), hN, nI_clamp (by omega)]
      exact fq_grow) dX6_admit_37 ?_
    refine fqH_of ?_
    have e2 : ad 1 = fqAd ad n q q1 q2 q3 1 := (fqAd_old (zx_l (by decide))).symm
    rw [e2]
    have e3 : fqI (fqNew σ n x1 fqEven) 1 2 = nI n := by
      rw [← hN]
      show (if 1 = 26 + 4 * n then (fun k => if k = 0 then x1 else 0) else σ.1 1) 2 = σ.1 1 2
      rw [if_neg (by omega)]
    refine g_aload_n (pc := 38) E dX6_admit_38 0 rfl rfl ?_
    refine g_dup (pc := 39) E dX6_admit_39 rfl ?_
    refine g_getfield (pc := 40) E uX6_admit_X6 1 (zx_l (by decide)) (fun _ _ => rfl) rfl 2 (by decide) wX6_admit_0 (.int (fqI (fqNew σ n x1 fqEven) 1 2)) rfl dX6_admit_40 ?_
    refine g_iconst (pc := 43) E (1 : Int32) dX6_admit_43 (by decide) ?_
    refine g_iadd (pc := 44) E dX6_admit_44 ?_
    refine g_putI (pc := 45) E uX6_admit_X6 tyX6 tyX6_ok nmX6 1 (zx_l (by decide)) (fun _ _ => rfl) rfl 2 (by decide) wX6_admit_0 rfl rfl (Nat.le_of_ble_eq_true rfl) rfl dX6_admit_45 ?_
    refine g_sg (σ1 := fqPI (fqNew σ n x1 fqEven) 1 2 (nI (n + 1))) (by rw [e3, nI_1]) ?_
    refine g_aload_n (pc := 48) E dX6_admit_48 0 rfl rfl ?_
    refine g_getfield (pc := 49) E uX6_admit_X6 1 (zx_l (by decide)) (fun _ _ => rfl) rfl 2 (by decide) wX6_admit_0 (.int (nI (n + 1))) rfl dX6_admit_49 ?_
    refine g_iconst (pc := 52) E (1 : Int32) dX6_admit_52 (by decide) ?_
    refine g_isub (pc := 53) E dX6_admit_53 ?_
    exact fqG_of (hret _ (fqAd ad n q q1 q2 q3, n + 1, fqPI (fqNew σ n x1 fqEven) 1 2 (nI (n + 1))) _ _ dX6_admit_54 ⟨fun _ => ⟨nI_pred n, rfl, fun c hc => fqAd_old hc⟩, fun h => absurd hlt h⟩)
  · have hge : ¬ n < 16 := fun h => c1 (by rw [hN, h16]; exact (nI_ltI (by omega) (by omega)).mpr h)
    refine g_iconst (pc := 19) E (-1 : Int32) dX6_admit_19 (by decide) ?_
    refine fqG_of (h_widen (c2 := 4) (s2 := 27) (by decide) (by decide) (hret (-1) (ad, n, σ) _ _ dX6_admit_20 ⟨fun h => absurd h hge, fun _ => ⟨rfl, rfl⟩⟩))
theorem wX8_player_0 : Cond.fieldLink RX8 10 "FairQueue" "players" "LFairQueue$Players;" ∈ wsX8_player := by decide +kernel
theorem kcX8_player : yX8_player.cls = RX8 ∧ yX8_player.cls ≠ "java/lang/invoke/MethodHandle" ∧ yX8_player.cls ≠ "java/lang/invoke/VarHandle" ∧ (parseMethodDescriptor yX8_player.desc).map (fun d => d.parameters.length) = some 1 := by decide +kernel
theorem uX8_player_X8 : ∀ w ∈ u_ws RX8 TX8 13, w ∈ wsX8_player := (fun _ h => List.mem_cons_of_mem _ (List.mem_append_left _ (List.mem_append_left _ (List.mem_append_right _ h))))
def pX8_player (k n : Nat) (σ : fqS) (x1 : Int32) : Option (Int64 × Nat × fqS) :=
  (pX8_isKind k n σ x1).bind (fun r1 => if r1 = 0 then fqB2 (pX8_finding k n σ 1) (fun r s => some (r, n, s)) else if n < 16 then some (Int32.toInt64 (nI n), n + 1, fqPI (fqNew σ n x1 fqEven) 1 2 (nI (n + 1))) else fqB2 (pX8_finding k n σ 4) (fun r s => some (r, n, s)))
set_option maxRecDepth 100000 in
set_option maxHeartbeats 4000000 in
theorem qX8_player (l : Launch) (D : va_G) (cy : Nat → ClassId) (ad : Nat → Nat) (sz n : Nat) (σ : fqS) (k : Nat) (x1 : Int32) (hn : n ≤ 16) (hN : fqI σ 1 2 = nI n) {r : Int64} {n' : Nat} {σ' : fqS} (hf : pX8_player k n σ x1 = some (r, n', σ')) : Met l yX8_player wsX8_player ({ frames := 3, cells := 4, slots := 27, locals := 63 } : Room) (fqPc (TX cy) ZX D cy ad sz n σ [.ref (ad 0), .int x1]) (faQl D cy ad sz n σ (fun v u => v = r ∧ u.2 = (n', σ') ∧ ∀ c, c < ZX n → u.1 c = ad c)) 4 27 (fqA (TX cy) ZX ad sz n σ) := by
  refine fa_enter_l (cc := cX8_player) (maxL := 3) (own := RX8) _ (by decide) rfl (Nat.le_of_ble_eq_true rfl) rfl (fun X E hret => ?_)
  show fqG X (TX cy) ZX ad n 3 0 0 σ 0 [(0, .ref (ad 0)), (1, .int x1)] []
  unfold pX8_player at hf
  refine g_iload_n (pc := 0) E dX8_player_0 1 rfl rfl ?_
  obtain ⟨r1, e1, hf⟩ := fq_b hf
  refine g_callSi (pc := 1) E [.int x1] (fun l D sz => qX8_isKind l D cy ad sz n σ k x1 e1) gX8_player_X8_isKind rfl rfl rfl kcX8_isKind ⟨by decide, by decide⟩ rfl rfl (Nat.le_of_ble_eq_true rfl) dX8_player_1 ⟨by decide, by decide⟩ ?_
  refine g_if_ne (pc := 4) E 13 dX8_player_4 (by decide) (fun c1 => ?_) (fun c1 => ?_)
  · replace hf := fq_f c1 hf
    refine g_aload_n (pc := 13) E dX8_player_13 0 rfl rfl ?_
    refine g_getfield (pc := 14) E uX8_player_X8 0 (zx_l (by decide)) (fun _ _ => rfl) rfl 0 (by decide) wX8_player_0 (.ref (ad 1)) rfl dX8_player_14 ?_
    refine g_iload_n (pc := 17) E dX8_player_17 1 rfl rfl ?_
    refine g_callVa (pc := 18) E 1 (zx_l (by decide)) (fun _ _ => rfl) rfl [.int x1] (fun l D sz => qX6_admit l D cy ad sz n σ x1 hn hN) gX8_player_X6_admit rfl rfl rfl kcX6_admit ⟨by decide, by decide⟩ rfl rfl (Nat.le_of_ble_eq_true rfl) dX8_player_18 ⟨by decide, by decide⟩ (fun v u hp => ?_)
    obtain ⟨ad', n1, σ1⟩ := u
    by_cases h16 : n < 16
    · replace hf := fq_t h16 hf
      obtain ⟨hv, hu, ha⟩ := hp.1 h16
      cases hu
      subst hv
      cases hf
      refine h_istore_n (pc := 21) E [(2, .int (nI n)), (0, .ref (ad 0)), (1, .int x1)] dX8_player_21 rfl (by decide) rfl ?_
      refine h_iload_n (pc := 22) E dX8_player_22 0 rfl rfl ?_
      refine h_if_ge (pc := 23) E 32 dX8_player_23 (by decide) (fun _ => ?_) (fun h => absurd (nI_pos' (by omega)) h)
      refine h_iload_n (pc := 32) E dX8_player_32 0 rfl rfl ?_
      refine h_i2l (pc := 33) E dX8_player_33 ?_
      exact hret _ (ad', n + 1, fqPI (fqNew σ n x1 fqEven) 1 2 (nI (n + 1))) _ _ dX8_player_34 ⟨rfl, rfl, ha⟩
    · replace hf := fq_f h16 hf
      obtain ⟨hv, hu⟩ := hp.2 h16
      cases hu
      subst hv
      obtain ⟨r2, σ2, e2, hf⟩ := fq_b2 hf
      cases hf
      refine h_istore_n (pc := 21) E [(2, .int (-1)), (0, .ref (ad 0)), (1, .int x1)] dX8_player_21 rfl (by decide) rfl ?_
      refine h_iload_n (pc := 22) E dX8_player_22 0 rfl rfl ?_
      refine h_if_ge (pc := 23) E 32 dX8_player_23 (by decide) (fun h => absurd h (by decide)) (fun _ => ?_)
      refine fqH_of ?_
      refine g_aload_n (pc := 26) E dX8_player_26 1 rfl rfl ?_
      refine g_iconst (pc := 27) E (4 : Int32) dX8_player_27 (by decide) ?_
      refine g_callVl (pc := 28) E 0 (zx_l (by decide)) (fun _ _ => rfl) rfl [.int (4 : Int32)] (fun l D sz => qX8_finding l D cy ad sz n σ k 4 e2) gX8_player_X8_finding rfl rfl rfl kcX8_finding ⟨by decide, by decide⟩ rfl rfl (Nat.le_of_ble_eq_true rfl) dX8_player_28 ⟨by decide, by decide⟩ ?_
      exact fqG_of (hret _ (ad, n, σ') _ _ dX8_player_31 ⟨rfl, rfl, fun _ _ => rfl⟩)
  · replace hf := fq_t c1 hf
    obtain ⟨r2, σ2, e2, hf⟩ := fq_b2 hf
    cases hf
    refine g_aload_n (pc := 7) E dX8_player_7 0 rfl rfl ?_
    refine g_iconst (pc := 8) E (1 : Int32) dX8_player_8 (by decide) ?_
    refine g_callVl (pc := 9) E 0 (zx_l (by decide)) (fun _ _ => rfl) rfl [.int (1 : Int32)] (fun l D sz => qX8_finding l D cy ad sz n σ k 1 e2) gX8_player_X8_finding rfl rfl rfl kcX8_finding ⟨by decide, by decide⟩ rfl rfl (Nat.le_of_ble_eq_true rfl) dX8_player_9 ⟨by decide, by decide⟩ ?_
    exact fqG_of (h_widen (c2 := 4) (s2 := 27) (by decide) (by decide) (hret _ (ad, n, σ') _ _ dX8_player_12 ⟨rfl, rfl, fun _ _ => rfl⟩))
