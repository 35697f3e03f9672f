theorem fq_dvX8 : ∀ j, j < 13 → defaultValue (tyX8 j) = vp_V ([.null, .null, .null, .null, .null, .null, .null, .null, .null, .int (0 : Int32), .int (0 : Int32), .long (0 : Int64), .long (0 : Int64)]) j := by decide +kernel
theorem fq_dvX9 : ∀ j, j < 33 → defaultValue (tyX9 j) = vp_V ([.null, .int (0 : Int32), .null, .null, .null, .null, .int (0 : Int32), .int (0 : Int32), .int (0 : Int32), .int (0 : Int32), .int (0 : Int32), .int (0 : Int32), .null, .null, .null, .null, .null, .null, .null, .int (0 : Int32), .int (0 : Int32), .int (0 : Int32), .null, .null, .null, .null, .int (0 : Int32), .int (0 : Int32), .long (0 : Int64), .null, .null, .int (0 : Int32), .null]) j := by decide +kernel
theorem uL_law_X8 : ∀ w ∈ u_ws RX8 TX8 13, w ∈ wsL_law := (fun _ h => (List.mem_append_left _ (List.mem_append_left _ (List.mem_append_left _ (List.mem_append_left _ (List.mem_append_left _ (List.mem_append_left _ (List.mem_append_left _ (List.mem_append_left _ (List.mem_append_left _ (List.mem_append_left _ (List.mem_append_right _ h))))))))))))
theorem uL_law_X9 : ∀ w ∈ u_ws RX9 TX9 33, w ∈ wsL_law := (fun _ h => (List.mem_append_left _ (List.mem_append_left _ (List.mem_append_left _ (List.mem_append_left _ (List.mem_append_left _ (List.mem_append_left _ (List.mem_append_left _ (List.mem_append_left _ (List.mem_append_left _ (List.mem_append_right _ h)))))))))))
set_option maxRecDepth 20000 in
theorem il_X0 : Cond.instantiable RX0 3 ∈ lw_tbl := by decide +kernel
set_option maxRecDepth 20000 in
theorem il_X1 : Cond.instantiable RX1 4 ∈ lw_tbl := by decide +kernel
set_option maxRecDepth 20000 in
theorem il_X2 : Cond.instantiable RX2 2 ∈ lw_tbl := by decide +kernel
set_option maxRecDepth 20000 in
theorem il_X3 : Cond.instantiable RX3 6 ∈ lw_tbl := by decide +kernel
set_option maxRecDepth 20000 in
theorem il_X4 : Cond.instantiable RX4 3 ∈ lw_tbl := by decide +kernel
set_option maxRecDepth 20000 in
theorem il_X5 : Cond.instantiable RX5 5 ∈ lw_tbl := by decide +kernel
set_option maxRecDepth 20000 in
theorem il_X6 : Cond.instantiable RX6 3 ∈ lw_tbl := by decide +kernel
set_option maxRecDepth 20000 in
theorem il_X7 : Cond.instantiable RX7 3 ∈ lw_tbl := by decide +kernel
set_option maxRecDepth 20000 in
theorem il_X8 : Cond.instantiable RX8 13 ∈ lw_tbl := by decide +kernel
set_option maxRecDepth 20000 in
theorem il_X9 : Cond.instantiable RX9 33 ∈ lw_tbl := by decide +kernel
set_option maxRecDepth 20000 in
theorem al_I : Cond.arrayClass .int ∈ lw_tbl := by decide +kernel
set_option maxRecDepth 20000 in
theorem al_J : Cond.arrayClass .long ∈ lw_tbl := by decide +kernel
set_option maxRecDepth 20000 in
theorem al_Z : Cond.arrayClass .boolean ∈ lw_tbl := by decide +kernel
set_option maxRecDepth 20000 in
theorem ao_1 : Cond.arrayOver (.object RX1) ∈ lw_tbl := by decide +kernel
set_option maxRecDepth 20000 in
theorem ao_5 : Cond.arrayOver (.object RX5) ∈ lw_tbl := by decide +kernel
set_option maxRecDepth 20000 in
theorem nl_n1 : Cond.methodLinkNest RX5 28 yX8_evenShare RX8 ∈ lw_tbl := by decide +kernel
set_option maxRecDepth 20000 in
theorem nl_n2 : Cond.methodLinkNest RX6 35 yX8_hasBit RX8 ∈ lw_tbl := by decide +kernel
set_option maxRecDepth 20000 in
theorem nl_n3 : Cond.methodLinkNest RX7 34 yX8_hasBit RX8 ∈ lw_tbl := by decide +kernel
set_option maxRecDepth 20000 in
theorem nl_n4 : Cond.methodLinkNest RX3 63 yX8_hasBit RX8 ∈ lw_tbl := by decide +kernel
set_option maxRecDepth 20000 in
theorem nl_n5 : Cond.methodLinkNest RX6 46 yX8_bitOf RX8 ∈ lw_tbl := by decide +kernel
set_option maxRecDepth 20000 in
theorem wl_a : Cond.classLink RL 7 RX8 ∈ wsL_law := by decide +kernel
set_option maxRecDepth 20000 in
theorem wl_b : Cond.instantiable RX8 13 ∈ wsL_law := by decide +kernel
set_option maxRecDepth 20000 in
theorem wl_c : Cond.initialized RX8 ∈ wsL_law := by decide +kernel
set_option maxRecDepth 20000 in
theorem wl_d : Cond.methodLink RL 9 yX8_init ∈ wsL_law := by decide +kernel
set_option maxRecDepth 20000 in
theorem wl_e : Cond.instanceMethod yX8_init ∈ wsL_law := by decide +kernel
set_option maxRecDepth 20000 in
theorem wl_f : Cond.classLink RL 10 RX9 ∈ wsL_law := by decide +kernel
set_option maxRecDepth 20000 in
theorem wl_g : Cond.instantiable RX9 33 ∈ wsL_law := by decide +kernel
set_option maxRecDepth 20000 in
theorem wl_h : Cond.initialized RX9 ∈ wsL_law := by decide +kernel
set_option maxRecDepth 20000 in
theorem wl_i : Cond.methodLink RL 12 yX9_init ∈ wsL_law := by decide +kernel
set_option maxRecDepth 20000 in
theorem wl_j : Cond.instanceMethod yX9_init ∈ wsL_law := by decide +kernel
/-! THE CLAIM OUT OF ONE WALK OF THE LAW'S BODY. Your part is whole_start (and what it stands on); all else here is the same for every law, but numbers. -/
def R_law : String := "FairQueueLaw"
def lw_P (b : Addr) (xs : List Int32) (args : Array Value) (s : State) : Prop := args = #[.ref b] ∧ s.IntsAt b xs ∧ xs.length ≤ 2560 ∧ (Jvm.Cond.and given_1 narrow_1).before args s = true
def lw_Q (_ : Array Value) (s : State) (o : Outcome) (t : State) : Prop := o = .returned (some (.int 1)) ∧ Framed s o t [] 600000 7302250
def lw_Z (below : List Frame) (a : Array Value) (s : State) : State → Prop := fun t => ∃ o, t.status = .running ∧ Ended t below o ∧ lw_Q a s o t
/-- the law's own end, with 1 on the stack, nothing written that was there before, its room as the claim has it -/
theorem lw_ret {p : Program} {l : Launch} {e : Env} {s : State} {m : MethodId} {below : List Frame} {meth : Method} {c : Code} {b : Nat} (hx : p.tables.exec = Jvm.exec) (hb : c.code = code) (hr : meth.sig.returnType = ret) (hlocks : meth.locks = false) {pc : Nat} {H : Heap} {ls : Array Slot} (hdg : decode code pc = .ok (.ireturn, 1)) : W p l e room_1 s m #[Value.ref b] below meth c H [] 600000 7302250 (lw_Z below #[Value.ref b] s) (F0 m pc ls [.int 1]) := by
  intro T hT X
  obtain ⟨fs, hret, hrun, hended, hW, hframe⟩ := X.leave (v := some (.int 1)) (hlocks := hlocks) (fun h => by rw [hr] at h; cases h)
  have hmeth' : T.vm.method? m = some meth := X.method'
  refine ⟨T.setFrames fs, ?_, .returned (some (.int 1)), hrun, hended, rfl, ⟨_, rfl⟩, hW, hframe⟩
  jvm_step X.here [X.here.top, hx, hb, hdg, hmeth', hr, ret, narrow_b1]
  (try refine ⟨rfl, ?_⟩); (try refine ⟨rfl, ?_⟩)
  first | (intro acts; rw [hret _ acts rfl rfl rfl]) | rw [hret _ _ rfl rfl rfl]
  exact Steps.refl _
/-- what holds at the law's entry: the machine, the code, the tables' words (any of lw_tbl by 'hts w (by decide +kernel)'), the script of L ints xs at the cell b, what the Statement gives of the start (any of its parts by flat_of_before) -/
def lw_At (p : Program) (s : State) (m : MethodId) (meth : Method) (c : Code) (b L : Nat) (xs : Nat → Int32) : Prop :=
  p.tables.exec = Jvm.exec ∧ c.code = code ∧ meth.sig.returnType = ret ∧ c.maxLocals = 4 ∧ s.vm.findClass R_law = some m.cls ∧ (∀ w ∈ lw_tbl, w.before #[Value.ref b] s = true) ∧ va_X b L xs s s.heap ∧ b < s.heap.size ∧ meth.locks = false ∧ (Jvm.Cond.and given_1 narrow_1).before #[Value.ref b] s = true

set_option maxHeartbeats 4000000 in
set_option maxRecDepth 100000 in
theorem whole_open {Rel : Nat → Nat → fqS → fqS → Prop} {K : Nat} (hbase : lwBase Rel) (hall : lwAll Rel K) {p : Program} {e : Env} {s : State} {m : MethodId} {below : List Frame} {meth : Method} {c : Code} (l : Launch) {b L : Nat} {xs : Nat → Int32} (hL : L ≤ 2560) (C0 : lw_At p s m meth c b L xs) : W p l e room_1 s m #[Value.ref b] below meth c s.heap [] 0 0 (lw_Z below #[Value.ref b] s) (entryFrame m ([Value.ref b] : List Value).toArray 4) := by
  obtain ⟨hx, hb, hr, hml, hown, hts0, hX, hbl, hlocks, hgv⟩ := id C0
  have hts : ∀ w ∈ wsL_law, w.before #[Value.ref b] s = true := fun w h => hts0 w (wsL_law_in w h)
  obtain ⟨c0, i0, k0⟩ := u_known (C := RX0) (T := TX0) (N := 3) (n := 3) hts0 in_wsX00 (hts0 _ il_X0)
  obtain ⟨c1, i1, k1⟩ := u_known (C := RX1) (T := TX1) (N := 4) (n := 4) hts0 in_wsX10 (hts0 _ il_X1)
  obtain ⟨c2, i2, k2⟩ := u_known (C := RX2) (T := TX2) (N := 2) (n := 2) hts0 in_wsX20 (hts0 _ il_X2)
  obtain ⟨c3, i3, k3⟩ := u_known (C := RX3) (T := TX3) (N := 6) (n := 6) hts0 in_wsX30 (hts0 _ il_X3)
  obtain ⟨c4, i4, k4⟩ := u_known (C := RX4) (T := TX4) (N := 3) (n := 3) hts0 in_wsX40 (hts0 _ il_X4)
  obtain ⟨c5, i5, k5⟩ := u_known (C := RX5) (T := TX5) (N := 5) (n := 5) hts0 in_wsX50 (hts0 _ il_X5)
  obtain ⟨c6, i6, k6⟩ := u_known (C := RX6) (T := TX6) (N := 3) (n := 3) hts0 in_wsX60 (hts0 _ il_X6)
  obtain ⟨c7, i7, k7⟩ := u_known (C := RX7) (T := TX7) (N := 3) (n := 3) hts0 in_wsX70 (hts0 _ il_X7)
  obtain ⟨c8, i8, k8⟩ := u_known (C := RX8) (T := TX8) (N := 13) (n := 13) hts0 in_wsX80 (hts0 _ il_X8)
  obtain ⟨c9, i9, k9⟩ := u_known (C := RX9) (T := TX9) (N := 33) (n := 33) hts0 in_wsX90 (hts0 _ il_X9)
  obtain ⟨dC, dI, hKc⟩ : ∃ (dC : Nat → ClassId) (dI : Nat → Nat → Nat), ∀ (k : Nat) (q : vw_C), vwCl[k]? = some q → u_Kn s q.1 q.2.1 q.2.2 (dC k) (dI k) := by
    refine ⟨fun k => match k with | 0 => c0 | 1 => c1 | 2 => c2 | 3 => c3 | 4 => c4 | 5 => c5 | 6 => c6 | 7 => c7 | 8 => c8 | _ => c9, fun k => match k with | 0 => i0 | 1 => i1 | 2 => i2 | 3 => i3 | 4 => i4 | 5 => i5 | 6 => i6 | 7 => i7 | 8 => i8 | _ => i9, ?_⟩
    intro k q hq
    match k, hq with
    | 0, hq => cases hq; exact k0
    | 1, hq => cases hq; exact k1
    | 2, hq => cases hq; exact k2
    | 3, hq => cases hq; exact k3
    | 4, hq => cases hq; exact k4
    | 5, hq => cases hq; exact k5
    | 6, hq => cases hq; exact k6
    | 7, hq => cases hq; exact k7
    | 8, hq => cases hq; exact k8
    | 9, hq => cases hq; exact k9
    | k + 10, hq => simp [vwCl] at hq
  obtain ⟨cI, kI, mI, fI, gI, hI⟩ := Cond.arrayClass_spec (hts0 _ al_I)
  obtain ⟨cJ, kJ, mJ, fJ, gJ, hJ⟩ := Cond.arrayClass_spec (hts0 _ al_J)
  obtain ⟨cZ, kZ, mZ, fZ, gZ, hZ⟩ := Cond.arrayClass_spec (hts0 _ al_Z)
  obtain ⟨m1, d1, k1a, f1, _, g1, h1, j1⟩ := Cond.arrayOver_spec (hts0 _ ao_1)
  obtain ⟨m5, d5, k5a, f5, _, g5, h5, j5⟩ := Cond.arrayOver_spec (hts0 _ ao_5)
  obtain ⟨cy, hcy⟩ : ∃ cy : Nat → ClassId, cy 0 = cI ∧ cy 1 = cJ ∧ cy 2 = cZ ∧ cy 3 = d1 ∧ cy 4 = d5 := ⟨fun k => match k with | 0 => cI | 1 => cJ | 2 => cZ | 3 => d1 | _ => d5, rfl, rfl, rfl, rfl, rfl⟩
  obtain ⟨y0, y1, y2, y3, y4⟩ := hcy
  have hK : va_K (dC, dI) vwCl (fqTy cy) s := by
    refine ⟨hKc, fun k q hq => ?_⟩
    match k, hq with
    | 0, hq => cases hq; rw [y0]; exact ⟨fun n z => ⟨fun k h => (by cases h), kI, gI, mI, hI⟩, fI⟩
    | 1, hq => cases hq; rw [y1]; exact ⟨fun n z => ⟨fun k h => (by cases h), kJ, gJ, mJ, hJ⟩, fJ⟩
    | 2, hq => cases hq; rw [y2]; exact ⟨fun n z => ⟨fun k h => (by cases h), kZ, gZ, mZ, hZ⟩, fZ⟩
    | 3, hq => cases hq; rw [y3]; exact ⟨fun n z => ⟨fun k h => (by cases h), k1a, g1, m1, h1⟩, k1a, m1, g1, h1, f1, j1⟩
    | 4, hq => cases hq; rw [y4]; exact ⟨fun n z => ⟨fun k h => (by cases h), k5a, g5, m5, h5⟩, k5a, m5, g5, h5, f5, j5⟩
    | k + 5, hq => simp [fqTy] at hq
  have hNw : fqNw s := ⟨⟨va_AO.of (hts0 _ ao_1), va_AO.of (hts0 _ ao_5)⟩, va_Nw.of rfl (hts0 _ nl_n1), va_Nw.of rfl (hts0 _ nl_n2), va_Nw.of rfl (hts0 _ nl_n3), va_Nw.of rfl (hts0 _ nl_n4), va_Nw.of rfl (hts0 _ nl_n5)⟩
  obtain ⟨X, hXe⟩ : ∃ X : fqX, X = (p, l, e, room_1, s, m, #[Value.ref b], below, meth, c, lw_Z below #[Value.ref b] s, (dC, dI), fun q : Nat => s.heap.size ≤ q) := ⟨_, rfl⟩
  have E : fqE X room_1 cy cL_law 4 wsL_law RL := by
    rw [hXe]
    exact ⟨⟨hx, hb, hml, hown, hts⟩, ⟨hK, hNw⟩, fun q h => h, rfl⟩
  have S : lwS X b L xs := by
    rw [hXe]
    exact ⟨hX, hbl, Nat.not_le.mpr hbl⟩
  have hexit : ∀ (cells slots : Nat) (wl : va_W) (lv : List (Nat × Value)), cells ≤ 600000 → slots ≤ 7302250 → fqH X 4 cells slots wl 891 lv [.int 1] := by
    rw [hXe]
    exact fun cells slots wl lv h1 h2 => fun H locs ls hw hl => va_forget (fun q hq => hw.2.2.2.2 q hq) (W.widen h1 h2 (lw_ret hx hb hr hlocks dL_law_891))
  have main : fqH X 4 0 0 [] 0 [(0, .ref b)] [] := by
    refine h_new (pc := 0) E uL_law_X8 tyX8 tyX8_ok wl_a wl_b wl_c (ci := 8) rfl [.null, .null, .null, .null, .null, .null, .null, .null, .null, .int (0 : Int32), .int (0 : Int32), .long (0 : Int64), .long (0 : Int64)] fq_dvX8 (by decide) (by decide) dL_law_0 (fun q0 => ?_)
    refine h_dup (pc := 3) E dL_law_3 rfl ?_
    refine h_callI (pc := 4) E (wr := []) [] (fun (u : { ad : Nat → Nat // ad 0 = q0 }) => fqW (TX cy) ZX u.1 0 fq_sX8) (fun l D sz => qX8_init l D cy sz q0) gL_law_X8_init rfl rfl rfl wl_c wl_d wl_e rfl kcX8_init ⟨by decide, by decide⟩ rfl rfl (Nat.le_of_ble_eq_true rfl) dL_law_4 ⟨by decide, by decide⟩ [0] [] rfl rfl (by decide) (by decide) (by decide) (fun u => ?_)
    obtain ⟨adX, ha⟩ := u
    refine h_wl (wl' := fqW (TX cy) ZX adX 0 fq_sX8) rfl ?_
    refine h_astore_n (pc := 7) E [(1, .ref q0), (0, .ref b)] dL_law_7 rfl (by decide) rfl ?_
    refine h_new (pc := 8) E uL_law_X9 tyX9 tyX9_ok wl_f wl_g wl_h (ci := 9) rfl [.null, .int (0 : Int32), .null, .null, .null, .null, .int (0 : Int32), .int (0 : Int32), .int (0 : Int32), .int (0 : Int32), .int (0 : Int32), .int (0 : Int32), .null, .null, .null, .null, .null, .null, .null, .int (0 : Int32), .int (0 : Int32), .int (0 : Int32), .null, .null, .null, .null, .int (0 : Int32), .int (0 : Int32), .long (0 : Int64), .null, .null, .int (0 : Int32), .null] fq_dvX9 (by decide) (by decide) dL_law_8 (fun q1 => ?_)
    refine h_dup (pc := 11) E dL_law_11 rfl ?_
    refine h_callI2 (pc := 12) E [] (fun (u : { ad : Nat → Nat // ad 0 = q1 }) => fqW (TM cy) ZM u.1 0 fq_sX9) (fun l D sz => qX9_init l D cy sz q1) gL_law_X9_init rfl rfl rfl wl_h wl_i wl_j rfl kcX9_init ⟨by decide, by decide⟩ rfl rfl (Nat.le_of_ble_eq_true rfl) dL_law_12 ⟨by decide, by decide⟩ (fun u => ?_)
    obtain ⟨adM, rfl⟩ := u
    refine h_astore_n (pc := 15) E [(2, .ref (adM 0)), (1, .ref q0), (0, .ref b)] dL_law_15 rfl (by decide) rfl ?_
    refine h_iconst (pc := 16) E (0 : Int32) dL_law_16 (by decide) ?_
    refine h_istore_n (pc := 17) E [(3, .int (0 : Int32)), (2, .ref (adM 0)), (1, .ref q0), (0, .ref b)] dL_law_17 rfl (by decide) rfl ?_
    refine h_lv (lv' := [(0, .ref b), (1, .ref q0), (2, .ref (adM 0)), (3, .int (nI (5 * 0)))]) [3, 2, 1, 0] rfl ?_
    exact lw_loop E S hL hbase hall hexit (L + 1) 0 adX 0 fq_sX8 fq_sX9 (by omega) (by omega) ha hbase.2.2
  have hl := lv_entry ([.ref b]) (n := 4) (Nat.le_of_ble_eq_true rfl)
  rw [lg_entry_eq]
  rw [hXe] at main
  exact main s.heap [] _ ⟨fun k q h => by simp at h, ⟨fun i j p q h => by simp at h, fun k q h => by simp at h⟩, va_S.rf⟩ hl
