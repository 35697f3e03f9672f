/-! the abstract state: what the int and long fields and elements of each cell hold, by the cell's number in the world and the place in it -/
abbrev fqS : Type := (Nat → Nat → Int32) × (Nat → Nat → Int64)
def fqI (σ : fqS) (c k : Nat) : Int32 := σ.1 c k
def fqJ (σ : fqS) (c k : Nat) : Int64 := σ.2 c k
def fqPI (σ : fqS) (c k : Nat) (v : Int32) : fqS := (va_up σ.1 c (upd (σ.1 c) k v), σ.2)
def fqPJ (σ : fqS) (c k : Nat) (v : Int64) : fqS := (σ.1, va_up σ.2 c (vp_updL (σ.2 c) k v))
/-- a table of cells: of the addresses, the number of players, the cell's number and what it holds -/
abbrev fqT : Type := (Nat → Nat) → Nat → Nat → (Nat → Int32) → (Nat → Int64) → va_E
def fqW (T : fqT) (Z : Nat → Nat) (ad : Nat → Nat) (n : Nat) (σ : fqS) : va_W := (List.range (Z n)).map (fun c => (ad c, T ad n c (σ.1 c) (σ.2 c)))
theorem fqW_get {T : fqT} {Z : Nat → Nat} {ad : Nat → Nat} {n : Nat} {σ : fqS} {c : Nat} (h : c < Z n) : (fqW T Z ad n σ)[c]? = some (ad c, T ad n c (σ.1 c) (σ.2 c)) := by
  simp [fqW, h]
theorem fqW_set {T : fqT} {Z : Nat → Nat} {ad : Nat → Nat} {n : Nat} {σ σ' : fqS} {c : Nat} {e : va_E} (h : c < Z n) (he : T ad n c (σ'.1 c) (σ'.2 c) = e) (ho : ∀ j, j ≠ c → σ'.1 j = σ.1 j ∧ σ'.2 j = σ.2 j) : (fqW T Z ad n σ).set c (ad c, e) = fqW T Z ad n σ' := by
  subst he
  apply List.ext_getElem?
  intro i
  rw [List.getElem?_set]
  by_cases hi : c = i
  · subst hi
    rw [if_pos rfl, fqW_get h]
    simp [fqW, h]
  · rw [if_neg hi]
    obtain ⟨h1, h2⟩ := ho i (Ne.symm hi)
    simp only [fqW, List.getElem?_map]
    rcases Nat.lt_or_ge i (Z n) with q | q
    · rw [List.getElem?_range q]
      simp [h1, h2]
    · rw [List.getElem?_eq_none (by simpa using q)]
      rfl
theorem fqPI_o {σ : fqS} {c k : Nat} {v : Int32} : ∀ j, j ≠ c → (fqPI σ c k v).1 j = σ.1 j ∧ (fqPI σ c k v).2 j = σ.2 j := fun j h => ⟨va_up_ne _ _ h, rfl⟩
theorem fqPJ_o {σ : fqS} {c k : Nat} {v : Int64} : ∀ j, j ≠ c → (fqPJ σ c k v).1 j = σ.1 j ∧ (fqPJ σ c k v).2 j = σ.2 j := fun j h => ⟨rfl, va_up_ne _ _ h⟩
theorem fqPI_s {σ : fqS} {c k : Nat} {v : Int32} : (fqPI σ c k v).1 c = upd (σ.1 c) k v := va_up_self _ _ _
theorem fqPJ_s {σ : fqS} {c k : Nat} {v : Int64} : (fqPJ σ c k v).2 c = vp_updL (σ.2 c) k v := va_up_self _ _ _
/-- the array classes -/
abbrev fqTy (cy : Nat → ClassId) : List (ClassId × FieldType) := [(cy 0, .int), (cy 1, .long), (cy 2, .boolean), (cy 3, .object RX1), (cy 4, .object RX5)]
/-- the nest mates' links, which no word list holds -/
def fqNw (U : State) : Prop := (va_AO RX1 U ∧ va_AO RX5 U) ∧ va_Nw (.methodLinkNest RX5 28 yX8_evenShare RX8) U ∧ va_Nw (.methodLinkNest RX6 35 yX8_hasBit RX8) U ∧ va_Nw (.methodLinkNest RX7 34 yX8_hasBit RX8) U ∧ va_Nw (.methodLinkNest RX3 63 yX8_hasBit RX8) U ∧ va_Nw (.methodLinkNest RX6 46 yX8_bitOf RX8) U
def fqK (D : va_G) (cy : Nat → ClassId) (U : State) : Prop := va_K D vwCl (fqTy cy) U ∧ fqNw U
theorem fqK.warm {D : va_G} {cy : Nat → ClassId} {s U : State} (hW : s.WarmedH U.vm) (h : fqK D cy s) : fqK D cy U := ⟨va_K.moved hW.alike h.1, ⟨h.2.1.1.moved hW.alike, h.2.1.2.moved hW.alike⟩, h.2.2.1.warmM hW, h.2.2.2.1.warmM hW, h.2.2.2.2.1.warmM hW, h.2.2.2.2.2.1.warmM hW, h.2.2.2.2.2.2.warmM hW⟩
theorem fqK.calling {D : va_G} {cy : Nat → ClassId} {U : State} (g : JFrame) (mk : MethodId) (a : Array Value) (h : fqK D cy U) : fqK D cy (U.calling g mk a) := ⟨va_K.moved (u := U) (U := U.calling g mk a) (Vm.Alike.refl U.vm) h.1, ⟨h.2.1.1.moved (U := U.calling g mk a) (Vm.Alike.refl U.vm), h.2.1.2.moved (U := U.calling g mk a) (Vm.Alike.refl U.vm)⟩, h.2.2.1.same rfl rfl, h.2.2.2.1.same rfl rfl, h.2.2.2.2.1.same rfl rfl, h.2.2.2.2.2.1.same rfl rfl, h.2.2.2.2.2.2.same rfl rfl⟩
/-- the world at a point of a walk -/
def fqO (T : fqT) (Z : Nat → Nat) (D : va_G) (ad : Nat → Nat) (n : Nat) (A : Nat → Prop) (H0 : Heap) (σ : fqS) (H : Heap) (locs : List Loc) : Prop := va_P D vwCl (fqW T Z ad n σ) H ∧ va_D A (fqW T Z ad n σ) ∧ va_S A H0 H locs
def fqA (T : fqT) (Z : Nat → Nat) (ad : Nat → Nat) (sz n : Nat) (σ : fqS) : Nat → Prop := va_A (fqW T Z ad n σ) sz
def fqPc (T : fqT) (Z : Nat → Nat) (D : va_G) (cy : Nat → ClassId) (ad : Nat → Nat) (sz n : Nat) (σ : fqS) (av : List Value) : Array Value → State → Prop := va_Pc av (fun U => U.heap.size = sz ∧ va_P D vwCl (fqW T Z ad n σ) U.heap ∧ fqK D cy U ∧ va_D (fun _ => True) (fqW T Z ad n σ))
def fqB (T : fqT) (Z : Nat → Nat) (D : va_G) (ad : Nat → Nat) (sz n : Nat) (σ σ' : fqS) (t : State) : Prop := va_P D vwCl (fqW T Z ad n σ') t.heap ∧ va_D (fqA T Z ad sz n σ) (fqW T Z ad n σ')
def fqQl (T : fqT) (Z : Nat → Nat) (D : va_G) (ad : Nat → Nat) (sz n : Nat) (σ : fqS) (r : Int64) (σ' : fqS) : Array Value → State → Outcome → State → Prop := va_Ql (fun (x : Int64) (_ : Unit) => x = r) (fun _ t => fqB T Z D ad sz n σ σ' t) (fqA T Z ad sz n σ)
def fqQi (T : fqT) (Z : Nat → Nat) (D : va_G) (ad : Nat → Nat) (sz n : Nat) (σ : fqS) (r : Int32) (σ' : fqS) : Array Value → State → Outcome → State → Prop := va_Qi (fun (x : Int32) (_ : Unit) => x = r) (fun _ t => fqB T Z D ad sz n σ σ' t) (fqA T Z ad sz n σ)
def fqQv (T : fqT) (Z : Nat → Nat) (D : va_G) (ad : Nat → Nat) (sz n : Nat) (σ : fqS) (σ' : fqS) : Array Value → State → Outcome → State → Prop := va_Qv (fun (_ : Unit) => True) (fun _ t => fqB T Z D ad sz n σ σ' t) (fqA T Z ad sz n σ)
def fqQq (T : fqT) (Z : Nat → Nat) (D : va_G) (ad : Nat → Nat) (sz n : Nat) (σ : fqS) (r : Option Nat) (σ' : fqS) : Array Value → State → Outcome → State → Prop := va_Qq (fun (x : Option Nat) (_ : Unit) => x = r) (fun _ t => fqB T Z D ad sz n σ σ' t) (fqA T Z ad sz n σ)
theorem fqPc_blind {T : fqT} {Z : Nat → Nat} {D : va_G} {cy : Nat → ClassId} {ad : Nat → Nat} {sz n : Nat} {σ : fqS} {av : List Value} : FrameBlind (fqPc T Z D cy ad sz n σ av) := fun a U g mk q => by
  obtain ⟨q0, q1, qP, qK, qD⟩ := q
  exact ⟨q0, q1, qP, qK.calling g mk a, qD⟩
/-- a loop of a walk, by fuel -/
def fqL {σ α : Type} (body : (σ → Option α) → σ → Option α) : Nat → σ → Option α
  | 0, _ => none
  | k + 1, s => body (fqL body k) s
theorem fqL_run {σ α : Type} {body : (σ → Option α) → σ → Option α} {r : α} {P : σ → Prop} (h : ∀ (rec : σ → Option α) (s : σ), (∀ s', rec s' = some r → P s') → body rec s = some r → P s) : ∀ (k : Nat) (s : σ), fqL body k s = some r → P s := by
  intro k
  induction k with
  | zero => intro s hs; cases hs
  | succ k ih => intro s hs; exact h (fqL body k) s ih hs
theorem fq_t {α : Type} {c : Prop} [Decidable c] {x y z : α} (h : c) (hf : (if c then x else y) = z) : x = z := by rwa [if_pos h] at hf
theorem fq_f {α : Type} {c : Prop} [Decidable c] {x y z : α} (h : ¬ c) (hf : (if c then x else y) = z) : y = z := by rwa [if_neg h] at hf
theorem fq_in {α : Type} {i : Int32} {n : Nat} {x : Option α} {z : α} (hf : (if i < 0 ∨ n ≤ i.toNatClampNeg then none else x) = some z) : vp_in i n ∧ x = some z := by
  by_cases h : i < 0 ∨ n ≤ i.toNatClampNeg
  · rw [if_pos h] at hf; cases hf
  · rw [if_neg h] at hf; exact ⟨h, hf⟩
theorem fq_g {α : Type} {c : Prop} [Decidable c] {x : Option α} {z : α} (hf : (if c then x else none) = some z) : c ∧ x = some z := by
  by_cases h : c
  · rw [if_pos h] at hf; exact ⟨h, hf⟩
  · rw [if_neg h] at hf; cases hf
theorem fq_b {α β : Type} {x : Option α} {k : α → Option β} {z : β} (hf : x.bind k = some z) : ∃ y, x = some y ∧ k y = some z := by
  cases x with
  | none => cases hf
  | some y => exact ⟨y, rfl, hf⟩
