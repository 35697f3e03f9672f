theorem fq_vin {i : Int32} {n : Nat} (h : ¬ (i < 0 ∨ n ≤ i.toNatClampNeg)) : vp_in i n := h
theorem fq_nb {x : Int32} (h : x &&& 1 = x) : narrow .boolean (.int x) = .int x := by
  show Value.int _ = Value.int _
  first
    | (rw [h]; done)
    | (simp [narrow, h]; done)
def fqB2 {α β γ : Type} (x : Option (α × β)) (f : α → β → Option γ) : Option γ := match x with
  | none => none
  | some y => f y.1 y.2
theorem fq_b2 {α β γ : Type} {x : Option (α × β)} {f : α → β → Option γ} {z : γ} (hf : fqB2 x f = some z) : ∃ (a : α) (b : β), x = some (a, b) ∧ f a b = some z := by
  match x, hf with
  | none, hf => cases hf
  | some (a, b), hf => exact ⟨a, b, rfl, hf⟩
theorem fq_i32 {x y : Int32} (h : ¬ x = y) : x.toInt ≠ y.toInt := fun q => h (Int32.toInt_inj.mp q)
theorem fq_sw7 {x : Int32} (h0 : ¬ x = 0) (h1 : ¬ x = 1) (h2 : ¬ x = 2) (h3 : ¬ x = 3) (h4 : ¬ x = 4) (h5 : ¬ x = 5) (h6 : ¬ x = 6) : x.toInt < 0 ∨ 6 < x.toInt := by
  have a0 : x.toInt ≠ 0 := fq_i32 h0
  have a1 : x.toInt ≠ 1 := fq_i32 h1
  have a2 : x.toInt ≠ 2 := fq_i32 h2
  have a3 : x.toInt ≠ 3 := fq_i32 h3
  have a4 : x.toInt ≠ 4 := fq_i32 h4
  have a5 : x.toInt ≠ 5 := fq_i32 h5
  have a6 : x.toInt ≠ 6 := fq_i32 h6
  omega
theorem fq_sw4 {x : Int32} (h0 : ¬ x = 0) (h1 : ¬ x = 1) (h2 : ¬ x = 2) (h3 : ¬ x = 3) : x.toInt < 0 ∨ 3 < x.toInt := by
  have a0 : x.toInt ≠ 0 := fq_i32 h0
  have a1 : x.toInt ≠ 1 := fq_i32 h1
  have a2 : x.toInt ≠ 2 := fq_i32 h2
  have a3 : x.toInt ≠ 3 := fq_i32 h3
  omega
theorem zm_l {c n : Nat} (h : c < 20) : c < ZM n := h
/-- a heap state gets a name -/
def fqN {γ : Type} (x : fqS) (f : fqS → Option γ) : Option γ := f x
theorem fq_n {γ : Type} {x : fqS} {f : fqS → Option γ} {z : γ} (hf : fqN x f = some z) : ∃ y : fqS, x = y ∧ f y = some z := ⟨x, rfl, hf⟩
theorem g_sg {X : fqX} {T : fqT} {Z : Nat → Nat} {ad : Nat → Nat} {n nL cells slots : Nat} {σ σ1 : fqS} {pc : Nat} {lv : List (Nat × Value)} {st : List Value} (h : σ = σ1) (k : fqG X T Z ad n nL cells slots σ1 pc lv st) : fqG X T Z ad n nL cells slots σ pc lv st := h ▸ k
