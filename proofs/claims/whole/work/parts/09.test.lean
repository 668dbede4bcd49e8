theorem tt4 (x : Int32) (n : Nat) (h : 0 ≤ x) (h2 : x < 20) : 0 ≤ x * 24 ∧ x * 24 < 480 := by
  grind
theorem tt6 (x y : Int32) (n : Nat) (h : 0 ≤ x) (h2 : x < 20) (h3 : 0 ≤ y) (h4 : y < 24) : 0 ≤ x * 24 + y ∧ (x * 24 + y) < 480 := by
  grind
theorem tt6b (x y : Int32) (n : Nat) (h : 0 ≤ x) (h2 : x < 20) (h3 : 0 ≤ y) (h4 : y < 24) : 0 ≤ x * 24 + y ∧ (x * 24 + y) < 480 := by
  constructor <;> lia
theorem tt8 (x y : Int32) (h : ¬ x < 0) (h2 : ¬ y ≤ x) (hy : y ≤ 20) : 0 ≤ x ∧ x < 20 ∧ x ≠ -1 := by
  grind
theorem tt9 (f : Nat → Int32) (x y : Int32) (h : ¬ x < 0) (h2 : ¬ y ≤ x) (hy : y ≤ 20) (hf : ∀ i, 0 ≤ f i ∧ f i ≤ 24) (h9 : y - 1 ≥ 0): f (y - 1).toNatClampNeg < 25 := by
  grind
theorem tt10 (f : Nat → Int32) (x y v : Int32) (h : x = y) : upd f x.toNatClampNeg v = upd f y.toNatClampNeg v := by
  grind
theorem tt11 (f : Nat → Int32) (x y v : Int32) (h : x ≠ y) (h2 : 0 ≤ x) (h3 : 0 ≤ y) : x.toNatClampNeg ≠ y.toNatClampNeg := by
  grind
theorem tt12 (f : Nat → Int32) (x y v : Int32) (h : 0 ≤ x) (h1 : x ≤ 60): (x + 1).toNatClampNeg = x.toNatClampNeg + 1 := by
  grind
theorem tt13 (f : Nat → Int32) (x y v : Int32) (h : 0 ≤ x) (h1 : x ≤ 60): (x + 1).toNatClampNeg = x.toNatClampNeg + 1 := by
  simp only [Int32.toNatClampNeg]
  grind
