/-! frames by their numbers (class: from 1 on, reference: from 0 on): the class's rows as shifted ones -/
def sh (f : Nat → Int32) : Nat → Int32 := fun j => if j = 0 then 0 else f (j - 1)
def sw (f : Nat → Int32) : Nat → Int32 := fun j => if j < 15 then 0 else f (j - 15)
theorem cl_int {x : Int32} (h : 0 ≤ x) : (x.toNatClampNeg : Int) = x.toInt := by
  have a : (0 : Int) ≤ x.toInt := by simpa using Int32.le_iff_toInt_le.mp h
  show ((x.toInt.toNat : Nat) : Int) = x.toInt
  omega
theorem cl_le {x c : Int32} {n : Nat} (hc : c.toInt = n) (h0 : 0 ≤ x) (h : x ≤ c) : x.toNatClampNeg ≤ n := by
  have a := cl_int h0
  have b := Int32.le_iff_toInt_le.mp h
  omega
theorem ti_add {x y : Int32} (hx : 0 ≤ x) (hx2 : x ≤ 1000000) (hy : 0 ≤ y) (hy2 : y ≤ 1000000) : (x + y).toInt = x.toInt + y.toInt := by
  have a : (0 : Int) ≤ x.toInt := by simpa using Int32.le_iff_toInt_le.mp hx
  have b : (0 : Int) ≤ y.toInt := by simpa using Int32.le_iff_toInt_le.mp hy
  have a2 : x.toInt ≤ 1000000 := Int32.le_iff_toInt_le.mp hx2
  have b2 : y.toInt ≤ 1000000 := Int32.le_iff_toInt_le.mp hy2
  rw [Int32.toInt_add]
  exact Int.bmod_eq_of_le (by omega) (by omega)
theorem cl_add {x y : Int32} (hx : 0 ≤ x) (hx2 : x ≤ 1000000) (hy : 0 ≤ y) (hy2 : y ≤ 1000000) : (x + y).toNatClampNeg = x.toNatClampNeg + y.toNatClampNeg := by
  have a := cl_int hx
  have b := cl_int hy
  have d := cl_int (x := x + y) (by grind)
  have e := ti_add hx hx2 hy hy2
  omega
theorem cl_inj {x y : Int32} (hx : 0 ≤ x) (hy : 0 ≤ y) (h : x.toNatClampNeg = y.toNatClampNeg) : x = y := by
  have a := cl_int hx
  have b := cl_int hy
  exact Int32.toInt_inj.mp (by omega)
theorem cl_s {i : Int32} (h : 1 ≤ i) : i.toNatClampNeg = (i - 1).toNatClampNeg + 1 := by
  have a := cl_int (x := i) (by grind)
  have b := cl_int (x := i - 1) (by grind)
  have d : (i - 1).toInt = i.toInt - 1 := by
    have h1 : (1 : Int) ≤ i.toInt := by simpa using Int32.le_iff_toInt_le.mp h
    have h2 := Int32.toInt_lt i
    rw [Int32.toInt_sub]
    exact Int.bmod_eq_of_le (by simp; omega) (by simp; omega)
  omega
theorem sh_at {f : Nat → Int32} {i : Int32} (h : 1 ≤ i) : sh f i.toNatClampNeg = f (i - 1).toNatClampNeg := by
  rw [cl_s h]; simp [sh]
theorem sh_upd {f : Nat → Int32} {i v : Int32} (h : 1 ≤ i) : upd (sh f) i.toNatClampNeg v = sh (upd f (i - 1).toNatClampNeg v) := by
  rw [cl_s h]
  funext j
  simp only [upd, sh]
  by_cases h0 : j = 0
  · subst h0; simp
  · simp only [h0, if_false]
    by_cases h1 : j = (i - 1).toNatClampNeg + 1
    · have h2 : j - 1 = (i - 1).toNatClampNeg := by omega
      simp [h1]
    · have h2 : ¬ j - 1 = (i - 1).toNatClampNeg := by omega
      simp [h1, h2]
theorem sw_ix {o i : Int32} (h1 : 1 ≤ o) (h2 : o ≤ 25) (h3 : 0 ≤ i) (h4 : i ≤ 15) : (o * 15 + i).toNatClampNeg = (15 * (o - 1) + i).toNatClampNeg + 15 := by
  have e : o * 15 + i = (15 * (o - 1) + i) + 15 := by grind
  rw [e, cl_add (by grind) (by grind) (by grind) (by grind)]
  rfl
theorem sw_at {f : Nat → Int32} {o i : Int32} (h1 : 1 ≤ o) (h2 : o ≤ 25) (h3 : 0 ≤ i) (h4 : i ≤ 15) : sw f (o * 15 + i).toNatClampNeg = f (15 * (o - 1) + i).toNatClampNeg := by
  rw [sw_ix h1 h2 h3 h4]
  have h : ¬ (15 * (o - 1) + i).toNatClampNeg + 15 < 15 := by omega
  simp only [sw, if_neg h, Nat.add_sub_cancel]
theorem sw_upd {f : Nat → Int32} {o i v : Int32} (h1 : 1 ≤ o) (h2 : o ≤ 25) (h3 : 0 ≤ i) (h4 : i ≤ 15) : upd (sw f) (o * 15 + i).toNatClampNeg v = sw (upd f (15 * (o - 1) + i).toNatClampNeg v) := by
  rw [sw_ix h1 h2 h3 h4]
  funext j
  simp only [upd, sw]
  by_cases h0 : j < 15
  · have : ¬ j = (15 * (o - 1) + i).toNatClampNeg + 15 := by omega
    simp [h0, this]
  · simp only [h0, if_false]
    by_cases h9 : j = (15 * (o - 1) + i).toNatClampNeg + 15
    · have : j - 15 = (15 * (o - 1) + i).toNatClampNeg := by omega
      simp [h9]
    · have : ¬ j - 15 = (15 * (o - 1) + i).toNatClampNeg := by omega
      simp [h9, this]
theorem sw_cpy {f g : Nat → Int32} {o : Int32} {a n : Nat} (h1 : 1 ≤ o) (h2 : o ≤ 25) : va_cpy f (sw g) a (o * 15).toNatClampNeg n = sw (va_cpy f g a (15 * (o - 1)).toNatClampNeg n) := by
  have e := sw_ix (i := 0) h1 h2 (by grind) (by grind)
  rw [Int32.add_zero, Int32.add_zero] at e
  rw [e]
  funext j
  simp only [va_cpy, sw]
  by_cases h0 : j < 15
  · have : ¬ ((15 * (o - 1)).toNatClampNeg + 15 ≤ j ∧ j < (15 * (o - 1)).toNatClampNeg + 15 + n) := by omega
    simp only [h0, this, if_false, if_true]
  · simp only [h0, if_false]
    by_cases h9 : (15 * (o - 1)).toNatClampNeg + 15 ≤ j ∧ j < (15 * (o - 1)).toNatClampNeg + 15 + n
    · have h8 : (15 * (o - 1)).toNatClampNeg ≤ j - 15 ∧ j - 15 < (15 * (o - 1)).toNatClampNeg + n := by omega
      rw [if_pos h9, if_pos h8]
      congr 2
      omega
    · have h8 : ¬ ((15 * (o - 1)).toNatClampNeg ≤ j - 15 ∧ j - 15 < (15 * (o - 1)).toNatClampNeg + n) := by omega
      rw [if_neg h9, if_neg h8]
theorem cp_in {x n c : Int32} {L : Nat} (hc : c.toInt = L) (hx : 0 ≤ x) (hn : 0 ≤ n) (h : x ≤ c - n ∧ n ≤ c) : x.toNatClampNeg + n.toNatClampNeg ≤ L := by
  have a := cl_int hx
  have b := cl_int hn
  have d : (c - n).toInt = c.toInt - n.toInt := by
    have h1 : (0 : Int) ≤ n.toInt := by simpa using Int32.le_iff_toInt_le.mp hn
    have h2 := Int32.toInt_lt c
    have h3 := Int32.le_iff_toInt_le.mp h.2
    rw [Int32.toInt_sub]
    exact Int.bmod_eq_of_le (by simp; omega) (by simp; omega)
  have e := Int32.le_iff_toInt_le.mp h.1
  omega
theorem cpyk {f g : Nat → Int32} {a b : Nat} {n : Int32} (h : n ≤ 0) : va_cpy f g a b n.toNatClampNeg = g := by
  have h1 : n.toInt ≤ 0 := by simpa using Int32.le_iff_toInt_le.mp h
  have h2 : n.toNatClampNeg = 0 := by
    show n.toInt.toNat = 0
    omega
  rw [h2]
  funext j
  have : ¬ (b ≤ j ∧ j < b + 0) := by omega
  simp only [va_cpy, this, if_false]
theorem sw_out {x lo hi : Int32} {a b : Int} (ha : lo.toInt = a) (hb : hi.toInt = b) (h : x < lo ∨ hi < x) : x.toInt < a ∨ b < x.toInt := by
  rcases h with h | h
  · exact Or.inl (by rw [← ha]; exact Int32.lt_iff_toInt_lt.mp h)
  · exact Or.inr (by rw [← hb]; exact Int32.lt_iff_toInt_lt.mp h)
theorem upd_s {f : Nat → Int32} {k : Nat} {x : Int32} : upd f k x k = x := by simp [upd]
theorem upd_id {f : Nat → Int32} {k : Nat} : upd f k (f k) = f := by
  funext j; simp only [upd]; by_cases h : j = k
  · subst h; simp
  · simp [h]
theorem as1 (x : Int32) : x + 1 - 1 = x := by grind
