theorem cl_mono {x y : Int32} (hx : 0 ≤ x) (h : x ≤ y) : x.toNatClampNeg ≤ y.toNatClampNeg := by
  have a := cl_int hx
  have b := cl_int (Int32.le_trans hx h)
  have d := Int32.le_iff_toInt_le.mp h
  omega
theorem cl_lt {x y : Int32} (hx : 0 ≤ x) (h : x < y) : x.toNatClampNeg < y.toNatClampNeg := by
  have a := cl_int hx
  have b := cl_int (Int32.le_trans hx (Int32.le_of_lt h))
  have d := Int32.lt_iff_toInt_lt.mp h
  omega
theorem vals_in {r k k2 op i : Int32} {lc fv vs rwf : Nat → Int32} (ho1 : 0 ≤ op) (ho2 : op ≤ 24) (hr1 : 0 ≤ r) (hr2 : r ≤ 20) (hl : lc r.toNatClampNeg ≤ 15) (hi : 0 ≤ i) (hi2 : i < lc r.toNatClampNeg) (hk : k ≤ 15) (hj : 0 ≤ k2) (hj2 : k2 ≤ 61) : f_vals r k k2 op lc fv vs rwf (15 * op + i).toNatClampNeg = if i < k then rwf (k2 + i).toNatClampNeg else fv (15 * r + i).toNatClampNeg := by
  have e1 : (15 * op + i).toNatClampNeg = (15 * op).toNatClampNeg + i.toNatClampNeg := cl_add (by grind) (by grind) hi (by grind)
  have e2 : (15 * r + i).toNatClampNeg = (r * 15).toNatClampNeg + i.toNatClampNeg := by
    rw [mc15 r]
    exact cl_add (by grind) (by grind) hi (by grind)
  have e3 : (k2 + i).toNatClampNeg = k2.toNatClampNeg + i.toNatClampNeg := cl_add hj (by grind) hi (by grind)
  have l1 := cl_lt hi hi2
  simp only [f_vals]
  by_cases c : i < k
  · rw [if_pos c, e1, pk_cpy_in (by omega), e3]
    · congr 2
      omega
    · have h2 : i < (if lc r.toNatClampNeg < k then lc r.toNatClampNeg else k) := by grind
      have := cl_lt hi h2
      omega
  · rw [if_neg c, e1, pk_cpy_out, pk_cpy_in (by omega) (by omega), e2]
    · congr 2
      omega
    · right
      by_cases h9 : (if lc r.toNatClampNeg < k then lc r.toNatClampNeg else k) ≤ 0
      · have h10 : (if lc r.toNatClampNeg < k then lc r.toNatClampNeg else k).toInt ≤ 0 := by simpa using Int32.le_iff_toInt_le.mp h9
        have h11 : (if lc r.toNatClampNeg < k then lc r.toNatClampNeg else k).toNatClampNeg = 0 := by
          show (if lc r.toNatClampNeg < k then lc r.toNatClampNeg else k).toInt.toNat = 0
          omega
        omega
      · have h2 : (if lc r.toNatClampNeg < k then lc r.toNatClampNeg else k) ≤ i := by grind
        have := cl_mono (x := (if lc r.toNatClampNeg < k then lc r.toNatClampNeg else k)) (by grind) h2
        omega
theorem vals_out {r k k2 op : Int32} {lc fv vs rwf : Nat → Int32} {j : Nat} (hl1 : 0 ≤ lc r.toNatClampNeg) (h : ¬ ((15 * op).toNatClampNeg ≤ j ∧ j < (15 * op).toNatClampNeg + (lc r.toNatClampNeg).toNatClampNeg)) : f_vals r k k2 op lc fv vs rwf j = vs j := by
  have h2 : (if lc r.toNatClampNeg < k then lc r.toNatClampNeg else k).toNatClampNeg ≤ (lc r.toNatClampNeg).toNatClampNeg := by
    by_cases h9 : (if lc r.toNatClampNeg < k then lc r.toNatClampNeg else k) ≤ 0
    · have h10 : (if lc r.toNatClampNeg < k then lc r.toNatClampNeg else k).toInt ≤ 0 := by simpa using Int32.le_iff_toInt_le.mp h9
      have h11 : (if lc r.toNatClampNeg < k then lc r.toNatClampNeg else k).toNatClampNeg = 0 := by
        show (if lc r.toNatClampNeg < k then lc r.toNatClampNeg else k).toInt.toNat = 0
        omega
      omega
    · exact cl_mono (by grind) (by grind)
  simp only [f_vals]
  rw [pk_cpy_out (by omega), pk_cpy_out (by omega)]
def op_hv (op i : Int32) (F vs0 vs : Nat → Int32) : Prop := ∀ j, vs j = if (15 * op).toNatClampNeg ≤ j ∧ j < (15 * op).toNatClampNeg + i.toNatClampNeg then F j else vs0 j
theorem op_h0 {op : Int32} {F vs : Nat → Int32} : op_hv op 0 F vs vs := by
  intro j
  have : ¬ ((15 * op).toNatClampNeg ≤ j ∧ j < (15 * op).toNatClampNeg + (0 : Int32).toNatClampNeg) := by
    have e : (0 : Int32).toNatClampNeg = 0 := by decide
    omega
  rw [if_neg this]
theorem op_hs {op i x : Int32} {F vs0 vs : Nat → Int32} {v : Int32} (h : op_hv op i F vs0 vs) (ho1 : 0 ≤ op) (ho2 : op ≤ 24) (hi : 0 ≤ i) (hi2 : i ≤ 15) (hx : x = i + 1) (hv : v = F (15 * op + i).toNatClampNeg) : op_hv op x F vs0 (upd vs (15 * op + i).toNatClampNeg v) := by
  have e1 : (15 * op + i).toNatClampNeg = (15 * op).toNatClampNeg + i.toNatClampNeg := cl_add (by grind) (by grind) hi (by grind)
  have e2 : (i + 1).toNatClampNeg = i.toNatClampNeg + 1 := cl_add hi (by grind) (by decide) (by decide)
  subst hx
  intro j
  simp only [upd]
  by_cases c : j = (15 * op + i).toNatClampNeg
  · rw [if_pos c, if_pos (by omega), hv, c]
  · rw [if_neg c, h j]
    by_cases d : (15 * op).toNatClampNeg ≤ j ∧ j < (15 * op).toNatClampNeg + i.toNatClampNeg
    · rw [if_pos d, if_pos (by omega)]
    · rw [if_neg d, if_neg (by omega)]
theorem op_hf {op r k k2 i : Int32} {lc fv vs0 rwf vs : Nat → Int32} (hl1 : 0 ≤ lc r.toNatClampNeg) (h : op_hv op i (f_vals r k k2 op lc fv vs0 rwf) vs0 vs) (hi : i = lc r.toNatClampNeg) : vs = f_vals r k k2 op lc fv vs0 rwf := by
  subst hi
  funext j
  rw [h j]
  by_cases d : (15 * op).toNatClampNeg ≤ j ∧ j < (15 * op).toNatClampNeg + (lc r.toNatClampNeg).toNatClampNeg
  · rw [if_pos d]
  · rw [if_neg d, vals_out hl1 d]
theorem lq_d0 {i n : Int32} (h : i.toInt + ((0 : Nat) : Int) = n.toInt) : i = n := Int32.toInt_inj.mp (by omega)
theorem lq_d1 {i x : Int32} {n : Nat} (h : i.toInt + ((n + 1 : Nat) : Int) = x.toInt) : i < x := Int32.lt_iff_toInt_lt.mpr (by omega)
theorem lq_in {i y x : Int32} {n : Nat} (hi : 0 ≤ i) (hx : x ≤ 2000) (h : i.toInt + ((n + 1 : Nat) : Int) = x.toInt) (e : y = i + 1) : y.toInt + (n : Int) = x.toInt := by
  have h1 : x.toInt ≤ 2000 := Int32.le_iff_toInt_le.mp hx
  have h2 : i ≤ 1000000 := Int32.le_iff_toInt_le.mpr (by show i.toInt ≤ 1000000; omega)
  have e2 := ti_add hi h2 (y := 1) (by decide) (by decide)
  have e3 : (1 : Int32).toInt = 1 := by decide
  rw [e, e2, e3]
  omega
theorem op_n0 {x : Int32} (h : 0 ≤ x) : (0 : Int32).toInt + ((x.toNatClampNeg : Nat) : Int) = x.toInt := by
  have := cl_int h
  have e : (0 : Int32).toInt = 0 := by decide
  omega
theorem q_X9_opens_g_lp_1 {lc : Nat → Int32} {cn : Int32} {op : Int32} {r : Int32} {k : Int32} {k2 : Int32} {i : Int32} (ho1 : 0 ≤ op) (ho2 : op ≤ 24) (hcn2 : cn ≤ 20) (hr1 : 0 ≤ r) (hr2 : r < cn) (hlc1 : ∀ j, 0 ≤ lc j) (hlc2 : ∀ j, lc j ≤ 15) (hk1 : 0 ≤ k) (hk2 : k ≤ 15) (hj1 : 0 ≤ k2) (hj2 : k2 ≤ 15 - k) (hi0 : 0 ≤ i) (hie : i = lc r.toNatClampNeg) : vp_in r 20 := by
  exact in_of (c := 20) (by decide) (by grind) (by grind)
theorem q_X9_opens_g_lp_3 {lc : Nat → Int32} {cn : Int32} {op : Int32} {r : Int32} {k : Int32} {k2 : Int32} {i : Int32} (ho1 : 0 ≤ op) (ho2 : op ≤ 24) (hcn2 : cn ≤ 20) (hr1 : 0 ≤ r) (hr2 : r < cn) (hlc1 : ∀ j, 0 ≤ lc j) (hlc2 : ∀ j, lc j ≤ 15) (hk1 : 0 ≤ k) (hk2 : k ≤ 15) (hj1 : 0 ≤ k2) (hj2 : k2 ≤ 15 - k) (hi0 : 0 ≤ i) (hie : i = lc r.toNatClampNeg) (c_2 : ¬ (lc r.toNatClampNeg) ≤ i) : False := by
  grind
theorem q_X9_opens_g_lp_5 {lc : Nat → Int32} {cn : Int32} {op : Int32} {mx : Int32} {r : Int32} {k : Int32} {k2 : Int32} {i : Int32} (ho1 : 0 ≤ op) (ho2 : op ≤ 24) (hcn2 : cn ≤ 20) (hr1 : 0 ≤ r) (hr2 : r < cn) (hlc1 : ∀ j, 0 ≤ lc j) (hlc2 : ∀ j, lc j ≤ 15) (hk1 : 0 ≤ k) (hk2 : k ≤ 15) (hj1 : 0 ≤ k2) (hj2 : k2 ≤ 15 - k) (hi0 : 0 ≤ i) (hie : i = lc r.toNatClampNeg) (c_2 : (lc r.toNatClampNeg) ≤ i) (c_4 : (op + 1) ≤ mx) : mx = if mx < op + 1 then op + 1 else mx := by
  grind
theorem q_X9_opens_g_lp_6 {lc : Nat → Int32} {cn : Int32} {op : Int32} {mx : Int32} {r : Int32} {k : Int32} {k2 : Int32} {i : Int32} (ho1 : 0 ≤ op) (ho2 : op ≤ 24) (hcn2 : cn ≤ 20) (hr1 : 0 ≤ r) (hr2 : r < cn) (hlc1 : ∀ j, 0 ≤ lc j) (hlc2 : ∀ j, lc j ≤ 15) (hk1 : 0 ≤ k) (hk2 : k ≤ 15) (hj1 : 0 ≤ k2) (hj2 : k2 ≤ 15 - k) (hi0 : 0 ≤ i) (hie : i = lc r.toNatClampNeg) (c_2 : (lc r.toNatClampNeg) ≤ i) (c_4 : ¬ (op + 1) ≤ mx) : (op + 1) = if mx < op + 1 then op + 1 else mx := by
  grind
theorem q_X9_opens_g_lp_7 {lc : Nat → Int32} {cn : Int32} {op : Int32} {r : Int32} {k : Int32} {k2 : Int32} {i : Int32} (ho1 : 0 ≤ op) (ho2 : op ≤ 24) (hcn2 : cn ≤ 20) (hr1 : 0 ≤ r) (hr2 : r < cn) (hlc1 : ∀ j, 0 ≤ lc j) (hlc2 : ∀ j, lc j ≤ 15) (hk1 : 0 ≤ k) (hk2 : k ≤ 15) (hj1 : 0 ≤ k2) (hj2 : k2 ≤ 15 - k) (hi0 : 0 ≤ i) (hil : i < lc r.toNatClampNeg) : vp_in r 20 := by
  exact in_of (c := 20) (by decide) (by grind) (by grind)
theorem q_X9_opens_g_lp_9 {lc : Nat → Int32} {cn : Int32} {op : Int32} {r : Int32} {k : Int32} {k2 : Int32} {i : Int32} (ho1 : 0 ≤ op) (ho2 : op ≤ 24) (hcn2 : cn ≤ 20) (hr1 : 0 ≤ r) (hr2 : r < cn) (hlc1 : ∀ j, 0 ≤ lc j) (hlc2 : ∀ j, lc j ≤ 15) (hk1 : 0 ≤ k) (hk2 : k ≤ 15) (hj1 : 0 ≤ k2) (hj2 : k2 ≤ 15 - k) (hi0 : 0 ≤ i) (hil : i < lc r.toNatClampNeg) (c_8 : (lc r.toNatClampNeg) ≤ i) : False := by
  grind
theorem q_X9_opens_g_lp_11 {lc : Nat → Int32} {cn : Int32} {op : Int32} {r : Int32} {k : Int32} {k2 : Int32} {i : Int32} (ho1 : 0 ≤ op) (ho2 : op ≤ 24) (hcn2 : cn ≤ 20) (hr1 : 0 ≤ r) (hr2 : r < cn) (hlc1 : ∀ j, 0 ≤ lc j) (hlc2 : ∀ j, lc j ≤ 15) (hk1 : 0 ≤ k) (hk2 : k ≤ 15) (hj1 : 0 ≤ k2) (hj2 : k2 ≤ 15 - k) (hi0 : 0 ≤ i) (hil : i < lc r.toNatClampNeg) (c_8 : ¬ (lc r.toNatClampNeg) ≤ i) (c_10 : k ≤ i) : vp_in ((15 * r) + i) 300 := by
  exact in_of (c := 300) (by decide) (by grind) (by grind)
theorem q_X9_opens_g_lp_12 {lc : Nat → Int32} {cn : Int32} {op : Int32} {r : Int32} {k : Int32} {k2 : Int32} {i : Int32} (ho1 : 0 ≤ op) (ho2 : op ≤ 24) (hcn2 : cn ≤ 20) (hr1 : 0 ≤ r) (hr2 : r < cn) (hlc1 : ∀ j, 0 ≤ lc j) (hlc2 : ∀ j, lc j ≤ 15) (hk1 : 0 ≤ k) (hk2 : k ≤ 15) (hj1 : 0 ≤ k2) (hj2 : k2 ≤ 15 - k) (hi0 : 0 ≤ i) (hil : i < lc r.toNatClampNeg) (c_8 : ¬ (lc r.toNatClampNeg) ≤ i) (c_10 : k ≤ i) : vp_in ((15 * op) + i) 375 := by
  exact in_of (c := 375) (by decide) (by grind) (by grind)
theorem q_X9_opens_g_lp_14 {lc : Nat → Int32} {fv : Nat → Int32} {rwf : Nat → Int32} {cn : Int32} {op : Int32} {r : Int32} {k : Int32} {k2 : Int32} {i : Int32} {vs0 : Nat → Int32} {x_13 : Int32} (ho1 : 0 ≤ op) (ho2 : op ≤ 24) (hcn2 : cn ≤ 20) (hr1 : 0 ≤ r) (hr2 : r < cn) (hlc1 : ∀ j, 0 ≤ lc j) (hlc2 : ∀ j, lc j ≤ 15) (hk1 : 0 ≤ k) (hk2 : k ≤ 15) (hj1 : 0 ≤ k2) (hj2 : k2 ≤ 15 - k) (hi0 : 0 ≤ i) (hil : i < lc r.toNatClampNeg) (c_8 : ¬ (lc r.toNatClampNeg) ≤ i) (c_10 : k ≤ i) (ex_13 : x_13 = i + 1) : (fv ((15 * r) + i).toNatClampNeg) = f_vals r k k2 op lc fv vs0 rwf (15 * op + i).toNatClampNeg := by
  rw [vals_in ho1 ho2 hr1 (by grind) (hlc2 _) hi0 hil hk2 hj1 (by grind)]
  first | rw [if_pos (show i < k by grind)] | rw [if_neg (show ¬ i < k by grind)]
theorem q_X9_opens_g_lp_15 {lc : Nat → Int32} {cn : Int32} {op : Int32} {r : Int32} {k : Int32} {k2 : Int32} {i : Int32} {x_13 : Int32} (ho1 : 0 ≤ op) (ho2 : op ≤ 24) (hcn2 : cn ≤ 20) (hr1 : 0 ≤ r) (hr2 : r < cn) (hlc1 : ∀ j, 0 ≤ lc j) (hlc2 : ∀ j, lc j ≤ 15) (hk1 : 0 ≤ k) (hk2 : k ≤ 15) (hj1 : 0 ≤ k2) (hj2 : k2 ≤ 15 - k) (hi0 : 0 ≤ i) (hil : i < lc r.toNatClampNeg) (c_8 : ¬ (lc r.toNatClampNeg) ≤ i) (c_10 : k ≤ i) (ex_13 : x_13 = i + 1) : 0 ≤ x_13 := by
  grind
theorem q_X9_opens_g_lp_16 {lc : Nat → Int32} {cn : Int32} {op : Int32} {r : Int32} {k : Int32} {k2 : Int32} {i : Int32} (ho1 : 0 ≤ op) (ho2 : op ≤ 24) (hcn2 : cn ≤ 20) (hr1 : 0 ≤ r) (hr2 : r < cn) (hlc1 : ∀ j, 0 ≤ lc j) (hlc2 : ∀ j, lc j ≤ 15) (hk1 : 0 ≤ k) (hk2 : k ≤ 15) (hj1 : 0 ≤ k2) (hj2 : k2 ≤ 15 - k) (hi0 : 0 ≤ i) (hil : i < lc r.toNatClampNeg) (c_8 : ¬ (lc r.toNatClampNeg) ≤ i) (c_10 : ¬ k ≤ i) : vp_in (k2 + i) 15 := by
  exact in_of (c := 15) (by decide) (by grind) (by grind)
theorem q_X9_opens_g_lp_17 {lc : Nat → Int32} {cn : Int32} {op : Int32} {r : Int32} {k : Int32} {k2 : Int32} {i : Int32} (ho1 : 0 ≤ op) (ho2 : op ≤ 24) (hcn2 : cn ≤ 20) (hr1 : 0 ≤ r) (hr2 : r < cn) (hlc1 : ∀ j, 0 ≤ lc j) (hlc2 : ∀ j, lc j ≤ 15) (hk1 : 0 ≤ k) (hk2 : k ≤ 15) (hj1 : 0 ≤ k2) (hj2 : k2 ≤ 15 - k) (hi0 : 0 ≤ i) (hil : i < lc r.toNatClampNeg) (c_8 : ¬ (lc r.toNatClampNeg) ≤ i) (c_10 : ¬ k ≤ i) : vp_in ((15 * op) + i) 375 := by
  exact in_of (c := 375) (by decide) (by grind) (by grind)
theorem q_X9_opens_g_lp_19 {lc : Nat → Int32} {fv : Nat → Int32} {rwf : Nat → Int32} {cn : Int32} {op : Int32} {r : Int32} {k : Int32} {k2 : Int32} {i : Int32} {vs0 : Nat → Int32} {x_18 : Int32} (ho1 : 0 ≤ op) (ho2 : op ≤ 24) (hcn2 : cn ≤ 20) (hr1 : 0 ≤ r) (hr2 : r < cn) (hlc1 : ∀ j, 0 ≤ lc j) (hlc2 : ∀ j, lc j ≤ 15) (hk1 : 0 ≤ k) (hk2 : k ≤ 15) (hj1 : 0 ≤ k2) (hj2 : k2 ≤ 15 - k) (hi0 : 0 ≤ i) (hil : i < lc r.toNatClampNeg) (c_8 : ¬ (lc r.toNatClampNeg) ≤ i) (c_10 : ¬ k ≤ i) (ex_18 : x_18 = i + 1) : (rwf (k2 + i).toNatClampNeg) = f_vals r k k2 op lc fv vs0 rwf (15 * op + i).toNatClampNeg := by
  rw [vals_in ho1 ho2 hr1 (by grind) (hlc2 _) hi0 hil hk2 hj1 (by grind)]
  first | rw [if_pos (show i < k by grind)] | rw [if_neg (show ¬ i < k by grind)]
theorem q_X9_opens_g_lp_20 {lc : Nat → Int32} {cn : Int32} {op : Int32} {r : Int32} {k : Int32} {k2 : Int32} {i : Int32} {x_18 : Int32} (ho1 : 0 ≤ op) (ho2 : op ≤ 24) (hcn2 : cn ≤ 20) (hr1 : 0 ≤ r) (hr2 : r < cn) (hlc1 : ∀ j, 0 ≤ lc j) (hlc2 : ∀ j, lc j ≤ 15) (hk1 : 0 ≤ k) (hk2 : k ≤ 15) (hj1 : 0 ≤ k2) (hj2 : k2 ≤ 15 - k) (hi0 : 0 ≤ i) (hil : i < lc r.toNatClampNeg) (c_8 : ¬ (lc r.toNatClampNeg) ≤ i) (c_10 : ¬ k ≤ i) (ex_18 : x_18 = i + 1) : 0 ≤ x_18 := by
  grind
set_option maxHeartbeats 4000000 in
set_option maxRecDepth 100000 in
theorem lp_X9_opens_g (l : Launch) (dC : Nat → ClassId) (dI : Nat → Nat → Nat) (cI : ClassId) (aX : Nat) (rw : Nat) (m0 : Nat) (m1 : Nat) (m2 : Nat) (m3 : Nat) (m4 : Nat) (m5 : Nat) (m6 : Nat) (m7 : Nat) (m8 : Nat) (m9 : Nat) (m10 : Nat) (m11 : Nat) (m12 : Nat) (m13 : Nat) (m14 : Nat) (m15 : Nat) (lc : Nat → Int32) (fv : Nat → Int32) (rwf : Nat → Int32) (cn : Int32) (op : Int32) (mx : Int32) (tp : Int32) (fa : Int32) (ro : Int32) (pp : Int32) (fm : Int32) (sp : Int32) (it : Int32) (gn : Int32) (mi : Int32) (me : Int32) (mb : Int32) (mv : Int32) (mr : Int32) (mf : Int32) (md : Int32) (mw : Int32) (r : Int32) (k : Int32) (k2 : Int32) (vs0 : Nat → Int32) (ho1 : 0 ≤ op) (ho2 : op ≤ 24) (hcn2 : cn ≤ 20) (hr1 : 0 ≤ r) (hr2 : r < cn) (hlc1 : ∀ j, 0 ≤ lc j) (hlc2 : ∀ j, lc j ≤ 15) (hk1 : 0 ≤ k) (hk2 : k ≤ 15) (hj1 : 0 ≤ k2) (hj2 : k2 ≤ 15 - k) {p : Program} {e : Env} {s : State} {m : MethodId} {below : List Frame} {meth : Method} {c : Code} {A : Nat → Prop} {post : (Int32) × (Int32) × (Nat → Int32) × (Nat → Int32) × (Nat → Int32) × (Nat → Int32) × (Nat → Int32) → Prop} (hx : p.tables.exec = Jvm.exec) (hb : c.code = cX9_opens) (hr : meth.sig.returnType = none) (hml : c.maxLocals = 7) (hts : ∀ w ∈ wsX9_opens, w.before ([.ref aX, .int r, .int k, .ref rw, .int k2] : List Value).toArray s = true) (hown : s.vm.findClass RX9 = some m.cls) (hlocks : meth.locks = false) (hK : va_K (dC, dI) vwCl [(cI, .int)] s) (hA : ∀ q, s.heap.size ≤ q → A q) (fr pl gc ba : Nat → Int32) (hp : ∀ mx', mx' = (if mx < op + 1 then op + 1 else mx) → post (op + 1, mx', fr, pl, gc, ba, (f_vals r k k2 op lc fv vs0 rwf))) :
    ∀ (n : Nat) (i : Int32) (vs : Nat → Int32) (H : Heap) (locs : List Loc) (ls : Array Slot), 0 ≤ i → i.toInt + (n : Int) = (lc r.toNatClampNeg).toInt → op_hv op i (f_vals r k k2 op lc fv vs0 rwf) vs0 vs → va_P (dC, dI) vwCl [(aX, .inr (6, [.int cn, .ref m0, .ref m1, .ref m2, .ref m3, .ref m4, .ref m5, .ref m6, .ref m7, .ref m8, .int mi, .int me, .ref m9, .int gn, .ref m10, .ref m11, .ref m12, .ref m13, .ref m14, .int op, .ref m15, .int tp, .int mb, .int mv, .int mr, .int mf, .int md, .int sp, .int mw, .int it, .int mx, .int fa, .int ro, .int pp, .int fm])), (m0, .inl (cI, 20, .inl lc)), (m1, .inl (cI, 300, .inl fv)), (m10, .inl (cI, 25, .inl fr)), (m11, .inl (cI, 25, .inl pl)), (m12, .inl (cI, 25, .inl ba)), (m13, .inl (cI, 25, .inl gc)), (m14, .inl (cI, 375, .inl vs)), (rw, .inl (cI, 15, .inl rwf))] H → va_D A [(aX, .inr (6, [.int cn, .ref m0, .ref m1, .ref m2, .ref m3, .ref m4, .ref m5, .ref m6, .ref m7, .ref m8, .int mi, .int me, .ref m9, .int gn, .ref m10, .ref m11, .ref m12, .ref m13, .ref m14, .int op, .ref m15, .int tp, .int mb, .int mv, .int mr, .int mf, .int md, .int sp, .int mw, .int it, .int mx, .int fa, .int ro, .int pp, .int fm])), (m0, .inl (cI, 20, .inl lc)), (m1, .inl (cI, 300, .inl fv)), (m10, .inl (cI, 25, .inl fr)), (m11, .inl (cI, 25, .inl pl)), (m12, .inl (cI, 25, .inl ba)), (m13, .inl (cI, 25, .inl gc)), (m14, .inl (cI, 375, .inl vs)), (rw, .inl (cI, 15, .inl rwf))] → va_S A s.heap H locs → lv_has ls 7 [(6, .int i), (5, .int op), (0, .ref aX), (1, .int r), (2, .int k), (3, .ref rw), (4, .int k2)] →
      W p l e ({ frames := 0, cells := 0, slots := 0, locals := 0 }) s m ([.ref aX, .int r, .int k, .ref rw, .int k2] : List Value).toArray below meth c H locs 0 0 (MQ below (va_Qv post (bW (dC, dI) [(cI, .int)] A (fun u : (Int32) × (Int32) × (Nat → Int32) × (Nat → Int32) × (Nat → Int32) × (Nat → Int32) × (Nat → Int32) => [(aX, .inr (6, [.int cn, .ref m0, .ref m1, .ref m2, .ref m3, .ref m4, .ref m5, .ref m6, .ref m7, .ref m8, .int mi, .int me, .ref m9, .int gn, .ref m10, .ref m11, .ref m12, .ref m13, .ref m14, .int u.1, .ref m15, .int tp, .int mb, .int mv, .int mr, .int mf, .int md, .int sp, .int mw, .int it, .int u.2.1, .int fa, .int ro, .int pp, .int fm])), (m0, .inl (cI, 20, .inl lc)), (m1, .inl (cI, 300, .inl fv)), (m10, .inl (cI, 25, .inl u.2.2.1)), (m11, .inl (cI, 25, .inl u.2.2.2.1)), (m12, .inl (cI, 25, .inl u.2.2.2.2.2.1)), (m13, .inl (cI, 25, .inl u.2.2.2.2.1)), (m14, .inl (cI, 375, .inl u.2.2.2.2.2.2)), (rw, .inl (cI, 15, .inl rwf))])) A) ([.ref aX, .int r, .int k, .ref rw, .int k2] : List Value).toArray s 0 0 A) (F0 m 44 ls []) := by
  have k_1 := hts (.fieldLink RX9 7 "ZRoutinesModel" "locals" "[I") (List.mem_of_getElem? (i := 7) rfl)
  have k_2 := hts (.fieldLink RX9 81 "ZRoutinesModel" "frames" "I") (List.mem_of_getElem? (i := 1) rfl)
  have k_3 := hts (.fieldLink RX9 87 "ZRoutinesModel" "most" "I") (List.mem_of_getElem? (i := 10) rfl)
  have k_4 := hts (.fieldLink RX9 59 "ZRoutinesModel" "values" "[I") (List.mem_of_getElem? (i := 8) rfl)
  have k_5 := hts (.fieldLink RX9 13 "ZRoutinesModel" "firsts" "[I") (List.mem_of_getElem? (i := 9) rfl)
  have i_X9 : ∀ w ∈ u_ws RX9 TX9 35, w ∈ wsX9_opens := fun _ h => List.mem_cons_of_mem _ (List.mem_append_right _ h)
  intro n
  induction n with
  | zero =>
    intro i vs H locs ls hi0 hin hv hP hD hS hl
    have hie := lq_d0 hin
    refine lv_iload hx hb dX9_opens_44 (lv_at hl 0 rfl) ?_
    refine lv_aload_n hx hb dX9_opens_46 rfl (lv_at hl 2 rfl) ?_
    refine va_get (D := (dC, dI)) (ci := 6) (v := .ref m0) (C := RX9) (T := TX9) (N := 35) hx hb hts i_X9 hown hK hP 0 rfl rfl 1 (by decide) k_1 (fun _ h9 => h9) rfl dX9_opens_47 ?_
    refine lv_iload_n hx hb dX9_opens_50 rfl (lv_at hl 3 rfl) ?_
    refine va_iald hx hb hK hP 1 0 rfl rfl (q_X9_opens_g_lp_1 ho1 ho2 hcn2 hr1 hr2 hlc1 hlc2 hk1 hk2 hj1 hj2 hi0 hie) dX9_opens_51 ?_
    refine lv_icmp_ge (tgt := 102) hx hb dX9_opens_52 (by decide) (fun c_2 => ?_) (fun c_2 => False.elim (q_X9_opens_g_lp_3 ho1 ho2 hcn2 hr1 hr2 hlc1 hlc2 hk1 hk2 hj1 hj2 hi0 hie c_2))
    refine lv_aload_n hx hb dX9_opens_102 rfl (lv_at hl 2 rfl) ?_
    refine lv_dup hx hb dX9_opens_103 rfl ?_
    refine va_get (D := (dC, dI)) (ci := 6) (v := .int op) (C := RX9) (T := TX9) (N := 35) hx hb hts i_X9 hown hK hP 0 rfl rfl 19 (by decide) k_2 (fun _ h9 => h9) rfl dX9_opens_104 ?_
    refine lv_iconst (v := 1) hx hb dX9_opens_107 (by decide) ?_
    refine lv_iadd hx hb dX9_opens_108 ?_
    refine va_put (D := (dC, dI)) (ci := 6) (v := .int (op + 1)) (ty := .int) (C := RX9) (T := TX9) (N := 35) hx hb hts i_X9 tyX9 tyX9_ok nmX9 hown hK hP hD hS 0 rfl rfl 19 (by decide) k_2 (fun _ h9 => h9) rfl (by decide +kernel) rfl rfl (Nat.le_of_ble_eq_true rfl) dX9_opens_109 (fun H locs hP hD hS => ?_)
    have hP : va_P (dC, dI) vwCl [(aX, .inr (6, [.int cn, .ref m0, .ref m1, .ref m2, .ref m3, .ref m4, .ref m5, .ref m6, .ref m7, .ref m8, .int mi, .int me, .ref m9, .int gn, .ref m10, .ref m11, .ref m12, .ref m13, .ref m14, .int (op + 1), .ref m15, .int tp, .int mb, .int mv, .int mr, .int mf, .int md, .int sp, .int mw, .int it, .int mx, .int fa, .int ro, .int pp, .int fm])), (m0, .inl (cI, 20, .inl lc)), (m1, .inl (cI, 300, .inl fv)), (m10, .inl (cI, 25, .inl fr)), (m11, .inl (cI, 25, .inl pl)), (m12, .inl (cI, 25, .inl ba)), (m13, .inl (cI, 25, .inl gc)), (m14, .inl (cI, 375, .inl vs)), (rw, .inl (cI, 15, .inl rwf))] H := hP
    have hD : va_D A [(aX, .inr (6, [.int cn, .ref m0, .ref m1, .ref m2, .ref m3, .ref m4, .ref m5, .ref m6, .ref m7, .ref m8, .int mi, .int me, .ref m9, .int gn, .ref m10, .ref m11, .ref m12, .ref m13, .ref m14, .int (op + 1), .ref m15, .int tp, .int mb, .int mv, .int mr, .int mf, .int md, .int sp, .int mw, .int it, .int mx, .int fa, .int ro, .int pp, .int fm])), (m0, .inl (cI, 20, .inl lc)), (m1, .inl (cI, 300, .inl fv)), (m10, .inl (cI, 25, .inl fr)), (m11, .inl (cI, 25, .inl pl)), (m12, .inl (cI, 25, .inl ba)), (m13, .inl (cI, 25, .inl gc)), (m14, .inl (cI, 375, .inl vs)), (rw, .inl (cI, 15, .inl rwf))] := hD
    refine lv_aload_n hx hb dX9_opens_112 rfl (lv_at hl 2 rfl) ?_
    refine lv_aload_n hx hb dX9_opens_113 rfl (lv_at hl 2 rfl) ?_
    refine va_get (D := (dC, dI)) (ci := 6) (v := .int (op + 1)) (C := RX9) (T := TX9) (N := 35) hx hb hts i_X9 hown hK hP 0 rfl rfl 19 (by decide) k_2 (fun _ h9 => h9) rfl dX9_opens_114 ?_
    refine lv_aload_n hx hb dX9_opens_117 rfl (lv_at hl 2 rfl) ?_
    refine va_get (D := (dC, dI)) (ci := 6) (v := .int mx) (C := RX9) (T := TX9) (N := 35) hx hb hts i_X9 hown hK hP 0 rfl rfl 30 (by decide) k_3 (fun _ h9 => h9) rfl dX9_opens_118 ?_
    refine lv_icmp_le (tgt := 131) hx hb dX9_opens_121 (by decide) (fun c_4 => ?_) (fun c_4 => ?_)
    · skip
      refine lv_aload_n hx hb dX9_opens_131 rfl (lv_at hl 2 rfl) ?_
      refine va_get (D := (dC, dI)) (ci := 6) (v := .int mx) (C := RX9) (T := TX9) (N := 35) hx hb hts i_X9 hown hK hP 0 rfl rfl 30 (by decide) k_3 (fun _ h9 => h9) rfl dX9_opens_132 ?_
      refine va_put (D := (dC, dI)) (ci := 6) (v := .int mx) (ty := .int) (C := RX9) (T := TX9) (N := 35) hx hb hts i_X9 tyX9 tyX9_ok nmX9 hown hK hP hD hS 0 rfl rfl 30 (by decide) k_3 (fun _ h9 => h9) rfl (by decide +kernel) rfl rfl (Nat.le_of_ble_eq_true rfl) dX9_opens_135 (fun H locs hP hD hS => ?_)
      have hP : va_P (dC, dI) vwCl [(aX, .inr (6, [.int cn, .ref m0, .ref m1, .ref m2, .ref m3, .ref m4, .ref m5, .ref m6, .ref m7, .ref m8, .int mi, .int me, .ref m9, .int gn, .ref m10, .ref m11, .ref m12, .ref m13, .ref m14, .int (op + 1), .ref m15, .int tp, .int mb, .int mv, .int mr, .int mf, .int md, .int sp, .int mw, .int it, .int mx, .int fa, .int ro, .int pp, .int fm])), (m0, .inl (cI, 20, .inl lc)), (m1, .inl (cI, 300, .inl fv)), (m10, .inl (cI, 25, .inl fr)), (m11, .inl (cI, 25, .inl pl)), (m12, .inl (cI, 25, .inl ba)), (m13, .inl (cI, 25, .inl gc)), (m14, .inl (cI, 375, .inl vs)), (rw, .inl (cI, 15, .inl rwf))] H := hP
      have hD : va_D A [(aX, .inr (6, [.int cn, .ref m0, .ref m1, .ref m2, .ref m3, .ref m4, .ref m5, .ref m6, .ref m7, .ref m8, .int mi, .int me, .ref m9, .int gn, .ref m10, .ref m11, .ref m12, .ref m13, .ref m14, .int (op + 1), .ref m15, .int tp, .int mb, .int mv, .int mr, .int mf, .int md, .int sp, .int mw, .int it, .int mx, .int fa, .int ro, .int pp, .int fm])), (m0, .inl (cI, 20, .inl lc)), (m1, .inl (cI, 300, .inl fv)), (m10, .inl (cI, 25, .inl fr)), (m11, .inl (cI, 25, .inl pl)), (m12, .inl (cI, 25, .inl ba)), (m13, .inl (cI, 25, .inl gc)), (m14, .inl (cI, 375, .inl vs)), (rw, .inl (cI, 15, .inl rwf))] := hD
      exact e_wv hx hb hr hlocks dX9_opens_138 hK hS ((op + 1), mx, fr, pl, gc, ba, vs) hP hD (by have q := hp _ (q_X9_opens_g_lp_5 ho1 ho2 hcn2 hr1 hr2 hlc1 hlc2 hk1 hk2 hj1 hj2 hi0 hie c_2 c_4); rw [op_hf (hlc1 _) hv hie]; exact q)
    · skip
      refine lv_aload_n hx hb dX9_opens_124 rfl (lv_at hl 2 rfl) ?_
      refine va_get (D := (dC, dI)) (ci := 6) (v := .int (op + 1)) (C := RX9) (T := TX9) (N := 35) hx hb hts i_X9 hown hK hP 0 rfl rfl 19 (by decide) k_2 (fun _ h9 => h9) rfl dX9_opens_125 ?_
      refine lv_goto (tgt := 135) hx hb dX9_opens_128 (by decide) ?_
      refine va_put (D := (dC, dI)) (ci := 6) (v := .int (op + 1)) (ty := .int) (C := RX9) (T := TX9) (N := 35) hx hb hts i_X9 tyX9 tyX9_ok nmX9 hown hK hP hD hS 0 rfl rfl 30 (by decide) k_3 (fun _ h9 => h9) rfl (by decide +kernel) rfl rfl (Nat.le_of_ble_eq_true rfl) dX9_opens_135 (fun H locs hP hD hS => ?_)
      have hP : va_P (dC, dI) vwCl [(aX, .inr (6, [.int cn, .ref m0, .ref m1, .ref m2, .ref m3, .ref m4, .ref m5, .ref m6, .ref m7, .ref m8, .int mi, .int me, .ref m9, .int gn, .ref m10, .ref m11, .ref m12, .ref m13, .ref m14, .int (op + 1), .ref m15, .int tp, .int mb, .int mv, .int mr, .int mf, .int md, .int sp, .int mw, .int it, .int (op + 1), .int fa, .int ro, .int pp, .int fm])), (m0, .inl (cI, 20, .inl lc)), (m1, .inl (cI, 300, .inl fv)), (m10, .inl (cI, 25, .inl fr)), (m11, .inl (cI, 25, .inl pl)), (m12, .inl (cI, 25, .inl ba)), (m13, .inl (cI, 25, .inl gc)), (m14, .inl (cI, 375, .inl vs)), (rw, .inl (cI, 15, .inl rwf))] H := hP
      have hD : va_D A [(aX, .inr (6, [.int cn, .ref m0, .ref m1, .ref m2, .ref m3, .ref m4, .ref m5, .ref m6, .ref m7, .ref m8, .int mi, .int me, .ref m9, .int gn, .ref m10, .ref m11, .ref m12, .ref m13, .ref m14, .int (op + 1), .ref m15, .int tp, .int mb, .int mv, .int mr, .int mf, .int md, .int sp, .int mw, .int it, .int (op + 1), .int fa, .int ro, .int pp, .int fm])), (m0, .inl (cI, 20, .inl lc)), (m1, .inl (cI, 300, .inl fv)), (m10, .inl (cI, 25, .inl fr)), (m11, .inl (cI, 25, .inl pl)), (m12, .inl (cI, 25, .inl ba)), (m13, .inl (cI, 25, .inl gc)), (m14, .inl (cI, 375, .inl vs)), (rw, .inl (cI, 15, .inl rwf))] := hD
      exact e_wv hx hb hr hlocks dX9_opens_138 hK hS ((op + 1), (op + 1), fr, pl, gc, ba, vs) hP hD (by have q := hp _ (q_X9_opens_g_lp_6 ho1 ho2 hcn2 hr1 hr2 hlc1 hlc2 hk1 hk2 hj1 hj2 hi0 hie c_2 c_4); rw [op_hf (hlc1 _) hv hie]; exact q)
  | succ n ih =>
    intro i vs H locs ls hi0 hin hv hP hD hS hl
    have hil := lq_d1 hin
    refine lv_iload hx hb dX9_opens_44 (lv_at hl 0 rfl) ?_
    refine lv_aload_n hx hb dX9_opens_46 rfl (lv_at hl 2 rfl) ?_
    refine va_get (D := (dC, dI)) (ci := 6) (v := .ref m0) (C := RX9) (T := TX9) (N := 35) hx hb hts i_X9 hown hK hP 0 rfl rfl 1 (by decide) k_1 (fun _ h9 => h9) rfl dX9_opens_47 ?_
    refine lv_iload_n hx hb dX9_opens_50 rfl (lv_at hl 3 rfl) ?_
    refine va_iald hx hb hK hP 1 0 rfl rfl (q_X9_opens_g_lp_7 ho1 ho2 hcn2 hr1 hr2 hlc1 hlc2 hk1 hk2 hj1 hj2 hi0 hil) dX9_opens_51 ?_
    refine lv_icmp_ge (tgt := 102) hx hb dX9_opens_52 (by decide) (fun c_8 => False.elim (q_X9_opens_g_lp_9 ho1 ho2 hcn2 hr1 hr2 hlc1 hlc2 hk1 hk2 hj1 hj2 hi0 hil c_8)) (fun c_8 => ?_)
    refine lv_aload_n hx hb dX9_opens_55 rfl (lv_at hl 2 rfl) ?_
    refine va_get (D := (dC, dI)) (ci := 6) (v := .ref m14) (C := RX9) (T := TX9) (N := 35) hx hb hts i_X9 hown hK hP 0 rfl rfl 18 (by decide) k_4 (fun _ h9 => h9) rfl dX9_opens_56 ?_
    refine lv_bipush (v := 15) hx hb dX9_opens_59 (by decide) ?_
    refine lv_iload hx hb dX9_opens_61 (lv_at hl 1 rfl) ?_
    refine lv_imul hx hb dX9_opens_63 ?_
    refine lv_iload hx hb dX9_opens_64 (lv_at hl 0 rfl) ?_
    refine lv_iadd hx hb dX9_opens_66 ?_
    refine lv_iload hx hb dX9_opens_67 (lv_at hl 0 rfl) ?_
    refine lv_iload_n hx hb dX9_opens_69 rfl (lv_at hl 4 rfl) ?_
    refine lv_icmp_ge (tgt := 83) hx hb dX9_opens_70 (by decide) (fun c_10 => ?_) (fun c_10 => ?_)
    · skip
      refine lv_aload_n hx hb dX9_opens_83 rfl (lv_at hl 2 rfl) ?_
      refine va_get (D := (dC, dI)) (ci := 6) (v := .ref m1) (C := RX9) (T := TX9) (N := 35) hx hb hts i_X9 hown hK hP 0 rfl rfl 2 (by decide) k_5 (fun _ h9 => h9) rfl dX9_opens_84 ?_
      refine lv_bipush (v := 15) hx hb dX9_opens_87 (by decide) ?_
      refine lv_iload_n hx hb dX9_opens_89 rfl (lv_at hl 3 rfl) ?_
      refine lv_imul hx hb dX9_opens_90 ?_
      refine lv_iload hx hb dX9_opens_91 (lv_at hl 0 rfl) ?_
      refine lv_iadd hx hb dX9_opens_93 ?_
      refine va_iald hx hb hK hP 2 0 rfl rfl (q_X9_opens_g_lp_11 ho1 ho2 hcn2 hr1 hr2 hlc1 hlc2 hk1 hk2 hj1 hj2 hi0 hil c_8 c_10) dX9_opens_94 ?_
      refine va_iast hx hb hK hP hD hS 7 0 rfl rfl (q_X9_opens_g_lp_12 ho1 ho2 hcn2 hr1 hr2 hlc1 hlc2 hk1 hk2 hj1 hj2 hi0 hil c_8 c_10) dX9_opens_95 (fun H locs hP hD hS => ?_)
      have hP : va_P (dC, dI) vwCl [(aX, .inr (6, [.int cn, .ref m0, .ref m1, .ref m2, .ref m3, .ref m4, .ref m5, .ref m6, .ref m7, .ref m8, .int mi, .int me, .ref m9, .int gn, .ref m10, .ref m11, .ref m12, .ref m13, .ref m14, .int op, .ref m15, .int tp, .int mb, .int mv, .int mr, .int mf, .int md, .int sp, .int mw, .int it, .int mx, .int fa, .int ro, .int pp, .int fm])), (m0, .inl (cI, 20, .inl lc)), (m1, .inl (cI, 300, .inl fv)), (m10, .inl (cI, 25, .inl fr)), (m11, .inl (cI, 25, .inl pl)), (m12, .inl (cI, 25, .inl ba)), (m13, .inl (cI, 25, .inl gc)), (m14, .inl (cI, 375, .inl (upd vs ((15 * op) + i).toNatClampNeg (fv ((15 * r) + i).toNatClampNeg)))), (rw, .inl (cI, 15, .inl rwf))] H := hP
      have hD : va_D A [(aX, .inr (6, [.int cn, .ref m0, .ref m1, .ref m2, .ref m3, .ref m4, .ref m5, .ref m6, .ref m7, .ref m8, .int mi, .int me, .ref m9, .int gn, .ref m10, .ref m11, .ref m12, .ref m13, .ref m14, .int op, .ref m15, .int tp, .int mb, .int mv, .int mr, .int mf, .int md, .int sp, .int mw, .int it, .int mx, .int fa, .int ro, .int pp, .int fm])), (m0, .inl (cI, 20, .inl lc)), (m1, .inl (cI, 300, .inl fv)), (m10, .inl (cI, 25, .inl fr)), (m11, .inl (cI, 25, .inl pl)), (m12, .inl (cI, 25, .inl ba)), (m13, .inl (cI, 25, .inl gc)), (m14, .inl (cI, 375, .inl (upd vs ((15 * op) + i).toNatClampNeg (fv ((15 * r) + i).toNatClampNeg)))), (rw, .inl (cI, 15, .inl rwf))] := hD
      obtain ⟨x_13, ex_13⟩ : ∃ y : Int32, y = i + 1 := ⟨_, rfl⟩
      refine lv_iinc (v := x_13) (lv' := [(6, .int x_13), (5, .int op), (0, .ref aX), (1, .int r), (2, .int k), (3, .ref rw), (4, .int k2)]) hx hb dX9_opens_96 hl (k := 0) rfl (by rw [ex_13]; rfl) (by decide) rfl (fun ls hl => ?_)
      refine lv_goto (tgt := 44) hx hb dX9_opens_99 (by decide) ?_
      exact ih x_13 (upd vs ((15 * op) + i).toNatClampNeg (fv ((15 * r) + i).toNatClampNeg)) _ _ _ (q_X9_opens_g_lp_15 ho1 ho2 hcn2 hr1 hr2 hlc1 hlc2 hk1 hk2 hj1 hj2 hi0 hil c_8 c_10 ex_13) (lq_in hi0 (Int32.le_trans (hlc2 _) (by decide)) hin ex_13) (op_hs hv ho1 ho2 hi0 (Int32.le_trans (Int32.le_of_lt hil) (hlc2 _)) ex_13 (q_X9_opens_g_lp_14 ho1 ho2 hcn2 hr1 hr2 hlc1 hlc2 hk1 hk2 hj1 hj2 hi0 hil c_8 c_10 ex_13)) hP hD hS hl
    · skip
      refine lv_aload_n hx hb dX9_opens_73 rfl (lv_at hl 5 rfl) ?_
      refine lv_iload hx hb dX9_opens_74 (lv_at hl 6 rfl) ?_
      refine lv_iload hx hb dX9_opens_76 (lv_at hl 0 rfl) ?_
      refine lv_iadd hx hb dX9_opens_78 ?_
      refine va_iald hx hb hK hP 8 0 rfl rfl (q_X9_opens_g_lp_16 ho1 ho2 hcn2 hr1 hr2 hlc1 hlc2 hk1 hk2 hj1 hj2 hi0 hil c_8 c_10) dX9_opens_79 ?_
      refine lv_goto (tgt := 95) hx hb dX9_opens_80 (by decide) ?_
      refine va_iast hx hb hK hP hD hS 7 0 rfl rfl (q_X9_opens_g_lp_17 ho1 ho2 hcn2 hr1 hr2 hlc1 hlc2 hk1 hk2 hj1 hj2 hi0 hil c_8 c_10) dX9_opens_95 (fun H locs hP hD hS => ?_)
      have hP : va_P (dC, dI) vwCl [(aX, .inr (6, [.int cn, .ref m0, .ref m1, .ref m2, .ref m3, .ref m4, .ref m5, .ref m6, .ref m7, .ref m8, .int mi, .int me, .ref m9, .int gn, .ref m10, .ref m11, .ref m12, .ref m13, .ref m14, .int op, .ref m15, .int tp, .int mb, .int mv, .int mr, .int mf, .int md, .int sp, .int mw, .int it, .int mx, .int fa, .int ro, .int pp, .int fm])), (m0, .inl (cI, 20, .inl lc)), (m1, .inl (cI, 300, .inl fv)), (m10, .inl (cI, 25, .inl fr)), (m11, .inl (cI, 25, .inl pl)), (m12, .inl (cI, 25, .inl ba)), (m13, .inl (cI, 25, .inl gc)), (m14, .inl (cI, 375, .inl (upd vs ((15 * op) + i).toNatClampNeg (rwf (k2 + i).toNatClampNeg)))), (rw, .inl (cI, 15, .inl rwf))] H := hP
      have hD : va_D A [(aX, .inr (6, [.int cn, .ref m0, .ref m1, .ref m2, .ref m3, .ref m4, .ref m5, .ref m6, .ref m7, .ref m8, .int mi, .int me, .ref m9, .int gn, .ref m10, .ref m11, .ref m12, .ref m13, .ref m14, .int op, .ref m15, .int tp, .int mb, .int mv, .int mr, .int mf, .int md, .int sp, .int mw, .int it, .int mx, .int fa, .int ro, .int pp, .int fm])), (m0, .inl (cI, 20, .inl lc)), (m1, .inl (cI, 300, .inl fv)), (m10, .inl (cI, 25, .inl fr)), (m11, .inl (cI, 25, .inl pl)), (m12, .inl (cI, 25, .inl ba)), (m13, .inl (cI, 25, .inl gc)), (m14, .inl (cI, 375, .inl (upd vs ((15 * op) + i).toNatClampNeg (rwf (k2 + i).toNatClampNeg)))), (rw, .inl (cI, 15, .inl rwf))] := hD
      obtain ⟨x_18, ex_18⟩ : ∃ y : Int32, y = i + 1 := ⟨_, rfl⟩
      refine lv_iinc (v := x_18) (lv' := [(6, .int x_18), (5, .int op), (0, .ref aX), (1, .int r), (2, .int k), (3, .ref rw), (4, .int k2)]) hx hb dX9_opens_96 hl (k := 0) rfl (by rw [ex_18]; rfl) (by decide) rfl (fun ls hl => ?_)
      refine lv_goto (tgt := 44) hx hb dX9_opens_99 (by decide) ?_
      exact ih x_18 (upd vs ((15 * op) + i).toNatClampNeg (rwf (k2 + i).toNatClampNeg)) _ _ _ (q_X9_opens_g_lp_20 ho1 ho2 hcn2 hr1 hr2 hlc1 hlc2 hk1 hk2 hj1 hj2 hi0 hil c_8 c_10 ex_18) (lq_in hi0 (Int32.le_trans (hlc2 _) (by decide)) hin ex_18) (op_hs hv ho1 ho2 hi0 (Int32.le_trans (Int32.le_of_lt hil) (hlc2 _)) ex_18 (q_X9_opens_g_lp_19 ho1 ho2 hcn2 hr1 hr2 hlc1 hlc2 hk1 hk2 hj1 hj2 hi0 hil c_8 c_10 ex_18)) hP hD hS hl
theorem q_X9_opens_g_1 {lc : Nat → Int32} {cn : Int32} {op : Int32} {r : Int32} {k : Int32} {k2 : Int32} (ho1 : 0 ≤ op) (ho2 : op ≤ 24) (hcn2 : cn ≤ 20) (hr1 : 0 ≤ r) (hr2 : r < cn) (hlc1 : ∀ j, 0 ≤ lc j) (hlc2 : ∀ j, lc j ≤ 15) (hk1 : 0 ≤ k) (hk2 : k ≤ 15) (hj1 : 0 ≤ k2) (hj2 : k2 ≤ 15 - k) : vp_in op 25 := by
  exact in_of (c := 25) (by decide) (by grind) (by grind)
theorem q_X9_opens_g_2 {lc : Nat → Int32} {cn : Int32} {op : Int32} {r : Int32} {k : Int32} {k2 : Int32} (ho1 : 0 ≤ op) (ho2 : op ≤ 24) (hcn2 : cn ≤ 20) (hr1 : 0 ≤ r) (hr2 : r < cn) (hlc1 : ∀ j, 0 ≤ lc j) (hlc2 : ∀ j, lc j ≤ 15) (hk1 : 0 ≤ k) (hk2 : k ≤ 15) (hj1 : 0 ≤ k2) (hj2 : k2 ≤ 15 - k) : vp_in op 25 := by
  exact in_of (c := 25) (by decide) (by grind) (by grind)
theorem q_X9_opens_g_3 {lc : Nat → Int32} {cn : Int32} {op : Int32} {r : Int32} {k : Int32} {k2 : Int32} (ho1 : 0 ≤ op) (ho2 : op ≤ 24) (hcn2 : cn ≤ 20) (hr1 : 0 ≤ r) (hr2 : r < cn) (hlc1 : ∀ j, 0 ≤ lc j) (hlc2 : ∀ j, lc j ≤ 15) (hk1 : 0 ≤ k) (hk2 : k ≤ 15) (hj1 : 0 ≤ k2) (hj2 : k2 ≤ 15 - k) : vp_in op 25 := by
  exact in_of (c := 25) (by decide) (by grind) (by grind)
theorem q_X9_opens_g_4 {lc : Nat → Int32} {cn : Int32} {op : Int32} {r : Int32} {k : Int32} {k2 : Int32} (ho1 : 0 ≤ op) (ho2 : op ≤ 24) (hcn2 : cn ≤ 20) (hr1 : 0 ≤ r) (hr2 : r < cn) (hlc1 : ∀ j, 0 ≤ lc j) (hlc2 : ∀ j, lc j ≤ 15) (hk1 : 0 ≤ k) (hk2 : k ≤ 15) (hj1 : 0 ≤ k2) (hj2 : k2 ≤ 15 - k) : vp_in op 25 := by
  exact in_of (c := 25) (by decide) (by grind) (by grind)
set_option maxHeartbeats 4000000 in
set_option maxRecDepth 100000 in
theorem c_X9_opens_g (l : Launch) (dC : Nat → ClassId) (dI : Nat → Nat → Nat) (cI : ClassId) (sz : Nat) (aX : Nat) (rw : Nat) (m0 : Nat) (m1 : Nat) (m2 : Nat) (m3 : Nat) (m4 : Nat) (m5 : Nat) (m6 : Nat) (m7 : Nat) (m8 : Nat) (m9 : Nat) (m10 : Nat) (m11 : Nat) (m12 : Nat) (m13 : Nat) (m14 : Nat) (m15 : Nat) (lc : Nat → Int32) (fv : Nat → Int32) (fr : Nat → Int32) (pl : Nat → Int32) (gc : Nat → Int32) (ba : Nat → Int32) (vs : Nat → Int32) (rwf : Nat → Int32) (cn : Int32) (op : Int32) (mx : Int32) (tp : Int32) (fa : Int32) (ro : Int32) (pp : Int32) (fm : Int32) (sp : Int32) (it : Int32) (gn : Int32) (mi : Int32) (me : Int32) (mb : Int32) (mv : Int32) (mr : Int32) (mf : Int32) (md : Int32) (mw : Int32) (r : Int32) (k : Int32) (k2 : Int32) (ho1 : 0 ≤ op) (ho2 : op ≤ 24) (hcn2 : cn ≤ 20) (hr1 : 0 ≤ r) (hr2 : r < cn) (hlc1 : ∀ j, 0 ≤ lc j) (hlc2 : ∀ j, lc j ≤ 15) (hk1 : 0 ≤ k) (hk2 : k ≤ 15) (hj1 : 0 ≤ k2) (hj2 : k2 ≤ 15 - k) : mWv l yX9_opens wsX9_opens ({ frames := 0, cells := 0, slots := 0, locals := 0 }) [.ref aX, .int r, .int k, .ref rw, .int k2] (dC, dI) [(cI, .int)] [(aX, .inr (6, [.int cn, .ref m0, .ref m1, .ref m2, .ref m3, .ref m4, .ref m5, .ref m6, .ref m7, .ref m8, .int mi, .int me, .ref m9, .int gn, .ref m10, .ref m11, .ref m12, .ref m13, .ref m14, .int op, .ref m15, .int tp, .int mb, .int mv, .int mr, .int mf, .int md, .int sp, .int mw, .int it, .int mx, .int fa, .int ro, .int pp, .int fm])), (m0, .inl (cI, 20, .inl lc)), (m1, .inl (cI, 300, .inl fv)), (m10, .inl (cI, 25, .inl fr)), (m11, .inl (cI, 25, .inl pl)), (m12, .inl (cI, 25, .inl ba)), (m13, .inl (cI, 25, .inl gc)), (m14, .inl (cI, 375, .inl vs)), (rw, .inl (cI, 15, .inl rwf))] sz (fun u : (Int32) × (Int32) × (Nat → Int32) × (Nat → Int32) × (Nat → Int32) × (Nat → Int32) × (Nat → Int32) => (u.1 = op + 1) ∧ (u.2.1 = if mx < op + 1 then op + 1 else mx) ∧ (u.2.2.1 = upd fr op.toNatClampNeg r) ∧ (u.2.2.2.1 = upd pl op.toNatClampNeg 0) ∧ (u.2.2.2.2.1 = upd gc op.toNatClampNeg k) ∧ (u.2.2.2.2.2.1 = upd ba op.toNatClampNeg tp) ∧ (u.2.2.2.2.2.2 = f_vals r k k2 op lc fv vs rwf)) (fun u : (Int32) × (Int32) × (Nat → Int32) × (Nat → Int32) × (Nat → Int32) × (Nat → Int32) × (Nat → Int32) => [(aX, .inr (6, [.int cn, .ref m0, .ref m1, .ref m2, .ref m3, .ref m4, .ref m5, .ref m6, .ref m7, .ref m8, .int mi, .int me, .ref m9, .int gn, .ref m10, .ref m11, .ref m12, .ref m13, .ref m14, .int u.1, .ref m15, .int tp, .int mb, .int mv, .int mr, .int mf, .int md, .int sp, .int mw, .int it, .int u.2.1, .int fa, .int ro, .int pp, .int fm])), (m0, .inl (cI, 20, .inl lc)), (m1, .inl (cI, 300, .inl fv)), (m10, .inl (cI, 25, .inl u.2.2.1)), (m11, .inl (cI, 25, .inl u.2.2.2.1)), (m12, .inl (cI, 25, .inl u.2.2.2.2.2.1)), (m13, .inl (cI, 25, .inl u.2.2.2.2.1)), (m14, .inl (cI, 375, .inl u.2.2.2.2.2.2)), (rw, .inl (cI, 15, .inl rwf))]) := by
  refine o_wv (cc := cX9_opens) (maxL := 7) (ret := none) (by decide) rfl (Nat.le_of_ble_eq_true rfl) ?_
  intro p e s m below meth c ls A hx hb hr hml hts hown hlocks hP hK hD hS hA hl
  have hown : s.vm.findClass RX9 = some m.cls := hown
  have hl : lv_has ls 7 [(0, .ref aX), (1, .int r), (2, .int k), (3, .ref rw), (4, .int k2)] := hl
  have k_1 := hts (.fieldLink RX9 81 "ZRoutinesModel" "frames" "I") (List.mem_of_getElem? (i := 1) rfl)
  have k_2 := hts (.fieldLink RX9 47 "ZRoutinesModel" "of" "[I") (List.mem_of_getElem? (i := 2) rfl)
  have k_3 := hts (.fieldLink RX9 50 "ZRoutinesModel" "next" "[I") (List.mem_of_getElem? (i := 3) rfl)
  have k_4 := hts (.fieldLink RX9 53 "ZRoutinesModel" "begins" "[I") (List.mem_of_getElem? (i := 4) rfl)
  have k_5 := hts (.fieldLink RX9 84 "ZRoutinesModel" "top" "I") (List.mem_of_getElem? (i := 5) rfl)
  have k_6 := hts (.fieldLink RX9 56 "ZRoutinesModel" "gave" "[I") (List.mem_of_getElem? (i := 6) rfl)
  have i_X9 : ∀ w ∈ u_ws RX9 TX9 35, w ∈ wsX9_opens := fun _ h => List.mem_cons_of_mem _ (List.mem_append_right _ h)
  refine lv_aload_n hx hb dX9_opens_0 rfl (lv_at hl 0 rfl) ?_
  refine va_get (D := (dC, dI)) (ci := 6) (v := .int op) (C := RX9) (T := TX9) (N := 35) hx hb hts i_X9 hown hK hP 0 rfl rfl 19 (by decide) k_1 (fun _ h9 => h9) rfl dX9_opens_1 ?_
  refine lv_istore (lv' := [(5, .int op), (0, .ref aX), (1, .int r), (2, .int k), (3, .ref rw), (4, .int k2)]) hx hb dX9_opens_4 hl (by decide) rfl (fun ls hl => ?_)
  refine lv_aload_n hx hb dX9_opens_6 rfl (lv_at hl 1 rfl) ?_
  refine va_get (D := (dC, dI)) (ci := 6) (v := .ref m10) (C := RX9) (T := TX9) (N := 35) hx hb hts i_X9 hown hK hP 0 rfl rfl 14 (by decide) k_2 (fun _ h9 => h9) rfl dX9_opens_7 ?_
  refine lv_iload hx hb dX9_opens_10 (lv_at hl 0 rfl) ?_
  refine lv_iload_n hx hb dX9_opens_12 rfl (lv_at hl 2 rfl) ?_
  refine va_iast hx hb hK hP hD hS 3 0 rfl rfl (q_X9_opens_g_1 ho1 ho2 hcn2 hr1 hr2 hlc1 hlc2 hk1 hk2 hj1 hj2) dX9_opens_13 (fun H locs hP hD hS => ?_)
  have hP : va_P (dC, dI) vwCl [(aX, .inr (6, [.int cn, .ref m0, .ref m1, .ref m2, .ref m3, .ref m4, .ref m5, .ref m6, .ref m7, .ref m8, .int mi, .int me, .ref m9, .int gn, .ref m10, .ref m11, .ref m12, .ref m13, .ref m14, .int op, .ref m15, .int tp, .int mb, .int mv, .int mr, .int mf, .int md, .int sp, .int mw, .int it, .int mx, .int fa, .int ro, .int pp, .int fm])), (m0, .inl (cI, 20, .inl lc)), (m1, .inl (cI, 300, .inl fv)), (m10, .inl (cI, 25, .inl (upd fr op.toNatClampNeg r))), (m11, .inl (cI, 25, .inl pl)), (m12, .inl (cI, 25, .inl ba)), (m13, .inl (cI, 25, .inl gc)), (m14, .inl (cI, 375, .inl vs)), (rw, .inl (cI, 15, .inl rwf))] H := hP
  have hD : va_D A [(aX, .inr (6, [.int cn, .ref m0, .ref m1, .ref m2, .ref m3, .ref m4, .ref m5, .ref m6, .ref m7, .ref m8, .int mi, .int me, .ref m9, .int gn, .ref m10, .ref m11, .ref m12, .ref m13, .ref m14, .int op, .ref m15, .int tp, .int mb, .int mv, .int mr, .int mf, .int md, .int sp, .int mw, .int it, .int mx, .int fa, .int ro, .int pp, .int fm])), (m0, .inl (cI, 20, .inl lc)), (m1, .inl (cI, 300, .inl fv)), (m10, .inl (cI, 25, .inl (upd fr op.toNatClampNeg r))), (m11, .inl (cI, 25, .inl pl)), (m12, .inl (cI, 25, .inl ba)), (m13, .inl (cI, 25, .inl gc)), (m14, .inl (cI, 375, .inl vs)), (rw, .inl (cI, 15, .inl rwf))] := hD
  refine lv_aload_n hx hb dX9_opens_14 rfl (lv_at hl 1 rfl) ?_
  refine va_get (D := (dC, dI)) (ci := 6) (v := .ref m11) (C := RX9) (T := TX9) (N := 35) hx hb hts i_X9 hown hK hP 0 rfl rfl 15 (by decide) k_3 (fun _ h9 => h9) rfl dX9_opens_15 ?_
  refine lv_iload hx hb dX9_opens_18 (lv_at hl 0 rfl) ?_
  refine lv_iconst (v := 0) hx hb dX9_opens_20 (by decide) ?_
  refine va_iast hx hb hK hP hD hS 4 0 rfl rfl (q_X9_opens_g_2 ho1 ho2 hcn2 hr1 hr2 hlc1 hlc2 hk1 hk2 hj1 hj2) dX9_opens_21 (fun H locs hP hD hS => ?_)
  have hP : va_P (dC, dI) vwCl [(aX, .inr (6, [.int cn, .ref m0, .ref m1, .ref m2, .ref m3, .ref m4, .ref m5, .ref m6, .ref m7, .ref m8, .int mi, .int me, .ref m9, .int gn, .ref m10, .ref m11, .ref m12, .ref m13, .ref m14, .int op, .ref m15, .int tp, .int mb, .int mv, .int mr, .int mf, .int md, .int sp, .int mw, .int it, .int mx, .int fa, .int ro, .int pp, .int fm])), (m0, .inl (cI, 20, .inl lc)), (m1, .inl (cI, 300, .inl fv)), (m10, .inl (cI, 25, .inl (upd fr op.toNatClampNeg r))), (m11, .inl (cI, 25, .inl (upd pl op.toNatClampNeg 0))), (m12, .inl (cI, 25, .inl ba)), (m13, .inl (cI, 25, .inl gc)), (m14, .inl (cI, 375, .inl vs)), (rw, .inl (cI, 15, .inl rwf))] H := hP
  have hD : va_D A [(aX, .inr (6, [.int cn, .ref m0, .ref m1, .ref m2, .ref m3, .ref m4, .ref m5, .ref m6, .ref m7, .ref m8, .int mi, .int me, .ref m9, .int gn, .ref m10, .ref m11, .ref m12, .ref m13, .ref m14, .int op, .ref m15, .int tp, .int mb, .int mv, .int mr, .int mf, .int md, .int sp, .int mw, .int it, .int mx, .int fa, .int ro, .int pp, .int fm])), (m0, .inl (cI, 20, .inl lc)), (m1, .inl (cI, 300, .inl fv)), (m10, .inl (cI, 25, .inl (upd fr op.toNatClampNeg r))), (m11, .inl (cI, 25, .inl (upd pl op.toNatClampNeg 0))), (m12, .inl (cI, 25, .inl ba)), (m13, .inl (cI, 25, .inl gc)), (m14, .inl (cI, 375, .inl vs)), (rw, .inl (cI, 15, .inl rwf))] := hD
  refine lv_aload_n hx hb dX9_opens_22 rfl (lv_at hl 1 rfl) ?_
  refine va_get (D := (dC, dI)) (ci := 6) (v := .ref m12) (C := RX9) (T := TX9) (N := 35) hx hb hts i_X9 hown hK hP 0 rfl rfl 16 (by decide) k_4 (fun _ h9 => h9) rfl dX9_opens_23 ?_
  refine lv_iload hx hb dX9_opens_26 (lv_at hl 0 rfl) ?_
  refine lv_aload_n hx hb dX9_opens_28 rfl (lv_at hl 1 rfl) ?_
  refine va_get (D := (dC, dI)) (ci := 6) (v := .int tp) (C := RX9) (T := TX9) (N := 35) hx hb hts i_X9 hown hK hP 0 rfl rfl 21 (by decide) k_5 (fun _ h9 => h9) rfl dX9_opens_29 ?_
  refine va_iast hx hb hK hP hD hS 5 0 rfl rfl (q_X9_opens_g_3 ho1 ho2 hcn2 hr1 hr2 hlc1 hlc2 hk1 hk2 hj1 hj2) dX9_opens_32 (fun H locs hP hD hS => ?_)
  have hP : va_P (dC, dI) vwCl [(aX, .inr (6, [.int cn, .ref m0, .ref m1, .ref m2, .ref m3, .ref m4, .ref m5, .ref m6, .ref m7, .ref m8, .int mi, .int me, .ref m9, .int gn, .ref m10, .ref m11, .ref m12, .ref m13, .ref m14, .int op, .ref m15, .int tp, .int mb, .int mv, .int mr, .int mf, .int md, .int sp, .int mw, .int it, .int mx, .int fa, .int ro, .int pp, .int fm])), (m0, .inl (cI, 20, .inl lc)), (m1, .inl (cI, 300, .inl fv)), (m10, .inl (cI, 25, .inl (upd fr op.toNatClampNeg r))), (m11, .inl (cI, 25, .inl (upd pl op.toNatClampNeg 0))), (m12, .inl (cI, 25, .inl (upd ba op.toNatClampNeg tp))), (m13, .inl (cI, 25, .inl gc)), (m14, .inl (cI, 375, .inl vs)), (rw, .inl (cI, 15, .inl rwf))] H := hP
  have hD : va_D A [(aX, .inr (6, [.int cn, .ref m0, .ref m1, .ref m2, .ref m3, .ref m4, .ref m5, .ref m6, .ref m7, .ref m8, .int mi, .int me, .ref m9, .int gn, .ref m10, .ref m11, .ref m12, .ref m13, .ref m14, .int op, .ref m15, .int tp, .int mb, .int mv, .int mr, .int mf, .int md, .int sp, .int mw, .int it, .int mx, .int fa, .int ro, .int pp, .int fm])), (m0, .inl (cI, 20, .inl lc)), (m1, .inl (cI, 300, .inl fv)), (m10, .inl (cI, 25, .inl (upd fr op.toNatClampNeg r))), (m11, .inl (cI, 25, .inl (upd pl op.toNatClampNeg 0))), (m12, .inl (cI, 25, .inl (upd ba op.toNatClampNeg tp))), (m13, .inl (cI, 25, .inl gc)), (m14, .inl (cI, 375, .inl vs)), (rw, .inl (cI, 15, .inl rwf))] := hD
  refine lv_aload_n hx hb dX9_opens_33 rfl (lv_at hl 1 rfl) ?_
  refine va_get (D := (dC, dI)) (ci := 6) (v := .ref m13) (C := RX9) (T := TX9) (N := 35) hx hb hts i_X9 hown hK hP 0 rfl rfl 17 (by decide) k_6 (fun _ h9 => h9) rfl dX9_opens_34 ?_
  refine lv_iload hx hb dX9_opens_37 (lv_at hl 0 rfl) ?_
  refine lv_iload_n hx hb dX9_opens_39 rfl (lv_at hl 3 rfl) ?_
  refine va_iast hx hb hK hP hD hS 6 0 rfl rfl (q_X9_opens_g_4 ho1 ho2 hcn2 hr1 hr2 hlc1 hlc2 hk1 hk2 hj1 hj2) dX9_opens_40 (fun H locs hP hD hS => ?_)
  have hP : va_P (dC, dI) vwCl [(aX, .inr (6, [.int cn, .ref m0, .ref m1, .ref m2, .ref m3, .ref m4, .ref m5, .ref m6, .ref m7, .ref m8, .int mi, .int me, .ref m9, .int gn, .ref m10, .ref m11, .ref m12, .ref m13, .ref m14, .int op, .ref m15, .int tp, .int mb, .int mv, .int mr, .int mf, .int md, .int sp, .int mw, .int it, .int mx, .int fa, .int ro, .int pp, .int fm])), (m0, .inl (cI, 20, .inl lc)), (m1, .inl (cI, 300, .inl fv)), (m10, .inl (cI, 25, .inl (upd fr op.toNatClampNeg r))), (m11, .inl (cI, 25, .inl (upd pl op.toNatClampNeg 0))), (m12, .inl (cI, 25, .inl (upd ba op.toNatClampNeg tp))), (m13, .inl (cI, 25, .inl (upd gc op.toNatClampNeg k))), (m14, .inl (cI, 375, .inl vs)), (rw, .inl (cI, 15, .inl rwf))] H := hP
  have hD : va_D A [(aX, .inr (6, [.int cn, .ref m0, .ref m1, .ref m2, .ref m3, .ref m4, .ref m5, .ref m6, .ref m7, .ref m8, .int mi, .int me, .ref m9, .int gn, .ref m10, .ref m11, .ref m12, .ref m13, .ref m14, .int op, .ref m15, .int tp, .int mb, .int mv, .int mr, .int mf, .int md, .int sp, .int mw, .int it, .int mx, .int fa, .int ro, .int pp, .int fm])), (m0, .inl (cI, 20, .inl lc)), (m1, .inl (cI, 300, .inl fv)), (m10, .inl (cI, 25, .inl (upd fr op.toNatClampNeg r))), (m11, .inl (cI, 25, .inl (upd pl op.toNatClampNeg 0))), (m12, .inl (cI, 25, .inl (upd ba op.toNatClampNeg tp))), (m13, .inl (cI, 25, .inl (upd gc op.toNatClampNeg k))), (m14, .inl (cI, 375, .inl vs)), (rw, .inl (cI, 15, .inl rwf))] := hD
  refine lv_iconst (v := 0) hx hb dX9_opens_41 (by decide) ?_
  refine lv_istore (lv' := [(6, .int 0), (5, .int op), (0, .ref aX), (1, .int r), (2, .int k), (3, .ref rw), (4, .int k2)]) hx hb dX9_opens_42 hl (by decide) rfl (fun ls hl => ?_)
  exact lp_X9_opens_g l dC dI cI aX rw m0 m1 m2 m3 m4 m5 m6 m7 m8 m9 m10 m11 m12 m13 m14 m15 lc fv rwf cn op mx tp fa ro pp fm sp it gn mi me mb mv mr mf md mw r k k2 vs ho1 ho2 hcn2 hr1 hr2 hlc1 hlc2 hk1 hk2 hj1 hj2 hx hb hr hml hts hown hlocks hK hA (upd fr op.toNatClampNeg r) (upd pl op.toNatClampNeg 0) (upd gc op.toNatClampNeg k) (upd ba op.toNatClampNeg tp) (fun _ h => ⟨rfl, h, rfl, rfl, rfl, rfl, rfl⟩) (lc r.toNatClampNeg).toNatClampNeg 0 vs _ _ _ (by decide) (op_n0 (hlc1 _)) op_h0 hP hD hS hl
theorem q_X9_opens_lp_1 {lc : Nat → Int32} {cn : Int32} {op : Int32} {r : Int32} {k : Int32} {k2 : Int32} {i : Int32} (ho1 : 0 ≤ op) (ho2 : op ≤ 24) (hcn2 : cn ≤ 20) (hr1 : 0 ≤ r) (hr2 : r < cn) (hlc1 : ∀ j, 0 ≤ lc j) (hlc2 : ∀ j, lc j ≤ 15) (hk1 : 0 ≤ k) (hk2 : k ≤ 15) (hj1 : 0 ≤ k2) (hj2 : k2 ≤ 61 - k) (hi0 : 0 ≤ i) (hie : i = lc r.toNatClampNeg) : vp_in r 20 := by
  exact in_of (c := 20) (by decide) (by grind) (by grind)
theorem q_X9_opens_lp_3 {lc : Nat → Int32} {cn : Int32} {op : Int32} {r : Int32} {k : Int32} {k2 : Int32} {i : Int32} (ho1 : 0 ≤ op) (ho2 : op ≤ 24) (hcn2 : cn ≤ 20) (hr1 : 0 ≤ r) (hr2 : r < cn) (hlc1 : ∀ j, 0 ≤ lc j) (hlc2 : ∀ j, lc j ≤ 15) (hk1 : 0 ≤ k) (hk2 : k ≤ 15) (hj1 : 0 ≤ k2) (hj2 : k2 ≤ 61 - k) (hi0 : 0 ≤ i) (hie : i = lc r.toNatClampNeg) (c_2 : ¬ (lc r.toNatClampNeg) ≤ i) : False := by
  grind
theorem q_X9_opens_lp_5 {lc : Nat → Int32} {cn : Int32} {op : Int32} {mx : Int32} {r : Int32} {k : Int32} {k2 : Int32} {i : Int32} (ho1 : 0 ≤ op) (ho2 : op ≤ 24) (hcn2 : cn ≤ 20) (hr1 : 0 ≤ r) (hr2 : r < cn) (hlc1 : ∀ j, 0 ≤ lc j) (hlc2 : ∀ j, lc j ≤ 15) (hk1 : 0 ≤ k) (hk2 : k ≤ 15) (hj1 : 0 ≤ k2) (hj2 : k2 ≤ 61 - k) (hi0 : 0 ≤ i) (hie : i = lc r.toNatClampNeg) (c_2 : (lc r.toNatClampNeg) ≤ i) (c_4 : (op + 1) ≤ mx) : mx = if mx < op + 1 then op + 1 else mx := by
  grind
theorem q_X9_opens_lp_6 {lc : Nat → Int32} {cn : Int32} {op : Int32} {mx : Int32} {r : Int32} {k : Int32} {k2 : Int32} {i : Int32} (ho1 : 0 ≤ op) (ho2 : op ≤ 24) (hcn2 : cn ≤ 20) (hr1 : 0 ≤ r) (hr2 : r < cn) (hlc1 : ∀ j, 0 ≤ lc j) (hlc2 : ∀ j, lc j ≤ 15) (hk1 : 0 ≤ k) (hk2 : k ≤ 15) (hj1 : 0 ≤ k2) (hj2 : k2 ≤ 61 - k) (hi0 : 0 ≤ i) (hie : i = lc r.toNatClampNeg) (c_2 : (lc r.toNatClampNeg) ≤ i) (c_4 : ¬ (op + 1) ≤ mx) : (op + 1) = if mx < op + 1 then op + 1 else mx := by
  grind
theorem q_X9_opens_lp_7 {lc : Nat → Int32} {cn : Int32} {op : Int32} {r : Int32} {k : Int32} {k2 : Int32} {i : Int32} (ho1 : 0 ≤ op) (ho2 : op ≤ 24) (hcn2 : cn ≤ 20) (hr1 : 0 ≤ r) (hr2 : r < cn) (hlc1 : ∀ j, 0 ≤ lc j) (hlc2 : ∀ j, lc j ≤ 15) (hk1 : 0 ≤ k) (hk2 : k ≤ 15) (hj1 : 0 ≤ k2) (hj2 : k2 ≤ 61 - k) (hi0 : 0 ≤ i) (hil : i < lc r.toNatClampNeg) : vp_in r 20 := by
  exact in_of (c := 20) (by decide) (by grind) (by grind)
theorem q_X9_opens_lp_9 {lc : Nat → Int32} {cn : Int32} {op : Int32} {r : Int32} {k : Int32} {k2 : Int32} {i : Int32} (ho1 : 0 ≤ op) (ho2 : op ≤ 24) (hcn2 : cn ≤ 20) (hr1 : 0 ≤ r) (hr2 : r < cn) (hlc1 : ∀ j, 0 ≤ lc j) (hlc2 : ∀ j, lc j ≤ 15) (hk1 : 0 ≤ k) (hk2 : k ≤ 15) (hj1 : 0 ≤ k2) (hj2 : k2 ≤ 61 - k) (hi0 : 0 ≤ i) (hil : i < lc r.toNatClampNeg) (c_8 : (lc r.toNatClampNeg) ≤ i) : False := by
  grind
theorem q_X9_opens_lp_11 {lc : Nat → Int32} {cn : Int32} {op : Int32} {r : Int32} {k : Int32} {k2 : Int32} {i : Int32} (ho1 : 0 ≤ op) (ho2 : op ≤ 24) (hcn2 : cn ≤ 20) (hr1 : 0 ≤ r) (hr2 : r < cn) (hlc1 : ∀ j, 0 ≤ lc j) (hlc2 : ∀ j, lc j ≤ 15) (hk1 : 0 ≤ k) (hk2 : k ≤ 15) (hj1 : 0 ≤ k2) (hj2 : k2 ≤ 61 - k) (hi0 : 0 ≤ i) (hil : i < lc r.toNatClampNeg) (c_8 : ¬ (lc r.toNatClampNeg) ≤ i) (c_10 : k ≤ i) : vp_in ((15 * r) + i) 300 := by
  exact in_of (c := 300) (by decide) (by grind) (by grind)
theorem q_X9_opens_lp_12 {lc : Nat → Int32} {cn : Int32} {op : Int32} {r : Int32} {k : Int32} {k2 : Int32} {i : Int32} (ho1 : 0 ≤ op) (ho2 : op ≤ 24) (hcn2 : cn ≤ 20) (hr1 : 0 ≤ r) (hr2 : r < cn) (hlc1 : ∀ j, 0 ≤ lc j) (hlc2 : ∀ j, lc j ≤ 15) (hk1 : 0 ≤ k) (hk2 : k ≤ 15) (hj1 : 0 ≤ k2) (hj2 : k2 ≤ 61 - k) (hi0 : 0 ≤ i) (hil : i < lc r.toNatClampNeg) (c_8 : ¬ (lc r.toNatClampNeg) ≤ i) (c_10 : k ≤ i) : vp_in ((15 * op) + i) 375 := by
  exact in_of (c := 375) (by decide) (by grind) (by grind)
theorem q_X9_opens_lp_14 {lc : Nat → Int32} {fv : Nat → Int32} {rwf : Nat → Int32} {cn : Int32} {op : Int32} {r : Int32} {k : Int32} {k2 : Int32} {i : Int32} {vs0 : Nat → Int32} {x_13 : Int32} (ho1 : 0 ≤ op) (ho2 : op ≤ 24) (hcn2 : cn ≤ 20) (hr1 : 0 ≤ r) (hr2 : r < cn) (hlc1 : ∀ j, 0 ≤ lc j) (hlc2 : ∀ j, lc j ≤ 15) (hk1 : 0 ≤ k) (hk2 : k ≤ 15) (hj1 : 0 ≤ k2) (hj2 : k2 ≤ 61 - k) (hi0 : 0 ≤ i) (hil : i < lc r.toNatClampNeg) (c_8 : ¬ (lc r.toNatClampNeg) ≤ i) (c_10 : k ≤ i) (ex_13 : x_13 = i + 1) : (fv ((15 * r) + i).toNatClampNeg) = f_vals r k k2 op lc fv vs0 rwf (15 * op + i).toNatClampNeg := by
  rw [vals_in ho1 ho2 hr1 (by grind) (hlc2 _) hi0 hil hk2 hj1 (by grind)]
  first | rw [if_pos (show i < k by grind)] | rw [if_neg (show ¬ i < k by grind)]
theorem q_X9_opens_lp_15 {lc : Nat → Int32} {cn : Int32} {op : Int32} {r : Int32} {k : Int32} {k2 : Int32} {i : Int32} {x_13 : Int32} (ho1 : 0 ≤ op) (ho2 : op ≤ 24) (hcn2 : cn ≤ 20) (hr1 : 0 ≤ r) (hr2 : r < cn) (hlc1 : ∀ j, 0 ≤ lc j) (hlc2 : ∀ j, lc j ≤ 15) (hk1 : 0 ≤ k) (hk2 : k ≤ 15) (hj1 : 0 ≤ k2) (hj2 : k2 ≤ 61 - k) (hi0 : 0 ≤ i) (hil : i < lc r.toNatClampNeg) (c_8 : ¬ (lc r.toNatClampNeg) ≤ i) (c_10 : k ≤ i) (ex_13 : x_13 = i + 1) : 0 ≤ x_13 := by
  grind
theorem q_X9_opens_lp_16 {lc : Nat → Int32} {cn : Int32} {op : Int32} {r : Int32} {k : Int32} {k2 : Int32} {i : Int32} (ho1 : 0 ≤ op) (ho2 : op ≤ 24) (hcn2 : cn ≤ 20) (hr1 : 0 ≤ r) (hr2 : r < cn) (hlc1 : ∀ j, 0 ≤ lc j) (hlc2 : ∀ j, lc j ≤ 15) (hk1 : 0 ≤ k) (hk2 : k ≤ 15) (hj1 : 0 ≤ k2) (hj2 : k2 ≤ 61 - k) (hi0 : 0 ≤ i) (hil : i < lc r.toNatClampNeg) (c_8 : ¬ (lc r.toNatClampNeg) ≤ i) (c_10 : ¬ k ≤ i) : vp_in (k2 + i) 61 := by
  exact in_of (c := 61) (by decide) (by grind) (by grind)
theorem q_X9_opens_lp_17 {lc : Nat → Int32} {cn : Int32} {op : Int32} {r : Int32} {k : Int32} {k2 : Int32} {i : Int32} (ho1 : 0 ≤ op) (ho2 : op ≤ 24) (hcn2 : cn ≤ 20) (hr1 : 0 ≤ r) (hr2 : r < cn) (hlc1 : ∀ j, 0 ≤ lc j) (hlc2 : ∀ j, lc j ≤ 15) (hk1 : 0 ≤ k) (hk2 : k ≤ 15) (hj1 : 0 ≤ k2) (hj2 : k2 ≤ 61 - k) (hi0 : 0 ≤ i) (hil : i < lc r.toNatClampNeg) (c_8 : ¬ (lc r.toNatClampNeg) ≤ i) (c_10 : ¬ k ≤ i) : vp_in ((15 * op) + i) 375 := by
  exact in_of (c := 375) (by decide) (by grind) (by grind)
theorem q_X9_opens_lp_19 {lc : Nat → Int32} {fv : Nat → Int32} {rwf : Nat → Int32} {cn : Int32} {op : Int32} {r : Int32} {k : Int32} {k2 : Int32} {i : Int32} {vs0 : Nat → Int32} {x_18 : Int32} (ho1 : 0 ≤ op) (ho2 : op ≤ 24) (hcn2 : cn ≤ 20) (hr1 : 0 ≤ r) (hr2 : r < cn) (hlc1 : ∀ j, 0 ≤ lc j) (hlc2 : ∀ j, lc j ≤ 15) (hk1 : 0 ≤ k) (hk2 : k ≤ 15) (hj1 : 0 ≤ k2) (hj2 : k2 ≤ 61 - k) (hi0 : 0 ≤ i) (hil : i < lc r.toNatClampNeg) (c_8 : ¬ (lc r.toNatClampNeg) ≤ i) (c_10 : ¬ k ≤ i) (ex_18 : x_18 = i + 1) : (rwf (k2 + i).toNatClampNeg) = f_vals r k k2 op lc fv vs0 rwf (15 * op + i).toNatClampNeg := by
  rw [vals_in ho1 ho2 hr1 (by grind) (hlc2 _) hi0 hil hk2 hj1 (by grind)]
  first | rw [if_pos (show i < k by grind)] | rw [if_neg (show ¬ i < k by grind)]
theorem q_X9_opens_lp_20 {lc : Nat → Int32} {cn : Int32} {op : Int32} {r : Int32} {k : Int32} {k2 : Int32} {i : Int32} {x_18 : Int32} (ho1 : 0 ≤ op) (ho2 : op ≤ 24) (hcn2 : cn ≤ 20) (hr1 : 0 ≤ r) (hr2 : r < cn) (hlc1 : ∀ j, 0 ≤ lc j) (hlc2 : ∀ j, lc j ≤ 15) (hk1 : 0 ≤ k) (hk2 : k ≤ 15) (hj1 : 0 ≤ k2) (hj2 : k2 ≤ 61 - k) (hi0 : 0 ≤ i) (hil : i < lc r.toNatClampNeg) (c_8 : ¬ (lc r.toNatClampNeg) ≤ i) (c_10 : ¬ k ≤ i) (ex_18 : x_18 = i + 1) : 0 ≤ x_18 := by
  grind
set_option maxHeartbeats 4000000 in
set_option maxRecDepth 100000 in
theorem lp_X9_opens (l : Launch) (dC : Nat → ClassId) (dI : Nat → Nat → Nat) (cI : ClassId) (aX : Nat) (rw : Nat) (m0 : Nat) (m1 : Nat) (m2 : Nat) (m3 : Nat) (m4 : Nat) (m5 : Nat) (m6 : Nat) (m7 : Nat) (m8 : Nat) (m9 : Nat) (m10 : Nat) (m11 : Nat) (m12 : Nat) (m13 : Nat) (m14 : Nat) (m15 : Nat) (lc : Nat → Int32) (fv : Nat → Int32) (rwf : Nat → Int32) (cn : Int32) (op : Int32) (mx : Int32) (tp : Int32) (fa : Int32) (ro : Int32) (pp : Int32) (fm : Int32) (sp : Int32) (it : Int32) (gn : Int32) (mi : Int32) (me : Int32) (mb : Int32) (mv : Int32) (mr : Int32) (mf : Int32) (md : Int32) (mw : Int32) (r : Int32) (k : Int32) (k2 : Int32) (vs0 : Nat → Int32) (ho1 : 0 ≤ op) (ho2 : op ≤ 24) (hcn2 : cn ≤ 20) (hr1 : 0 ≤ r) (hr2 : r < cn) (hlc1 : ∀ j, 0 ≤ lc j) (hlc2 : ∀ j, lc j ≤ 15) (hk1 : 0 ≤ k) (hk2 : k ≤ 15) (hj1 : 0 ≤ k2) (hj2 : k2 ≤ 61 - k) {p : Program} {e : Env} {s : State} {m : MethodId} {below : List Frame} {meth : Method} {c : Code} {A : Nat → Prop} {post : (Int32) × (Int32) × (Nat → Int32) × (Nat → Int32) × (Nat → Int32) × (Nat → Int32) × (Nat → Int32) → Prop} (hx : p.tables.exec = Jvm.exec) (hb : c.code = cX9_opens) (hr : meth.sig.returnType = none) (hml : c.maxLocals = 7) (hts : ∀ w ∈ wsX9_opens, w.before ([.ref aX, .int r, .int k, .ref rw, .int k2] : List Value).toArray s = true) (hown : s.vm.findClass RX9 = some m.cls) (hlocks : meth.locks = false) (hK : va_K (dC, dI) vwCl [(cI, .int)] s) (hA : ∀ q, s.heap.size ≤ q → A q) (fr pl gc ba : Nat → Int32) (hp : ∀ mx', mx' = (if mx < op + 1 then op + 1 else mx) → post (op + 1, mx', fr, pl, gc, ba, (f_vals r k k2 op lc fv vs0 rwf))) :
    ∀ (n : Nat) (i : Int32) (vs : Nat → Int32) (H : Heap) (locs : List Loc) (ls : Array Slot), 0 ≤ i → i.toInt + (n : Int) = (lc r.toNatClampNeg).toInt → op_hv op i (f_vals r k k2 op lc fv vs0 rwf) vs0 vs → va_P (dC, dI) vwCl [(aX, .inr (6, [.int cn, .ref m0, .ref m1, .ref m2, .ref m3, .ref m4, .ref m5, .ref m6, .ref m7, .ref m8, .int mi, .int me, .ref m9, .int gn, .ref m10, .ref m11, .ref m12, .ref m13, .ref m14, .int op, .ref m15, .int tp, .int mb, .int mv, .int mr, .int mf, .int md, .int sp, .int mw, .int it, .int mx, .int fa, .int ro, .int pp, .int fm])), (m0, .inl (cI, 20, .inl lc)), (m1, .inl (cI, 300, .inl fv)), (m10, .inl (cI, 25, .inl fr)), (m11, .inl (cI, 25, .inl pl)), (m12, .inl (cI, 25, .inl ba)), (m13, .inl (cI, 25, .inl gc)), (m14, .inl (cI, 375, .inl vs)), (rw, .inl (cI, 61, .inl rwf))] H → va_D A [(aX, .inr (6, [.int cn, .ref m0, .ref m1, .ref m2, .ref m3, .ref m4, .ref m5, .ref m6, .ref m7, .ref m8, .int mi, .int me, .ref m9, .int gn, .ref m10, .ref m11, .ref m12, .ref m13, .ref m14, .int op, .ref m15, .int tp, .int mb, .int mv, .int mr, .int mf, .int md, .int sp, .int mw, .int it, .int mx, .int fa, .int ro, .int pp, .int fm])), (m0, .inl (cI, 20, .inl lc)), (m1, .inl (cI, 300, .inl fv)), (m10, .inl (cI, 25, .inl fr)), (m11, .inl (cI, 25, .inl pl)), (m12, .inl (cI, 25, .inl ba)), (m13, .inl (cI, 25, .inl gc)), (m14, .inl (cI, 375, .inl vs)), (rw, .inl (cI, 61, .inl rwf))] → va_S A s.heap H locs → lv_has ls 7 [(6, .int i), (5, .int op), (0, .ref aX), (1, .int r), (2, .int k), (3, .ref rw), (4, .int k2)] →
      W p l e ({ frames := 0, cells := 0, slots := 0, locals := 0 }) s m ([.ref aX, .int r, .int k, .ref rw, .int k2] : List Value).toArray below meth c H locs 0 0 (MQ below (va_Qv post (bW (dC, dI) [(cI, .int)] A (fun u : (Int32) × (Int32) × (Nat → Int32) × (Nat → Int32) × (Nat → Int32) × (Nat → Int32) × (Nat → Int32) => [(aX, .inr (6, [.int cn, .ref m0, .ref m1, .ref m2, .ref m3, .ref m4, .ref m5, .ref m6, .ref m7, .ref m8, .int mi, .int me, .ref m9, .int gn, .ref m10, .ref m11, .ref m12, .ref m13, .ref m14, .int u.1, .ref m15, .int tp, .int mb, .int mv, .int mr, .int mf, .int md, .int sp, .int mw, .int it, .int u.2.1, .int fa, .int ro, .int pp, .int fm])), (m0, .inl (cI, 20, .inl lc)), (m1, .inl (cI, 300, .inl fv)), (m10, .inl (cI, 25, .inl u.2.2.1)), (m11, .inl (cI, 25, .inl u.2.2.2.1)), (m12, .inl (cI, 25, .inl u.2.2.2.2.2.1)), (m13, .inl (cI, 25, .inl u.2.2.2.2.1)), (m14, .inl (cI, 375, .inl u.2.2.2.2.2.2)), (rw, .inl (cI, 61, .inl rwf))])) A) ([.ref aX, .int r, .int k, .ref rw, .int k2] : List Value).toArray s 0 0 A) (F0 m 44 ls []) := by
  have k_1 := hts (.fieldLink RX9 7 "ZRoutinesModel" "locals" "[I") (List.mem_of_getElem? (i := 7) rfl)
  have k_2 := hts (.fieldLink RX9 81 "ZRoutinesModel" "frames" "I") (List.mem_of_getElem? (i := 1) rfl)
  have k_3 := hts (.fieldLink RX9 87 "ZRoutinesModel" "most" "I") (List.mem_of_getElem? (i := 10) rfl)
  have k_4 := hts (.fieldLink RX9 59 "ZRoutinesModel" "values" "[I") (List.mem_of_getElem? (i := 8) rfl)
  have k_5 := hts (.fieldLink RX9 13 "ZRoutinesModel" "firsts" "[I") (List.mem_of_getElem? (i := 9) rfl)
  have i_X9 : ∀ w ∈ u_ws RX9 TX9 35, w ∈ wsX9_opens := fun _ h => List.mem_cons_of_mem _ (List.mem_append_right _ h)
  intro n
  induction n with
  | zero =>
    intro i vs H locs ls hi0 hin hv hP hD hS hl
    have hie := lq_d0 hin
    refine lv_iload hx hb dX9_opens_44 (lv_at hl 0 rfl) ?_
    refine lv_aload_n hx hb dX9_opens_46 rfl (lv_at hl 2 rfl) ?_
    refine va_get (D := (dC, dI)) (ci := 6) (v := .ref m0) (C := RX9) (T := TX9) (N := 35) hx hb hts i_X9 hown hK hP 0 rfl rfl 1 (by decide) k_1 (fun _ h9 => h9) rfl dX9_opens_47 ?_
    refine lv_iload_n hx hb dX9_opens_50 rfl (lv_at hl 3 rfl) ?_
    refine va_iald hx hb hK hP 1 0 rfl rfl (q_X9_opens_lp_1 ho1 ho2 hcn2 hr1 hr2 hlc1 hlc2 hk1 hk2 hj1 hj2 hi0 hie) dX9_opens_51 ?_
    refine lv_icmp_ge (tgt := 102) hx hb dX9_opens_52 (by decide) (fun c_2 => ?_) (fun c_2 => False.elim (q_X9_opens_lp_3 ho1 ho2 hcn2 hr1 hr2 hlc1 hlc2 hk1 hk2 hj1 hj2 hi0 hie c_2))
    refine lv_aload_n hx hb dX9_opens_102 rfl (lv_at hl 2 rfl) ?_
    refine lv_dup hx hb dX9_opens_103 rfl ?_
    refine va_get (D := (dC, dI)) (ci := 6) (v := .int op) (C := RX9) (T := TX9) (N := 35) hx hb hts i_X9 hown hK hP 0 rfl rfl 19 (by decide) k_2 (fun _ h9 => h9) rfl dX9_opens_104 ?_
    refine lv_iconst (v := 1) hx hb dX9_opens_107 (by decide) ?_
    refine lv_iadd hx hb dX9_opens_108 ?_
    refine va_put (D := (dC, dI)) (ci := 6) (v := .int (op + 1)) (ty := .int) (C := RX9) (T := TX9) (N := 35) hx hb hts i_X9 tyX9 tyX9_ok nmX9 hown hK hP hD hS 0 rfl rfl 19 (by decide) k_2 (fun _ h9 => h9) rfl (by decide +kernel) rfl rfl (Nat.le_of_ble_eq_true rfl) dX9_opens_109 (fun H locs hP hD hS => ?_)
    have hP : va_P (dC, dI) vwCl [(aX, .inr (6, [.int cn, .ref m0, .ref m1, .ref m2, .ref m3, .ref m4, .ref m5, .ref m6, .ref m7, .ref m8, .int mi, .int me, .ref m9, .int gn, .ref m10, .ref m11, .ref m12, .ref m13, .ref m14, .int (op + 1), .ref m15, .int tp, .int mb, .int mv, .int mr, .int mf, .int md, .int sp, .int mw, .int it, .int mx, .int fa, .int ro, .int pp, .int fm])), (m0, .inl (cI, 20, .inl lc)), (m1, .inl (cI, 300, .inl fv)), (m10, .inl (cI, 25, .inl fr)), (m11, .inl (cI, 25, .inl pl)), (m12, .inl (cI, 25, .inl ba)), (m13, .inl (cI, 25, .inl gc)), (m14, .inl (cI, 375, .inl vs)), (rw, .inl (cI, 61, .inl rwf))] H := hP
    have hD : va_D A [(aX, .inr (6, [.int cn, .ref m0, .ref m1, .ref m2, .ref m3, .ref m4, .ref m5, .ref m6, .ref m7, .ref m8, .int mi, .int me, .ref m9, .int gn, .ref m10, .ref m11, .ref m12, .ref m13, .ref m14, .int (op + 1), .ref m15, .int tp, .int mb, .int mv, .int mr, .int mf, .int md, .int sp, .int mw, .int it, .int mx, .int fa, .int ro, .int pp, .int fm])), (m0, .inl (cI, 20, .inl lc)), (m1, .inl (cI, 300, .inl fv)), (m10, .inl (cI, 25, .inl fr)), (m11, .inl (cI, 25, .inl pl)), (m12, .inl (cI, 25, .inl ba)), (m13, .inl (cI, 25, .inl gc)), (m14, .inl (cI, 375, .inl vs)), (rw, .inl (cI, 61, .inl rwf))] := hD
    refine lv_aload_n hx hb dX9_opens_112 rfl (lv_at hl 2 rfl) ?_
    refine lv_aload_n hx hb dX9_opens_113 rfl (lv_at hl 2 rfl) ?_
    refine va_get (D := (dC, dI)) (ci := 6) (v := .int (op + 1)) (C := RX9) (T := TX9) (N := 35) hx hb hts i_X9 hown hK hP 0 rfl rfl 19 (by decide) k_2 (fun _ h9 => h9) rfl dX9_opens_114 ?_
    refine lv_aload_n hx hb dX9_opens_117 rfl (lv_at hl 2 rfl) ?_
    refine va_get (D := (dC, dI)) (ci := 6) (v := .int mx) (C := RX9) (T := TX9) (N := 35) hx hb hts i_X9 hown hK hP 0 rfl rfl 30 (by decide) k_3 (fun _ h9 => h9) rfl dX9_opens_118 ?_
    refine lv_icmp_le (tgt := 131) hx hb dX9_opens_121 (by decide) (fun c_4 => ?_) (fun c_4 => ?_)
    · skip
      refine lv_aload_n hx hb dX9_opens_131 rfl (lv_at hl 2 rfl) ?_
      refine va_get (D := (dC, dI)) (ci := 6) (v := .int mx) (C := RX9) (T := TX9) (N := 35) hx hb hts i_X9 hown hK hP 0 rfl rfl 30 (by decide) k_3 (fun _ h9 => h9) rfl dX9_opens_132 ?_
      refine va_put (D := (dC, dI)) (ci := 6) (v := .int mx) (ty := .int) (C := RX9) (T := TX9) (N := 35) hx hb hts i_X9 tyX9 tyX9_ok nmX9 hown hK hP hD hS 0 rfl rfl 30 (by decide) k_3 (fun _ h9 => h9) rfl (by decide +kernel) rfl rfl (Nat.le_of_ble_eq_true rfl) dX9_opens_135 (fun H locs hP hD hS => ?_)
      have hP : va_P (dC, dI) vwCl [(aX, .inr (6, [.int cn, .ref m0, .ref m1, .ref m2, .ref m3, .ref m4, .ref m5, .ref m6, .ref m7, .ref m8, .int mi, .int me, .ref m9, .int gn, .ref m10, .ref m11, .ref m12, .ref m13, .ref m14, .int (op + 1), .ref m15, .int tp, .int mb, .int mv, .int mr, .int mf, .int md, .int sp, .int mw, .int it, .int mx, .int fa, .int ro, .int pp, .int fm])), (m0, .inl (cI, 20, .inl lc)), (m1, .inl (cI, 300, .inl fv)), (m10, .inl (cI, 25, .inl fr)), (m11, .inl (cI, 25, .inl pl)), (m12, .inl (cI, 25, .inl ba)), (m13, .inl (cI, 25, .inl gc)), (m14, .inl (cI, 375, .inl vs)), (rw, .inl (cI, 61, .inl rwf))] H := hP
      have hD : va_D A [(aX, .inr (6, [.int cn, .ref m0, .ref m1, .ref m2, .ref m3, .ref m4, .ref m5, .ref m6, .ref m7, .ref m8, .int mi, .int me, .ref m9, .int gn, .ref m10, .ref m11, .ref m12, .ref m13, .ref m14, .int (op + 1), .ref m15, .int tp, .int mb, .int mv, .int mr, .int mf, .int md, .int sp, .int mw, .int it, .int mx, .int fa, .int ro, .int pp, .int fm])), (m0, .inl (cI, 20, .inl lc)), (m1, .inl (cI, 300, .inl fv)), (m10, .inl (cI, 25, .inl fr)), (m11, .inl (cI, 25, .inl pl)), (m12, .inl (cI, 25, .inl ba)), (m13, .inl (cI, 25, .inl gc)), (m14, .inl (cI, 375, .inl vs)), (rw, .inl (cI, 61, .inl rwf))] := hD
      exact e_wv hx hb hr hlocks dX9_opens_138 hK hS ((op + 1), mx, fr, pl, gc, ba, vs) hP hD (by have q := hp _ (q_X9_opens_lp_5 ho1 ho2 hcn2 hr1 hr2 hlc1 hlc2 hk1 hk2 hj1 hj2 hi0 hie c_2 c_4); rw [op_hf (hlc1 _) hv hie]; exact q)
    · skip
      refine lv_aload_n hx hb dX9_opens_124 rfl (lv_at hl 2 rfl) ?_
      refine va_get (D := (dC, dI)) (ci := 6) (v := .int (op + 1)) (C := RX9) (T := TX9) (N := 35) hx hb hts i_X9 hown hK hP 0 rfl rfl 19 (by decide) k_2 (fun _ h9 => h9) rfl dX9_opens_125 ?_
      refine lv_goto (tgt := 135) hx hb dX9_opens_128 (by decide) ?_
      refine va_put (D := (dC, dI)) (ci := 6) (v := .int (op + 1)) (ty := .int) (C := RX9) (T := TX9) (N := 35) hx hb hts i_X9 tyX9 tyX9_ok nmX9 hown hK hP hD hS 0 rfl rfl 30 (by decide) k_3 (fun _ h9 => h9) rfl (by decide +kernel) rfl rfl (Nat.le_of_ble_eq_true rfl) dX9_opens_135 (fun H locs hP hD hS => ?_)
      have hP : va_P (dC, dI) vwCl [(aX, .inr (6, [.int cn, .ref m0, .ref m1, .ref m2, .ref m3, .ref m4, .ref m5, .ref m6, .ref m7, .ref m8, .int mi, .int me, .ref m9, .int gn, .ref m10, .ref m11, .ref m12, .ref m13, .ref m14, .int (op + 1), .ref m15, .int tp, .int mb, .int mv, .int mr, .int mf, .int md, .int sp, .int mw, .int it, .int (op + 1), .int fa, .int ro, .int pp, .int fm])), (m0, .inl (cI, 20, .inl lc)), (m1, .inl (cI, 300, .inl fv)), (m10, .inl (cI, 25, .inl fr)), (m11, .inl (cI, 25, .inl pl)), (m12, .inl (cI, 25, .inl ba)), (m13, .inl (cI, 25, .inl gc)), (m14, .inl (cI, 375, .inl vs)), (rw, .inl (cI, 61, .inl rwf))] H := hP
      have hD : va_D A [(aX, .inr (6, [.int cn, .ref m0, .ref m1, .ref m2, .ref m3, .ref m4, .ref m5, .ref m6, .ref m7, .ref m8, .int mi, .int me, .ref m9, .int gn, .ref m10, .ref m11, .ref m12, .ref m13, .ref m14, .int (op + 1), .ref m15, .int tp, .int mb, .int mv, .int mr, .int mf, .int md, .int sp, .int mw, .int it, .int (op + 1), .int fa, .int ro, .int pp, .int fm])), (m0, .inl (cI, 20, .inl lc)), (m1, .inl (cI, 300, .inl fv)), (m10, .inl (cI, 25, .inl fr)), (m11, .inl (cI, 25, .inl pl)), (m12, .inl (cI, 25, .inl ba)), (m13, .inl (cI, 25, .inl gc)), (m14, .inl (cI, 375, .inl vs)), (rw, .inl (cI, 61, .inl rwf))] := hD
      exact e_wv hx hb hr hlocks dX9_opens_138 hK hS ((op + 1), (op + 1), fr, pl, gc, ba, vs) hP hD (by have q := hp _ (q_X9_opens_lp_6 ho1 ho2 hcn2 hr1 hr2 hlc1 hlc2 hk1 hk2 hj1 hj2 hi0 hie c_2 c_4); rw [op_hf (hlc1 _) hv hie]; exact q)
  | succ n ih =>
    intro i vs H locs ls hi0 hin hv hP hD hS hl
    have hil := lq_d1 hin
    refine lv_iload hx hb dX9_opens_44 (lv_at hl 0 rfl) ?_
    refine lv_aload_n hx hb dX9_opens_46 rfl (lv_at hl 2 rfl) ?_
    refine va_get (D := (dC, dI)) (ci := 6) (v := .ref m0) (C := RX9) (T := TX9) (N := 35) hx hb hts i_X9 hown hK hP 0 rfl rfl 1 (by decide) k_1 (fun _ h9 => h9) rfl dX9_opens_47 ?_
    refine lv_iload_n hx hb dX9_opens_50 rfl (lv_at hl 3 rfl) ?_
    refine va_iald hx hb hK hP 1 0 rfl rfl (q_X9_opens_lp_7 ho1 ho2 hcn2 hr1 hr2 hlc1 hlc2 hk1 hk2 hj1 hj2 hi0 hil) dX9_opens_51 ?_
    refine lv_icmp_ge (tgt := 102) hx hb dX9_opens_52 (by decide) (fun c_8 => False.elim (q_X9_opens_lp_9 ho1 ho2 hcn2 hr1 hr2 hlc1 hlc2 hk1 hk2 hj1 hj2 hi0 hil c_8)) (fun c_8 => ?_)
    refine lv_aload_n hx hb dX9_opens_55 rfl (lv_at hl 2 rfl) ?_
    refine va_get (D := (dC, dI)) (ci := 6) (v := .ref m14) (C := RX9) (T := TX9) (N := 35) hx hb hts i_X9 hown hK hP 0 rfl rfl 18 (by decide) k_4 (fun _ h9 => h9) rfl dX9_opens_56 ?_
    refine lv_bipush (v := 15) hx hb dX9_opens_59 (by decide) ?_
    refine lv_iload hx hb dX9_opens_61 (lv_at hl 1 rfl) ?_
    refine lv_imul hx hb dX9_opens_63 ?_
    refine lv_iload hx hb dX9_opens_64 (lv_at hl 0 rfl) ?_
    refine lv_iadd hx hb dX9_opens_66 ?_
    refine lv_iload hx hb dX9_opens_67 (lv_at hl 0 rfl) ?_
    refine lv_iload_n hx hb dX9_opens_69 rfl (lv_at hl 4 rfl) ?_
    refine lv_icmp_ge (tgt := 83) hx hb dX9_opens_70 (by decide) (fun c_10 => ?_) (fun c_10 => ?_)
    · skip
      refine lv_aload_n hx hb dX9_opens_83 rfl (lv_at hl 2 rfl) ?_
      refine va_get (D := (dC, dI)) (ci := 6) (v := .ref m1) (C := RX9) (T := TX9) (N := 35) hx hb hts i_X9 hown hK hP 0 rfl rfl 2 (by decide) k_5 (fun _ h9 => h9) rfl dX9_opens_84 ?_
      refine lv_bipush (v := 15) hx hb dX9_opens_87 (by decide) ?_
      refine lv_iload_n hx hb dX9_opens_89 rfl (lv_at hl 3 rfl) ?_
      refine lv_imul hx hb dX9_opens_90 ?_
      refine lv_iload hx hb dX9_opens_91 (lv_at hl 0 rfl) ?_
      refine lv_iadd hx hb dX9_opens_93 ?_
      refine va_iald hx hb hK hP 2 0 rfl rfl (q_X9_opens_lp_11 ho1 ho2 hcn2 hr1 hr2 hlc1 hlc2 hk1 hk2 hj1 hj2 hi0 hil c_8 c_10) dX9_opens_94 ?_
      refine va_iast hx hb hK hP hD hS 7 0 rfl rfl (q_X9_opens_lp_12 ho1 ho2 hcn2 hr1 hr2 hlc1 hlc2 hk1 hk2 hj1 hj2 hi0 hil c_8 c_10) dX9_opens_95 (fun H locs hP hD hS => ?_)
      have hP : va_P (dC, dI) vwCl [(aX, .inr (6, [.int cn, .ref m0, .ref m1, .ref m2, .ref m3, .ref m4, .ref m5, .ref m6, .ref m7, .ref m8, .int mi, .int me, .ref m9, .int gn, .ref m10, .ref m11, .ref m12, .ref m13, .ref m14, .int op, .ref m15, .int tp, .int mb, .int mv, .int mr, .int mf, .int md, .int sp, .int mw, .int it, .int mx, .int fa, .int ro, .int pp, .int fm])), (m0, .inl (cI, 20, .inl lc)), (m1, .inl (cI, 300, .inl fv)), (m10, .inl (cI, 25, .inl fr)), (m11, .inl (cI, 25, .inl pl)), (m12, .inl (cI, 25, .inl ba)), (m13, .inl (cI, 25, .inl gc)), (m14, .inl (cI, 375, .inl (upd vs ((15 * op) + i).toNatClampNeg (fv ((15 * r) + i).toNatClampNeg)))), (rw, .inl (cI, 61, .inl rwf))] H := hP
      have hD : va_D A [(aX, .inr (6, [.int cn, .ref m0, .ref m1, .ref m2, .ref m3, .ref m4, .ref m5, .ref m6, .ref m7, .ref m8, .int mi, .int me, .ref m9, .int gn, .ref m10, .ref m11, .ref m12, .ref m13, .ref m14, .int op, .ref m15, .int tp, .int mb, .int mv, .int mr, .int mf, .int md, .int sp, .int mw, .int it, .int mx, .int fa, .int ro, .int pp, .int fm])), (m0, .inl (cI, 20, .inl lc)), (m1, .inl (cI, 300, .inl fv)), (m10, .inl (cI, 25, .inl fr)), (m11, .inl (cI, 25, .inl pl)), (m12, .inl (cI, 25, .inl ba)), (m13, .inl (cI, 25, .inl gc)), (m14, .inl (cI, 375, .inl (upd vs ((15 * op) + i).toNatClampNeg (fv ((15 * r) + i).toNatClampNeg)))), (rw, .inl (cI, 61, .inl rwf))] := hD
      obtain ⟨x_13, ex_13⟩ : ∃ y : Int32, y = i + 1 := ⟨_, rfl⟩
      refine lv_iinc (v := x_13) (lv' := [(6, .int x_13), (5, .int op), (0, .ref aX), (1, .int r), (2, .int k), (3, .ref rw), (4, .int k2)]) hx hb dX9_opens_96 hl (k := 0) rfl (by rw [ex_13]; rfl) (by decide) rfl (fun ls hl => ?_)
      refine lv_goto (tgt := 44) hx hb dX9_opens_99 (by decide) ?_
      exact ih x_13 (upd vs ((15 * op) + i).toNatClampNeg (fv ((15 * r) + i).toNatClampNeg)) _ _ _ (q_X9_opens_lp_15 ho1 ho2 hcn2 hr1 hr2 hlc1 hlc2 hk1 hk2 hj1 hj2 hi0 hil c_8 c_10 ex_13) (lq_in hi0 (Int32.le_trans (hlc2 _) (by decide)) hin ex_13) (op_hs hv ho1 ho2 hi0 (Int32.le_trans (Int32.le_of_lt hil) (hlc2 _)) ex_13 (q_X9_opens_lp_14 ho1 ho2 hcn2 hr1 hr2 hlc1 hlc2 hk1 hk2 hj1 hj2 hi0 hil c_8 c_10 ex_13)) hP hD hS hl
    · skip
      refine lv_aload_n hx hb dX9_opens_73 rfl (lv_at hl 5 rfl) ?_
      refine lv_iload hx hb dX9_opens_74 (lv_at hl 6 rfl) ?_
      refine lv_iload hx hb dX9_opens_76 (lv_at hl 0 rfl) ?_
      refine lv_iadd hx hb dX9_opens_78 ?_
      refine va_iald hx hb hK hP 8 0 rfl rfl (q_X9_opens_lp_16 ho1 ho2 hcn2 hr1 hr2 hlc1 hlc2 hk1 hk2 hj1 hj2 hi0 hil c_8 c_10) dX9_opens_79 ?_
      refine lv_goto (tgt := 95) hx hb dX9_opens_80 (by decide) ?_
      refine va_iast hx hb hK hP hD hS 7 0 rfl rfl (q_X9_opens_lp_17 ho1 ho2 hcn2 hr1 hr2 hlc1 hlc2 hk1 hk2 hj1 hj2 hi0 hil c_8 c_10) dX9_opens_95 (fun H locs hP hD hS => ?_)
      have hP : va_P (dC, dI) vwCl [(aX, .inr (6, [.int cn, .ref m0, .ref m1, .ref m2, .ref m3, .ref m4, .ref m5, .ref m6, .ref m7, .ref m8, .int mi, .int me, .ref m9, .int gn, .ref m10, .ref m11, .ref m12, .ref m13, .ref m14, .int op, .ref m15, .int tp, .int mb, .int mv, .int mr, .int mf, .int md, .int sp, .int mw, .int it, .int mx, .int fa, .int ro, .int pp, .int fm])), (m0, .inl (cI, 20, .inl lc)), (m1, .inl (cI, 300, .inl fv)), (m10, .inl (cI, 25, .inl fr)), (m11, .inl (cI, 25, .inl pl)), (m12, .inl (cI, 25, .inl ba)), (m13, .inl (cI, 25, .inl gc)), (m14, .inl (cI, 375, .inl (upd vs ((15 * op) + i).toNatClampNeg (rwf (k2 + i).toNatClampNeg)))), (rw, .inl (cI, 61, .inl rwf))] H := hP
      have hD : va_D A [(aX, .inr (6, [.int cn, .ref m0, .ref m1, .ref m2, .ref m3, .ref m4, .ref m5, .ref m6, .ref m7, .ref m8, .int mi, .int me, .ref m9, .int gn, .ref m10, .ref m11, .ref m12, .ref m13, .ref m14, .int op, .ref m15, .int tp, .int mb, .int mv, .int mr, .int mf, .int md, .int sp, .int mw, .int it, .int mx, .int fa, .int ro, .int pp, .int fm])), (m0, .inl (cI, 20, .inl lc)), (m1, .inl (cI, 300, .inl fv)), (m10, .inl (cI, 25, .inl fr)), (m11, .inl (cI, 25, .inl pl)), (m12, .inl (cI, 25, .inl ba)), (m13, .inl (cI, 25, .inl gc)), (m14, .inl (cI, 375, .inl (upd vs ((15 * op) + i).toNatClampNeg (rwf (k2 + i).toNatClampNeg)))), (rw, .inl (cI, 61, .inl rwf))] := hD
      obtain ⟨x_18, ex_18⟩ : ∃ y : Int32, y = i + 1 := ⟨_, rfl⟩
      refine lv_iinc (v := x_18) (lv' := [(6, .int x_18), (5, .int op), (0, .ref aX), (1, .int r), (2, .int k), (3, .ref rw), (4, .int k2)]) hx hb dX9_opens_96 hl (k := 0) rfl (by rw [ex_18]; rfl) (by decide) rfl (fun ls hl => ?_)
      refine lv_goto (tgt := 44) hx hb dX9_opens_99 (by decide) ?_
      exact ih x_18 (upd vs ((15 * op) + i).toNatClampNeg (rwf (k2 + i).toNatClampNeg)) _ _ _ (q_X9_opens_lp_20 ho1 ho2 hcn2 hr1 hr2 hlc1 hlc2 hk1 hk2 hj1 hj2 hi0 hil c_8 c_10 ex_18) (lq_in hi0 (Int32.le_trans (hlc2 _) (by decide)) hin ex_18) (op_hs hv ho1 ho2 hi0 (Int32.le_trans (Int32.le_of_lt hil) (hlc2 _)) ex_18 (q_X9_opens_lp_19 ho1 ho2 hcn2 hr1 hr2 hlc1 hlc2 hk1 hk2 hj1 hj2 hi0 hil c_8 c_10 ex_18)) hP hD hS hl
theorem q_X9_opens_1 {lc : Nat → Int32} {cn : Int32} {op : Int32} {r : Int32} {k : Int32} {k2 : Int32} (ho1 : 0 ≤ op) (ho2 : op ≤ 24) (hcn2 : cn ≤ 20) (hr1 : 0 ≤ r) (hr2 : r < cn) (hlc1 : ∀ j, 0 ≤ lc j) (hlc2 : ∀ j, lc j ≤ 15) (hk1 : 0 ≤ k) (hk2 : k ≤ 15) (hj1 : 0 ≤ k2) (hj2 : k2 ≤ 61 - k) : vp_in op 25 := by
  exact in_of (c := 25) (by decide) (by grind) (by grind)
theorem q_X9_opens_2 {lc : Nat → Int32} {cn : Int32} {op : Int32} {r : Int32} {k : Int32} {k2 : Int32} (ho1 : 0 ≤ op) (ho2 : op ≤ 24) (hcn2 : cn ≤ 20) (hr1 : 0 ≤ r) (hr2 : r < cn) (hlc1 : ∀ j, 0 ≤ lc j) (hlc2 : ∀ j, lc j ≤ 15) (hk1 : 0 ≤ k) (hk2 : k ≤ 15) (hj1 : 0 ≤ k2) (hj2 : k2 ≤ 61 - k) : vp_in op 25 := by
  exact in_of (c := 25) (by decide) (by grind) (by grind)
theorem q_X9_opens_3 {lc : Nat → Int32} {cn : Int32} {op : Int32} {r : Int32} {k : Int32} {k2 : Int32} (ho1 : 0 ≤ op) (ho2 : op ≤ 24) (hcn2 : cn ≤ 20) (hr1 : 0 ≤ r) (hr2 : r < cn) (hlc1 : ∀ j, 0 ≤ lc j) (hlc2 : ∀ j, lc j ≤ 15) (hk1 : 0 ≤ k) (hk2 : k ≤ 15) (hj1 : 0 ≤ k2) (hj2 : k2 ≤ 61 - k) : vp_in op 25 := by
  exact in_of (c := 25) (by decide) (by grind) (by grind)
theorem q_X9_opens_4 {lc : Nat → Int32} {cn : Int32} {op : Int32} {r : Int32} {k : Int32} {k2 : Int32} (ho1 : 0 ≤ op) (ho2 : op ≤ 24) (hcn2 : cn ≤ 20) (hr1 : 0 ≤ r) (hr2 : r < cn) (hlc1 : ∀ j, 0 ≤ lc j) (hlc2 : ∀ j, lc j ≤ 15) (hk1 : 0 ≤ k) (hk2 : k ≤ 15) (hj1 : 0 ≤ k2) (hj2 : k2 ≤ 61 - k) : vp_in op 25 := by
  exact in_of (c := 25) (by decide) (by grind) (by grind)
set_option maxHeartbeats 4000000 in
set_option maxRecDepth 100000 in
theorem c_X9_opens (l : Launch) (dC : Nat → ClassId) (dI : Nat → Nat → Nat) (cI : ClassId) (sz : Nat) (aX : Nat) (rw : Nat) (m0 : Nat) (m1 : Nat) (m2 : Nat) (m3 : Nat) (m4 : Nat) (m5 : Nat) (m6 : Nat) (m7 : Nat) (m8 : Nat) (m9 : Nat) (m10 : Nat) (m11 : Nat) (m12 : Nat) (m13 : Nat) (m14 : Nat) (m15 : Nat) (lc : Nat → Int32) (fv : Nat → Int32) (fr : Nat → Int32) (pl : Nat → Int32) (gc : Nat → Int32) (ba : Nat → Int32) (vs : Nat → Int32) (rwf : Nat → Int32) (cn : Int32) (op : Int32) (mx : Int32) (tp : Int32) (fa : Int32) (ro : Int32) (pp : Int32) (fm : Int32) (sp : Int32) (it : Int32) (gn : Int32) (mi : Int32) (me : Int32) (mb : Int32) (mv : Int32) (mr : Int32) (mf : Int32) (md : Int32) (mw : Int32) (r : Int32) (k : Int32) (k2 : Int32) (ho1 : 0 ≤ op) (ho2 : op ≤ 24) (hcn2 : cn ≤ 20) (hr1 : 0 ≤ r) (hr2 : r < cn) (hlc1 : ∀ j, 0 ≤ lc j) (hlc2 : ∀ j, lc j ≤ 15) (hk1 : 0 ≤ k) (hk2 : k ≤ 15) (hj1 : 0 ≤ k2) (hj2 : k2 ≤ 61 - k) : mWv l yX9_opens wsX9_opens ({ frames := 0, cells := 0, slots := 0, locals := 0 }) [.ref aX, .int r, .int k, .ref rw, .int k2] (dC, dI) [(cI, .int)] [(aX, .inr (6, [.int cn, .ref m0, .ref m1, .ref m2, .ref m3, .ref m4, .ref m5, .ref m6, .ref m7, .ref m8, .int mi, .int me, .ref m9, .int gn, .ref m10, .ref m11, .ref m12, .ref m13, .ref m14, .int op, .ref m15, .int tp, .int mb, .int mv, .int mr, .int mf, .int md, .int sp, .int mw, .int it, .int mx, .int fa, .int ro, .int pp, .int fm])), (m0, .inl (cI, 20, .inl lc)), (m1, .inl (cI, 300, .inl fv)), (m10, .inl (cI, 25, .inl fr)), (m11, .inl (cI, 25, .inl pl)), (m12, .inl (cI, 25, .inl ba)), (m13, .inl (cI, 25, .inl gc)), (m14, .inl (cI, 375, .inl vs)), (rw, .inl (cI, 61, .inl rwf))] sz (fun u : (Int32) × (Int32) × (Nat → Int32) × (Nat → Int32) × (Nat → Int32) × (Nat → Int32) × (Nat → Int32) => (u.1 = op + 1) ∧ (u.2.1 = if mx < op + 1 then op + 1 else mx) ∧ (u.2.2.1 = upd fr op.toNatClampNeg r) ∧ (u.2.2.2.1 = upd pl op.toNatClampNeg 0) ∧ (u.2.2.2.2.1 = upd gc op.toNatClampNeg k) ∧ (u.2.2.2.2.2.1 = upd ba op.toNatClampNeg tp) ∧ (u.2.2.2.2.2.2 = f_vals r k k2 op lc fv vs rwf)) (fun u : (Int32) × (Int32) × (Nat → Int32) × (Nat → Int32) × (Nat → Int32) × (Nat → Int32) × (Nat → Int32) => [(aX, .inr (6, [.int cn, .ref m0, .ref m1, .ref m2, .ref m3, .ref m4, .ref m5, .ref m6, .ref m7, .ref m8, .int mi, .int me, .ref m9, .int gn, .ref m10, .ref m11, .ref m12, .ref m13, .ref m14, .int u.1, .ref m15, .int tp, .int mb, .int mv, .int mr, .int mf, .int md, .int sp, .int mw, .int it, .int u.2.1, .int fa, .int ro, .int pp, .int fm])), (m0, .inl (cI, 20, .inl lc)), (m1, .inl (cI, 300, .inl fv)), (m10, .inl (cI, 25, .inl u.2.2.1)), (m11, .inl (cI, 25, .inl u.2.2.2.1)), (m12, .inl (cI, 25, .inl u.2.2.2.2.2.1)), (m13, .inl (cI, 25, .inl u.2.2.2.2.1)), (m14, .inl (cI, 375, .inl u.2.2.2.2.2.2)), (rw, .inl (cI, 61, .inl rwf))]) := by
  refine o_wv (cc := cX9_opens) (maxL := 7) (ret := none) (by decide) rfl (Nat.le_of_ble_eq_true rfl) ?_
  intro p e s m below meth c ls A hx hb hr hml hts hown hlocks hP hK hD hS hA hl
  have hown : s.vm.findClass RX9 = some m.cls := hown
  have hl : lv_has ls 7 [(0, .ref aX), (1, .int r), (2, .int k), (3, .ref rw), (4, .int k2)] := hl
  have k_1 := hts (.fieldLink RX9 81 "ZRoutinesModel" "frames" "I") (List.mem_of_getElem? (i := 1) rfl)
  have k_2 := hts (.fieldLink RX9 47 "ZRoutinesModel" "of" "[I") (List.mem_of_getElem? (i := 2) rfl)
  have k_3 := hts (.fieldLink RX9 50 "ZRoutinesModel" "next" "[I") (List.mem_of_getElem? (i := 3) rfl)
  have k_4 := hts (.fieldLink RX9 53 "ZRoutinesModel" "begins" "[I") (List.mem_of_getElem? (i := 4) rfl)
  have k_5 := hts (.fieldLink RX9 84 "ZRoutinesModel" "top" "I") (List.mem_of_getElem? (i := 5) rfl)
  have k_6 := hts (.fieldLink RX9 56 "ZRoutinesModel" "gave" "[I") (List.mem_of_getElem? (i := 6) rfl)
  have i_X9 : ∀ w ∈ u_ws RX9 TX9 35, w ∈ wsX9_opens := fun _ h => List.mem_cons_of_mem _ (List.mem_append_right _ h)
  refine lv_aload_n hx hb dX9_opens_0 rfl (lv_at hl 0 rfl) ?_
  refine va_get (D := (dC, dI)) (ci := 6) (v := .int op) (C := RX9) (T := TX9) (N := 35) hx hb hts i_X9 hown hK hP 0 rfl rfl 19 (by decide) k_1 (fun _ h9 => h9) rfl dX9_opens_1 ?_
  refine lv_istore (lv' := [(5, .int op), (0, .ref aX), (1, .int r), (2, .int k), (3, .ref rw), (4, .int k2)]) hx hb dX9_opens_4 hl (by decide) rfl (fun ls hl => ?_)
  refine lv_aload_n hx hb dX9_opens_6 rfl (lv_at hl 1 rfl) ?_
  refine va_get (D := (dC, dI)) (ci := 6) (v := .ref m10) (C := RX9) (T := TX9) (N := 35) hx hb hts i_X9 hown hK hP 0 rfl rfl 14 (by decide) k_2 (fun _ h9 => h9) rfl dX9_opens_7 ?_
  refine lv_iload hx hb dX9_opens_10 (lv_at hl 0 rfl) ?_
  refine lv_iload_n hx hb dX9_opens_12 rfl (lv_at hl 2 rfl) ?_
  refine va_iast hx hb hK hP hD hS 3 0 rfl rfl (q_X9_opens_1 ho1 ho2 hcn2 hr1 hr2 hlc1 hlc2 hk1 hk2 hj1 hj2) dX9_opens_13 (fun H locs hP hD hS => ?_)
  have hP : va_P (dC, dI) vwCl [(aX, .inr (6, [.int cn, .ref m0, .ref m1, .ref m2, .ref m3, .ref m4, .ref m5, .ref m6, .ref m7, .ref m8, .int mi, .int me, .ref m9, .int gn, .ref m10, .ref m11, .ref m12, .ref m13, .ref m14, .int op, .ref m15, .int tp, .int mb, .int mv, .int mr, .int mf, .int md, .int sp, .int mw, .int it, .int mx, .int fa, .int ro, .int pp, .int fm])), (m0, .inl (cI, 20, .inl lc)), (m1, .inl (cI, 300, .inl fv)), (m10, .inl (cI, 25, .inl (upd fr op.toNatClampNeg r))), (m11, .inl (cI, 25, .inl pl)), (m12, .inl (cI, 25, .inl ba)), (m13, .inl (cI, 25, .inl gc)), (m14, .inl (cI, 375, .inl vs)), (rw, .inl (cI, 61, .inl rwf))] H := hP
  have hD : va_D A [(aX, .inr (6, [.int cn, .ref m0, .ref m1, .ref m2, .ref m3, .ref m4, .ref m5, .ref m6, .ref m7, .ref m8, .int mi, .int me, .ref m9, .int gn, .ref m10, .ref m11, .ref m12, .ref m13, .ref m14, .int op, .ref m15, .int tp, .int mb, .int mv, .int mr, .int mf, .int md, .int sp, .int mw, .int it, .int mx, .int fa, .int ro, .int pp, .int fm])), (m0, .inl (cI, 20, .inl lc)), (m1, .inl (cI, 300, .inl fv)), (m10, .inl (cI, 25, .inl (upd fr op.toNatClampNeg r))), (m11, .inl (cI, 25, .inl pl)), (m12, .inl (cI, 25, .inl ba)), (m13, .inl (cI, 25, .inl gc)), (m14, .inl (cI, 375, .inl vs)), (rw, .inl (cI, 61, .inl rwf))] := hD
  refine lv_aload_n hx hb dX9_opens_14 rfl (lv_at hl 1 rfl) ?_
  refine va_get (D := (dC, dI)) (ci := 6) (v := .ref m11) (C := RX9) (T := TX9) (N := 35) hx hb hts i_X9 hown hK hP 0 rfl rfl 15 (by decide) k_3 (fun _ h9 => h9) rfl dX9_opens_15 ?_
  refine lv_iload hx hb dX9_opens_18 (lv_at hl 0 rfl) ?_
  refine lv_iconst (v := 0) hx hb dX9_opens_20 (by decide) ?_
  refine va_iast hx hb hK hP hD hS 4 0 rfl rfl (q_X9_opens_2 ho1 ho2 hcn2 hr1 hr2 hlc1 hlc2 hk1 hk2 hj1 hj2) dX9_opens_21 (fun H locs hP hD hS => ?_)
  have hP : va_P (dC, dI) vwCl [(aX, .inr (6, [.int cn, .ref m0, .ref m1, .ref m2, .ref m3, .ref m4, .ref m5, .ref m6, .ref m7, .ref m8, .int mi, .int me, .ref m9, .int gn, .ref m10, .ref m11, .ref m12, .ref m13, .ref m14, .int op, .ref m15, .int tp, .int mb, .int mv, .int mr, .int mf, .int md, .int sp, .int mw, .int it, .int mx, .int fa, .int ro, .int pp, .int fm])), (m0, .inl (cI, 20, .inl lc)), (m1, .inl (cI, 300, .inl fv)), (m10, .inl (cI, 25, .inl (upd fr op.toNatClampNeg r))), (m11, .inl (cI, 25, .inl (upd pl op.toNatClampNeg 0))), (m12, .inl (cI, 25, .inl ba)), (m13, .inl (cI, 25, .inl gc)), (m14, .inl (cI, 375, .inl vs)), (rw, .inl (cI, 61, .inl rwf))] H := hP
  have hD : va_D A [(aX, .inr (6, [.int cn, .ref m0, .ref m1, .ref m2, .ref m3, .ref m4, .ref m5, .ref m6, .ref m7, .ref m8, .int mi, .int me, .ref m9, .int gn, .ref m10, .ref m11, .ref m12, .ref m13, .ref m14, .int op, .ref m15, .int tp, .int mb, .int mv, .int mr, .int mf, .int md, .int sp, .int mw, .int it, .int mx, .int fa, .int ro, .int pp, .int fm])), (m0, .inl (cI, 20, .inl lc)), (m1, .inl (cI, 300, .inl fv)), (m10, .inl (cI, 25, .inl (upd fr op.toNatClampNeg r))), (m11, .inl (cI, 25, .inl (upd pl op.toNatClampNeg 0))), (m12, .inl (cI, 25, .inl ba)), (m13, .inl (cI, 25, .inl gc)), (m14, .inl (cI, 375, .inl vs)), (rw, .inl (cI, 61, .inl rwf))] := hD
  refine lv_aload_n hx hb dX9_opens_22 rfl (lv_at hl 1 rfl) ?_
  refine va_get (D := (dC, dI)) (ci := 6) (v := .ref m12) (C := RX9) (T := TX9) (N := 35) hx hb hts i_X9 hown hK hP 0 rfl rfl 16 (by decide) k_4 (fun _ h9 => h9) rfl dX9_opens_23 ?_
  refine lv_iload hx hb dX9_opens_26 (lv_at hl 0 rfl) ?_
  refine lv_aload_n hx hb dX9_opens_28 rfl (lv_at hl 1 rfl) ?_
  refine va_get (D := (dC, dI)) (ci := 6) (v := .int tp) (C := RX9) (T := TX9) (N := 35) hx hb hts i_X9 hown hK hP 0 rfl rfl 21 (by decide) k_5 (fun _ h9 => h9) rfl dX9_opens_29 ?_
  refine va_iast hx hb hK hP hD hS 5 0 rfl rfl (q_X9_opens_3 ho1 ho2 hcn2 hr1 hr2 hlc1 hlc2 hk1 hk2 hj1 hj2) dX9_opens_32 (fun H locs hP hD hS => ?_)
  have hP : va_P (dC, dI) vwCl [(aX, .inr (6, [.int cn, .ref m0, .ref m1, .ref m2, .ref m3, .ref m4, .ref m5, .ref m6, .ref m7, .ref m8, .int mi, .int me, .ref m9, .int gn, .ref m10, .ref m11, .ref m12, .ref m13, .ref m14, .int op, .ref m15, .int tp, .int mb, .int mv, .int mr, .int mf, .int md, .int sp, .int mw, .int it, .int mx, .int fa, .int ro, .int pp, .int fm])), (m0, .inl (cI, 20, .inl lc)), (m1, .inl (cI, 300, .inl fv)), (m10, .inl (cI, 25, .inl (upd fr op.toNatClampNeg r))), (m11, .inl (cI, 25, .inl (upd pl op.toNatClampNeg 0))), (m12, .inl (cI, 25, .inl (upd ba op.toNatClampNeg tp))), (m13, .inl (cI, 25, .inl gc)), (m14, .inl (cI, 375, .inl vs)), (rw, .inl (cI, 61, .inl rwf))] H := hP
  have hD : va_D A [(aX, .inr (6, [.int cn, .ref m0, .ref m1, .ref m2, .ref m3, .ref m4, .ref m5, .ref m6, .ref m7, .ref m8, .int mi, .int me, .ref m9, .int gn, .ref m10, .ref m11, .ref m12, .ref m13, .ref m14, .int op, .ref m15, .int tp, .int mb, .int mv, .int mr, .int mf, .int md, .int sp, .int mw, .int it, .int mx, .int fa, .int ro, .int pp, .int fm])), (m0, .inl (cI, 20, .inl lc)), (m1, .inl (cI, 300, .inl fv)), (m10, .inl (cI, 25, .inl (upd fr op.toNatClampNeg r))), (m11, .inl (cI, 25, .inl (upd pl op.toNatClampNeg 0))), (m12, .inl (cI, 25, .inl (upd ba op.toNatClampNeg tp))), (m13, .inl (cI, 25, .inl gc)), (m14, .inl (cI, 375, .inl vs)), (rw, .inl (cI, 61, .inl rwf))] := hD
  refine lv_aload_n hx hb dX9_opens_33 rfl (lv_at hl 1 rfl) ?_
  refine va_get (D := (dC, dI)) (ci := 6) (v := .ref m13) (C := RX9) (T := TX9) (N := 35) hx hb hts i_X9 hown hK hP 0 rfl rfl 17 (by decide) k_6 (fun _ h9 => h9) rfl dX9_opens_34 ?_
  refine lv_iload hx hb dX9_opens_37 (lv_at hl 0 rfl) ?_
  refine lv_iload_n hx hb dX9_opens_39 rfl (lv_at hl 3 rfl) ?_
  refine va_iast hx hb hK hP hD hS 6 0 rfl rfl (q_X9_opens_4 ho1 ho2 hcn2 hr1 hr2 hlc1 hlc2 hk1 hk2 hj1 hj2) dX9_opens_40 (fun H locs hP hD hS => ?_)
  have hP : va_P (dC, dI) vwCl [(aX, .inr (6, [.int cn, .ref m0, .ref m1, .ref m2, .ref m3, .ref m4, .ref m5, .ref m6, .ref m7, .ref m8, .int mi, .int me, .ref m9, .int gn, .ref m10, .ref m11, .ref m12, .ref m13, .ref m14, .int op, .ref m15, .int tp, .int mb, .int mv, .int mr, .int mf, .int md, .int sp, .int mw, .int it, .int mx, .int fa, .int ro, .int pp, .int fm])), (m0, .inl (cI, 20, .inl lc)), (m1, .inl (cI, 300, .inl fv)), (m10, .inl (cI, 25, .inl (upd fr op.toNatClampNeg r))), (m11, .inl (cI, 25, .inl (upd pl op.toNatClampNeg 0))), (m12, .inl (cI, 25, .inl (upd ba op.toNatClampNeg tp))), (m13, .inl (cI, 25, .inl (upd gc op.toNatClampNeg k))), (m14, .inl (cI, 375, .inl vs)), (rw, .inl (cI, 61, .inl rwf))] H := hP
  have hD : va_D A [(aX, .inr (6, [.int cn, .ref m0, .ref m1, .ref m2, .ref m3, .ref m4, .ref m5, .ref m6, .ref m7, .ref m8, .int mi, .int me, .ref m9, .int gn, .ref m10, .ref m11, .ref m12, .ref m13, .ref m14, .int op, .ref m15, .int tp, .int mb, .int mv, .int mr, .int mf, .int md, .int sp, .int mw, .int it, .int mx, .int fa, .int ro, .int pp, .int fm])), (m0, .inl (cI, 20, .inl lc)), (m1, .inl (cI, 300, .inl fv)), (m10, .inl (cI, 25, .inl (upd fr op.toNatClampNeg r))), (m11, .inl (cI, 25, .inl (upd pl op.toNatClampNeg 0))), (m12, .inl (cI, 25, .inl (upd ba op.toNatClampNeg tp))), (m13, .inl (cI, 25, .inl (upd gc op.toNatClampNeg k))), (m14, .inl (cI, 375, .inl vs)), (rw, .inl (cI, 61, .inl rwf))] := hD
  refine lv_iconst (v := 0) hx hb dX9_opens_41 (by decide) ?_
  refine lv_istore (lv' := [(6, .int 0), (5, .int op), (0, .ref aX), (1, .int r), (2, .int k), (3, .ref rw), (4, .int k2)]) hx hb dX9_opens_42 hl (by decide) rfl (fun ls hl => ?_)
  exact lp_X9_opens l dC dI cI aX rw m0 m1 m2 m3 m4 m5 m6 m7 m8 m9 m10 m11 m12 m13 m14 m15 lc fv rwf cn op mx tp fa ro pp fm sp it gn mi me mb mv mr mf md mw r k k2 vs ho1 ho2 hcn2 hr1 hr2 hlc1 hlc2 hk1 hk2 hj1 hj2 hx hb hr hml hts hown hlocks hK hA (upd fr op.toNatClampNeg r) (upd pl op.toNatClampNeg 0) (upd gc op.toNatClampNeg k) (upd ba op.toNatClampNeg tp) (fun _ h => ⟨rfl, h, rfl, rfl, rfl, rfl, rfl⟩) (lc r.toNatClampNeg).toNatClampNeg 0 vs _ _ _ (by decide) (op_n0 (hlc1 _)) op_h0 hP hD hS hl
