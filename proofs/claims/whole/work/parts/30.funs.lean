/-! what each operation does, as functions of the cells' contents: both sides are held against these -/
theorem sb10 (x : Int32) : x - 1 - 0 = x - 1 := by grind
theorem sb11 (x : Int32) : x - 1 - 1 = x - 2 := by grind
theorem sb21 (x : Int32) : x - 2 + 1 = x - 1 := by grind
theorem sb1p (x : Int32) : x - 1 + 1 = x := by grind
theorem sb0 (x : Int32) : x - 0 = x := by grind
theorem upd_upd {f : Nat → Int32} {k : Nat} {x y : Int32} : upd (upd f k x) k y = upd f k y := by
  funext j; simp only [upd]; by_cases h : j = k <;> simp [h]
def f_push (k : Int32) (st : Nat → Int32) (tp : Int32) : Int32 × (Nat → Int32) × Int32 := if tp = 60 then (8, st, tp) else (0, upd st tp.toNatClampNeg (sx k), tp + 1)
def f_load (k op tp : Int32) (fl vs st : Nat → Int32) : Int32 × (Nat → Int32) × Int32 := if 0 ≤ k ∧ k < fl (op - 1).toNatClampNeg then f_push (vs (15 * (op - 1) + k).toNatClampNeg) st tp else (2, st, tp)
def f_store (k op tp : Int32) (fl ba vs st : Nat → Int32) : Int32 × (Nat → Int32) × Int32 := if tp - ba (op - 1).toNatClampNeg < 1 then (1, vs, tp) else if 0 ≤ k ∧ k < fl (op - 1).toNatClampNeg then (0, upd vs (15 * (op - 1) + k).toNatClampNeg (st (tp - 1).toNatClampNeg), tp - 1) else (2, vs, tp)
def f_ar (o y x : Int32) : Int32 := if o = 3 then y + x else if o = 4 then y - x else if o = 5 then y * x else if o = 6 then y / x else if o = 7 then y - y / x * x else if y < x then 1 else 0
def f_reckon (o op tp : Int32) (ba st : Nat → Int32) : Int32 × (Nat → Int32) × Int32 := if tp - ba (op - 1).toNatClampNeg < 2 then (1, st, tp) else if (o = 6 ∨ o = 7) ∧ st (tp - 1).toNatClampNeg = 0 then (3, st, tp) else (0, upd st (tp - 2).toNatClampNeg (sx (f_ar o (st (tp - 2).toNatClampNeg) (st (tp - 1).toNatClampNeg))), tp - 1)
def f_jz (k op tp : Int32) (ba pl st : Nat → Int32) : Int32 × (Nat → Int32) × Int32 := if tp - ba (op - 1).toNatClampNeg < 1 then (1, pl, tp) else (0, if st (tp - 1).toNatClampNeg = 0 then upd pl (op - 1).toNatClampNeg k else pl, tp - 1)
def f_vals (r k k2 op : Int32) (lc fv vs rwf : Nat → Int32) : Nat → Int32 := va_cpy rwf (va_cpy fv vs (r * 15).toNatClampNeg (15 * op).toNatClampNeg (lc r.toNatClampNeg).toNatClampNeg) k2.toNatClampNeg (15 * op).toNatClampNeg (if lc r.toNatClampNeg < k then lc r.toNatClampNeg else k).toNatClampNeg
def f_call (r k cn op mx tp : Int32) (lc fv fr pl gc fl ba vs st : Nat → Int32) : Int32 × Int32 × Int32 × Int32 × (Nat → Int32) × (Nat → Int32) × (Nat → Int32) × (Nat → Int32) × (Nat → Int32) × (Nat → Int32) :=
  if k < 0 ∨ 15 < k ∨ tp - ba (op - 1).toNatClampNeg < k then (1, op, mx, tp, fr, pl, gc, fl, ba, vs)
  else if ¬ (0 ≤ r ∧ r < cn) then (6, op, mx, tp, fr, pl, gc, fl, ba, vs)
  else if op = 25 then (4, op, mx, tp, fr, pl, gc, fl, ba, vs)
  else if tp - k = 60 then (8, op, mx, tp, fr, pl, gc, fl, ba, vs)
  else (0, op + 1, if mx < op + 1 then op + 1 else mx, tp - k, upd fr op.toNatClampNeg r, upd pl op.toNatClampNeg 0, upd gc op.toNatClampNeg k, upd fl op.toNatClampNeg (lc r.toNatClampNeg), upd ba op.toNatClampNeg (tp - k), f_vals r k (tp - k) op lc fv vs st)
def f_close (k w iF en rs : Int32) (ba st : Nat → Int32) : Int32 × Int32 × Int32 × Int32 × Int32 × (Nat → Int32) :=
  if k = 1 then (k - 1, ba (k - 1).toNatClampNeg, iF, 1, w, st)
  else if k = iF then (k - 1, ba (k - 1).toNatClampNeg, 0, if w = 0 then en else 2, if w = 0 then rs else w, st)
  else (k - 1, ba (k - 1).toNatClampNeg + 1, iF, en, rs, upd st (ba (k - 1).toNatClampNeg).toNatClampNeg w)
def f_ret (op tp iF en rs : Int32) (ba st : Nat → Int32) : Int32 × Int32 × Int32 × Int32 × Int32 × Int32 × (Nat → Int32) := if tp - ba (op - 1).toNatClampNeg < 1 then (1, op, tp, iF, en, rs, st) else (0, f_close op (st (tp - 1).toNatClampNeg) iF en rs ba st)
def f_thr (op tp iF en rs : Int32) (ba st : Nat → Int32) : Int32 × Int32 × Int32 × Int32 × Int32 × Int32 × (Nat → Int32) :=
  if tp - ba (op - 1).toNatClampNeg < 2 then (1, op, tp, iF, en, rs, st)
  else if st (tp - 2).toNatClampNeg < 1 ∨ st (tp - 2).toNatClampNeg < iF ∨ op < st (tp - 2).toNatClampNeg then (5, op, tp, iF, en, rs, st)
  else (0, f_close (st (tp - 2).toNatClampNeg) (st (tp - 1).toNatClampNeg) iF en rs ba st)
def f_tou (r op tp : Int32) (ba st ur uc un : Nat → Int32) : Int32 × (Nat → Int32) × (Nat → Int32) × (Nat → Int32) :=
  if tp - ba (op - 1).toNatClampNeg < 1 then (1, st, uc, un)
  else if ¬ (0 ≤ r ∧ r < 4) then (10, st, uc, un)
  else if uc r.toNatClampNeg < ur r.toNatClampNeg then (0, upd st (tp - 1).toNatClampNeg (sx 1), upd uc r.toNatClampNeg (uc r.toNatClampNeg + 1), upd un (r * 10 + uc r.toNatClampNeg).toNatClampNeg (st (tp - 1).toNatClampNeg))
  else (0, upd st (tp - 1).toNatClampNeg (sx 0), uc, un)
def f_fru (r tp : Int32) (st uc un : Nat → Int32) : Int32 × (Nat → Int32) × Int32 × (Nat → Int32) :=
  if ¬ (0 ≤ r ∧ r < 4) then (10, st, tp, uc)
  else if ¬ 0 < uc r.toNatClampNeg then (1, st, tp, uc)
  else if tp = 60 then (8, st, tp, uc)
  else (0, upd st tp.toNatClampNeg (sx (un (r * 10 + (uc r.toNatClampNeg - 1)).toNatClampNeg)), tp + 1, upd uc r.toNatClampNeg (uc r.toNatClampNeg - 1))
def f_dup (op tp : Int32) (ba st : Nat → Int32) : Int32 × (Nat → Int32) × Int32 := if tp - ba (op - 1).toNatClampNeg < 1 then (1, st, tp) else f_push (st (tp - 1).toNatClampNeg) st tp
def f_drop (op tp : Int32) (ba : Nat → Int32) : Int32 × Int32 := if tp - ba (op - 1).toNatClampNeg < 1 then (1, tp) else (0, tp - 1)
theorem sub_nn {t b k : Int32} (h1 : 0 ≤ b) (h2 : b ≤ t) (h3 : t ≤ 60) (h4 : ¬ k < 0) (h5 : k ≤ t - b) : 0 ≤ t - k := by
  have h7 : t - b ≤ t := by grind
  have h8 : k ≤ t := Int32.le_trans h5 h7
  clear h5 h7
  grind
