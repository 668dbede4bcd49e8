theorem inv_turn {fu : Int32} {ir : Int32} {ev : Int32} {cn : Int32} {op : Int32} {mx : Int32} {tp : Int32} {iF : Int32} {cs : Int32} {sp : Int32} {it : Int32} {en : Int32} {rs : Int32} {fa : Int32} {ro : Int32} {pp : Int32} {fm : Int32} {pl : Nat → Int32} {fr : Nat → Int32} {gc : Nat → Int32} {fl : Nat → Int32} {ba : Nat → Int32} {vs : Nat → Int32} {st : Nat → Int32} {uc : Nat → Int32} {un : Nat → Int32} {lc : Nat → Int32} {fv : Nat → Int32} {ur : Nat → Int32} {ln : Nat → Int32} {po : Nat → Int32} {pa : Nat → Int32} {pb : Nat → Int32} {pl' : Nat → Int32} {fr' : Nat → Int32} {gc' : Nat → Int32} {fl' : Nat → Int32} {ba' : Nat → Int32} {vs' : Nat → Int32} {st' : Nat → Int32} {uc' : Nat → Int32} {un' : Nat → Int32} {op' : Int32} {mx' : Int32} {tp' : Int32} {iF' : Int32} {cs' : Int32} {sp' : Int32} {it' : Int32} {en' : Int32} {rs' : Int32} {fa' : Int32} {ro' : Int32} {pp' : Int32} {fm' : Int32} (hI : Inv cn op tp iF lc fr fl ba st uc ur) (hlc1 : ∀ j, 0 ≤ lc j) (hlc2 : ∀ j, lc j ≤ 15) (hir1 : 1 ≤ ev → 0 ≤ ir) (hir2 : 1 ≤ ev → ir < cn) (h : (pl', fr', gc', fl', ba', vs', st', uc', un', op', mx', tp', iF', cs', sp', it', en', rs', fa', ro', pp', fm') = f_turn fu ir ev cn op mx tp iF cs sp it en rs fa ro pp fm pl fr gc fl ba vs st uc un lc fv ur ln po pa pb) (he : en' = 0) : Inv cn op' tp' iF' lc fr' fl' ba' st' uc' ur ∧ sp' = sp + 1 ∧ sp < fu := by
  by_cases c1 : fu ≤ sp
  · simp only [f_turn, if_pos c1, Prod.mk.injEq] at h
    exact absurd (he.symm.trans h.2.2.2.2.2.2.2.2.2.2.2.2.2.2.2.2.1) (by decide)
  · have c2 : sp < fu := Int32.not_le.mp c1
    simp only [f_turn, if_neg c1] at h
    rcases hz : f_oper (fr (op - 1).toNatClampNeg) (pl (op - 1).toNatClampNeg) cn op mx tp iF en rs pl fr gc fl ba vs st uc un lc fv ur ln po pa pb with ⟨v, pl1, fr1, gc1, fl1, ba1, vs1, st1, uc1, un1, op1, mx1, tp1, iF1, en1, rs1⟩
    have q := inv_oper hI hlc1 hlc2 hz.symm
    rw [hz] at h
    simp only [f_aftz, f_aft] at h
    by_cases c3 : v = 0
    · rw [if_neg (not_not_intro c3)] at h
      by_cases c4 : iF = 0 ∧ en1 = 0
      · rw [if_pos c4] at h
        have q2 := q.2.1 c3 c4.2
        have q3 := q.2.2 c4.1
        subst q3
        by_cases c5 : ev < 1 ∨ ¬ (cs + 1 - (cs + 1) / ev * ev = 0)
        · simp only [f_cnt, if_pos c5, Prod.mk.injEq] at h
          obtain ⟨rfl, rfl, rfl, rfl, rfl, rfl, rfl, rfl, rfl, rfl, rfl, rfl, rfl, rfl, rfl, rfl, rfl, rfl, rfl, rfl, rfl, rfl⟩ := h
          exact ⟨q2, rfl, c2⟩
        · by_cases c6 : op1 = 25
          · simp only [f_cnt, if_neg c5, if_pos c6, Prod.mk.injEq] at h
            exact absurd (he.symm.trans h.2.2.2.2.2.2.2.2.2.2.2.2.2.2.2.2.1) (by decide)
          · simp only [f_cnt, if_neg c5, if_neg c6, Prod.mk.injEq] at h
            obtain ⟨rfl, rfl, rfl, rfl, rfl, rfl, rfl, rfl, rfl, rfl, rfl, rfl, rfl, rfl, rfl, rfl, rfl, rfl, rfl, rfl, rfl, rfl⟩ := h
            have q4 := q2
            obtain ⟨⟨a1, a1b⟩, ⟨a2, a2b⟩, ⟨a3, a3b⟩, a4, -⟩ := q4
            have c7 : 1 ≤ ev := by grind
            exact ⟨Inv_open q2 hlc1 hlc2 (by grind) (hir1 c7) (hir2 c7) a2 a2b a4 (Or.inr ⟨rfl, rfl⟩), rfl, c2⟩
      · rw [if_neg c4] at h
        simp only [Prod.mk.injEq] at h
        obtain ⟨rfl, rfl, rfl, rfl, rfl, rfl, rfl, rfl, rfl, rfl, rfl, rfl, rfl, rfl, rfl, rfl, rfl, rfl, rfl, rfl, rfl, rfl⟩ := h
        exact ⟨q.2.1 c3 he, rfl, c2⟩
    · rw [if_pos c3] at h
      simp only [Prod.mk.injEq] at h
      exact absurd (he.symm.trans h.2.2.2.2.2.2.2.2.2.2.2.2.2.2.2.2.1) (by decide)
def g_turn (fu ir ev cn : Int32) (lc fv ur ln po pa pb : Nat → Int32) (z : (Nat → Int32) × (Nat → Int32) × (Nat → Int32) × (Nat → Int32) × (Nat → Int32) × (Nat → Int32) × (Nat → Int32) × (Nat → Int32) × (Nat → Int32) × Int32 × Int32 × Int32 × Int32 × Int32 × Int32 × Int32 × Int32 × Int32 × Int32 × Int32 × Int32 × Int32) : (Nat → Int32) × (Nat → Int32) × (Nat → Int32) × (Nat → Int32) × (Nat → Int32) × (Nat → Int32) × (Nat → Int32) × (Nat → Int32) × (Nat → Int32) × Int32 × Int32 × Int32 × Int32 × Int32 × Int32 × Int32 × Int32 × Int32 × Int32 × Int32 × Int32 × Int32 := f_turn fu ir ev cn z.2.2.2.2.2.2.2.2.2.1 z.2.2.2.2.2.2.2.2.2.2.1 z.2.2.2.2.2.2.2.2.2.2.2.1 z.2.2.2.2.2.2.2.2.2.2.2.2.1 z.2.2.2.2.2.2.2.2.2.2.2.2.2.1 z.2.2.2.2.2.2.2.2.2.2.2.2.2.2.1 z.2.2.2.2.2.2.2.2.2.2.2.2.2.2.2.1 z.2.2.2.2.2.2.2.2.2.2.2.2.2.2.2.2.1 z.2.2.2.2.2.2.2.2.2.2.2.2.2.2.2.2.2.1 z.2.2.2.2.2.2.2.2.2.2.2.2.2.2.2.2.2.2.1 z.2.2.2.2.2.2.2.2.2.2.2.2.2.2.2.2.2.2.2.1 z.2.2.2.2.2.2.2.2.2.2.2.2.2.2.2.2.2.2.2.2.1 z.2.2.2.2.2.2.2.2.2.2.2.2.2.2.2.2.2.2.2.2.2 z.1 z.2.1 z.2.2.1 z.2.2.2.1 z.2.2.2.2.1 z.2.2.2.2.2.1 z.2.2.2.2.2.2.1 z.2.2.2.2.2.2.2.1 z.2.2.2.2.2.2.2.2.1 lc fv ur ln po pa pb
def g_loop (fu ir ev cn : Int32) (lc fv ur ln po pa pb : Nat → Int32) : Nat → (Nat → Int32) × (Nat → Int32) × (Nat → Int32) × (Nat → Int32) × (Nat → Int32) × (Nat → Int32) × (Nat → Int32) × (Nat → Int32) × (Nat → Int32) × Int32 × Int32 × Int32 × Int32 × Int32 × Int32 × Int32 × Int32 × Int32 × Int32 × Int32 × Int32 × Int32 → (Nat → Int32) × (Nat → Int32) × (Nat → Int32) × (Nat → Int32) × (Nat → Int32) × (Nat → Int32) × (Nat → Int32) × (Nat → Int32) × (Nat → Int32) × Int32 × Int32 × Int32 × Int32 × Int32 × Int32 × Int32 × Int32 × Int32 × Int32 × Int32 × Int32 × Int32
  | 0, z => z
  | n + 1, z => if z.2.2.2.2.2.2.2.2.2.2.2.2.2.2.2.2.1 = 0 then g_loop fu ir ev cn lc fv ur ln po pa pb n (g_turn fu ir ev cn lc fv ur ln po pa pb z) else z
def f_init (r k rs : Int32) (pl fr gc fl ba vs st uc un lc fv gv : Nat → Int32) : (Nat → Int32) × (Nat → Int32) × (Nat → Int32) × (Nat → Int32) × (Nat → Int32) × (Nat → Int32) × (Nat → Int32) × (Nat → Int32) × (Nat → Int32) × Int32 × Int32 × Int32 × Int32 × Int32 × Int32 × Int32 × Int32 × Int32 × Int32 × Int32 × Int32 × Int32 := (upd pl 0 0, upd fr 0 r, upd gc 0 k, upd fl 0 (lc r.toNatClampNeg), upd ba 0 0, f_vals r k 0 0 lc fv vs gv, st, uc, un, 1, 1, 0, 0, 0, 0, 0, 0, rs, 0, 0, 0, 0)
def f_fin (z : (Nat → Int32) × (Nat → Int32) × (Nat → Int32) × (Nat → Int32) × (Nat → Int32) × (Nat → Int32) × (Nat → Int32) × (Nat → Int32) × (Nat → Int32) × Int32 × Int32 × Int32 × Int32 × Int32 × Int32 × Int32 × Int32 × Int32 × Int32 × Int32 × Int32 × Int32) : Int32 × (Nat → Int32) × (Nat → Int32) × (Nat → Int32) × (Nat → Int32) × (Nat → Int32) × (Nat → Int32) × (Nat → Int32) × (Nat → Int32) × (Nat → Int32) × Int32 × Int32 × Int32 × Int32 × Int32 × Int32 × Int32 × Int32 × Int32 × Int32 × Int32 × Int32 × Int32 × Int32 := (z.2.2.2.2.2.2.2.2.2.2.2.2.2.2.2.2.2.1, z.1, z.2.1, z.2.2.1, z.2.2.2.1, z.2.2.2.2.1, z.2.2.2.2.2.1, z.2.2.2.2.2.2.1, z.2.2.2.2.2.2.2.1, z.2.2.2.2.2.2.2.2.1, z.2.2.2.2.2.2.2.2.2.1, z.2.2.2.2.2.2.2.2.2.2.1, z.2.2.2.2.2.2.2.2.2.2.2.1, z.2.2.2.2.2.2.2.2.2.2.2.2.1, z.2.2.2.2.2.2.2.2.2.2.2.2.2.1, z.2.2.2.2.2.2.2.2.2.2.2.2.2.2.1, z.2.2.2.2.2.2.2.2.2.2.2.2.2.2.2.1, z.2.2.2.2.2.2.2.2.2.2.2.2.2.2.2.2.1, z.2.2.2.2.2.2.2.2.2.2.2.2.2.2.2.2.2.1, z.2.2.2.2.2.2.2.2.2.2.2.2.2.2.2.2.2.2.1, z.2.2.2.2.2.2.2.2.2.2.2.2.2.2.2.2.2.2.2.1, z.2.2.2.2.2.2.2.2.2.2.2.2.2.2.2.2.2.2.2.2.1, z.2.2.2.2.2.2.2.2.2.2.2.2.2.2.2.2.2.2.2.2.2, z.2.2.2.2.2.2.2.2.2.2.1)
def f_perf (r k fu ir ev cn rs : Int32) (pl fr gc fl ba vs st uc un lc fv ur ln po pa pb gv : Nat → Int32) : Int32 × (Nat → Int32) × (Nat → Int32) × (Nat → Int32) × (Nat → Int32) × (Nat → Int32) × (Nat → Int32) × (Nat → Int32) × (Nat → Int32) × (Nat → Int32) × Int32 × Int32 × Int32 × Int32 × Int32 × Int32 × Int32 × Int32 × Int32 × Int32 × Int32 × Int32 × Int32 × Int32 := f_fin (g_loop fu ir ev cn lc fv ur ln po pa pb (fu.toNatClampNeg + 1) (f_init r k rs pl fr gc fl ba vs st uc un lc fv gv))
theorem inv_init {cn r : Int32} {lc fr fl ba st uc ur : Nat → Int32} (hr1 : 0 ≤ r) (hr2 : r < cn) (hlc1 : ∀ j, 0 ≤ lc j) (hlc2 : ∀ j, lc j ≤ 15) (hfr1 : ∀ j, 0 ≤ fr j) (hfr2 : ∀ j, fr j < cn) (hfl1 : ∀ j, 0 ≤ fl j) (hfl2 : ∀ j, fl j ≤ 15) (hba1 : ∀ j, 0 ≤ ba j) (hba2 : ∀ j, ba j ≤ 60) (hsx : ∀ j, sx (st j) = st j) (huc1 : ∀ j, 0 ≤ uc j) (huc2 : ∀ j, uc j ≤ ur j) : Inv cn 1 0 0 lc (upd fr 0 r) (upd fl 0 (lc r.toNatClampNeg)) (upd ba 0 0) st uc ur := by
  have e1 : ∀ i : Int32, 1 ≤ i → i ≤ 1 → i = 1 := by grind
  refine ⟨by decide, by decide, ⟨upd_all hba1 (by decide), upd_all (P := fun z => z ≤ 60) hba2 (by decide)⟩, ?_, fun i g1 g2 => absurd g1 (by grind), Or.inl rfl, fun i g1 g2 => Or.inl (e1 i g1 g2), ⟨upd_all hfr1 hr1, upd_all (P := fun z => z < cn) hfr2 hr2⟩, fun i g1 g2 => ?_, ⟨upd_all hfl1 (hlc1 _), upd_all (P := fun z => z ≤ 15) hfl2 (hlc2 _)⟩, hsx, huc1, huc2⟩
  · show upd ba 0 0 0 ≤ 0
    rw [upd_s]
    decide
  · rw [e1 i g1 g2]
    show upd fl 0 (lc r.toNatClampNeg) 0 = lc (upd fr 0 r 0).toNatClampNeg
    rw [upd_s, upd_s]
