def LI (cn ir ev mi me gn en md mo mx : Int32) (lc ln fr fl ba st uc ur : Nat → Int32) : Prop :=
  (0 ≤ cn ∧ cn ≤ 20) ∧ ((∀ j, 0 ≤ lc j) ∧ (∀ j, lc j ≤ 15)) ∧ ((∀ j, 0 ≤ ln j) ∧ (∀ j, ln j ≤ 24)) ∧ (∀ j, ur j ≤ 10) ∧ ((mi < 0 ∧ ev < 1) ∨ (0 ≤ mi ∧ mi < cn ∧ ir = mi ∧ ev = me)) ∧ 1 ≤ me ∧ (0 ≤ gn ∧ gn ≤ 15) ∧ (∀ j, 0 ≤ fr j) ∧ (∀ j, fr j < cn ∨ fr j = 0) ∧ ((∀ j, 0 ≤ fl j) ∧ (∀ j, fl j ≤ 15)) ∧ ((∀ j, 0 ≤ ba j) ∧ (∀ j, ba j ≤ 60)) ∧ (∀ j, sx (st j) = st j) ∧ (∀ j, 0 ≤ uc j) ∧ (∀ j, uc j ≤ ur j) ∧ md = en ∧ mx = mo
section LIS
variable {cn ir ev mi me gn en md mo mx r k k2 k3 w v : Int32} {lc ln fr fl ba st uc ur po pa pb gv un : Nat → Int32}
theorem li_routine {cn' : Int32} {lc' : Nat → Int32} (hL : LI cn ir ev mi me gn en md mo mx lc ln fr fl ba st uc ur) (h : (v, cn', lc') = t_routine k cn lc) : LI cn' ir ev mi me gn en md mo mx lc' ln fr fl ba st uc ur := by
  have hL2 := hL
  obtain ⟨⟨hcn, hcn2⟩, ⟨hlc1, hlc2⟩, ⟨hln1, hln2⟩, hur, hie, hme1, ⟨hg1, hg2⟩, hfr1, hfr3, ⟨hfl1, hfl2⟩, ⟨hba1, hba2⟩, hsx, huc1, huc2, hmd, hmo⟩ := hL2
  by_cases c1 : k < 0 ∨ 15 < k
  · simp only [t_routine, if_pos c1, Prod.mk.injEq] at h
    obtain ⟨rfl, rfl, rfl⟩ := h
    exact hL
  · by_cases c2 : cn = 20
    · simp only [t_routine, if_neg c1, if_pos c2, Prod.mk.injEq] at h
      obtain ⟨rfl, rfl, rfl⟩ := h
      exact hL
    · simp only [t_routine, if_neg c1, if_neg c2, Prod.mk.injEq] at h
      obtain ⟨rfl, rfl, rfl⟩ := h
      exact ⟨by clear hlc1 hlc2 hln1 hln2 hur hie hme1 hg1 hg2 hfr1 hfr3 hfl1 hfl2 hba1 hba2 hsx huc1 huc2 hmd hmo; grind, ⟨upd_all hlc1 (by grind), upd_all (P := fun z => z ≤ 15) hlc2 (by grind)⟩, ⟨hln1, hln2⟩, hur, by clear hlc1 hlc2 hln1 hln2 hur hme1 hg1 hg2 hfr1 hfr3 hfl1 hfl2 hba1 hba2 hsx huc1 huc2 hmd hmo; grind, hme1, ⟨hg1, hg2⟩, hfr1, fun j => by have h9 := hfr3 j; clear hlc1 hlc2 hln1 hln2 hur hie hme1 hg1 hg2 hfr1 hfr3 hfl1 hfl2 hba1 hba2 hsx huc1 huc2 hmd hmo; grind, ⟨hfl1, hfl2⟩, ⟨hba1, hba2⟩, hsx, huc1, huc2, hmd, hmo⟩
theorem li_add {ln' po' pa' pb' : Nat → Int32} (hL : LI cn ir ev mi me gn en md mo mx lc ln fr fl ba st uc ur) (h : (v, ln', po', pa', pb') = t_add r k k2 k3 cn ln po pa pb) : LI cn ir ev mi me gn en md mo mx lc ln' fr fl ba st uc ur := by
  have hL2 := hL
  obtain ⟨⟨hcn, hcn2⟩, ⟨hlc1, hlc2⟩, ⟨hln1, hln2⟩, hur, hie, hme1, ⟨hg1, hg2⟩, hfr1, hfr3, ⟨hfl1, hfl2⟩, ⟨hba1, hba2⟩, hsx, huc1, huc2, hmd, hmo⟩ := hL2
  by_cases c1 : ¬ (0 ≤ r ∧ r < cn)
  · simp only [t_add, if_pos c1, Prod.mk.injEq] at h
    obtain ⟨rfl, rfl, rfl, rfl, rfl⟩ := h
    exact hL
  · by_cases c2 : ln r.toNatClampNeg = 24
    · simp only [t_add, if_neg c1, if_pos c2, Prod.mk.injEq] at h
      obtain ⟨rfl, rfl, rfl, rfl, rfl⟩ := h
      exact hL
    · simp only [t_add, if_neg c1, if_neg c2, Prod.mk.injEq] at h
      obtain ⟨rfl, rfl, rfl, rfl, rfl⟩ := h
      have q1 := hln1 r.toNatClampNeg
      have q2 := hln2 r.toNatClampNeg
      exact ⟨⟨hcn, hcn2⟩, ⟨hlc1, hlc2⟩, ⟨upd_all hln1 (by clear hcn hcn2 hlc1 hlc2 hln1 hln2 hur hie hme1 hg1 hg2 hfr1 hfr3 hfl1 hfl2 hba1 hba2 hsx huc1 huc2 hmd hmo; grind), upd_all (P := fun z => z ≤ 24) hln2 (by clear hcn hcn2 hlc1 hlc2 hln1 hln2 hur hie hme1 hg1 hg2 hfr1 hfr3 hfl1 hfl2 hba1 hba2 hsx huc1 huc2 hmd hmo; grind)⟩, hur, hie, hme1, ⟨hg1, hg2⟩, hfr1, hfr3, ⟨hfl1, hfl2⟩, ⟨hba1, hba2⟩, hsx, huc1, huc2, hmd, hmo⟩
theorem li_clear {ln' : Nat → Int32} (hL : LI cn ir ev mi me gn en md mo mx lc ln fr fl ba st uc ur) (h : (v, ln') = t_clear r cn ln) : LI cn ir ev mi me gn en md mo mx lc ln' fr fl ba st uc ur := by
  have hL2 := hL
  obtain ⟨⟨hcn, hcn2⟩, ⟨hlc1, hlc2⟩, ⟨hln1, hln2⟩, hur, hie, hme1, ⟨hg1, hg2⟩, hfr1, hfr3, ⟨hfl1, hfl2⟩, ⟨hba1, hba2⟩, hsx, huc1, huc2, hmd, hmo⟩ := hL2
  by_cases c1 : ¬ (0 ≤ r ∧ r < cn)
  · simp only [t_clear, if_pos c1, Prod.mk.injEq] at h
    obtain ⟨rfl, rfl⟩ := h
    exact hL
  · simp only [t_clear, if_neg c1, Prod.mk.injEq] at h
    obtain ⟨rfl, rfl⟩ := h
    exact ⟨⟨hcn, hcn2⟩, ⟨hlc1, hlc2⟩, ⟨upd_all hln1 (by decide), upd_all (P := fun z => z ≤ 24) hln2 (by decide)⟩, hur, hie, hme1, ⟨hg1, hg2⟩, hfr1, hfr3, ⟨hfl1, hfl2⟩, ⟨hba1, hba2⟩, hsx, huc1, huc2, hmd, hmo⟩
theorem li_room {uc' ur' : Nat → Int32} (hL : LI cn ir ev mi me gn en md mo mx lc ln fr fl ba st uc ur) (h : (v, uc', ur') = t_room r k uc ur) : LI cn ir ev mi me gn en md mo mx lc ln fr fl ba st uc' ur' := by
  have hL2 := hL
  obtain ⟨⟨hcn, hcn2⟩, ⟨hlc1, hlc2⟩, ⟨hln1, hln2⟩, hur, hie, hme1, ⟨hg1, hg2⟩, hfr1, hfr3, ⟨hfl1, hfl2⟩, ⟨hba1, hba2⟩, hsx, huc1, huc2, hmd, hmo⟩ := hL2
  by_cases c1 : ¬ (0 ≤ r ∧ r < 4) ∨ k < 0 ∨ 10 < k
  · simp only [t_room, if_pos c1, Prod.mk.injEq] at h
    obtain ⟨rfl, rfl, rfl⟩ := h
    exact hL
  · simp only [t_room, if_neg c1, Prod.mk.injEq] at h
    obtain ⟨rfl, rfl, rfl⟩ := h
    refine ⟨⟨hcn, hcn2⟩, ⟨hlc1, hlc2⟩, ⟨hln1, hln2⟩, upd_all (P := fun z => z ≤ 10) hur (by clear hcn hcn2 hlc1 hlc2 hln1 hln2 hur hie hme1 hg1 hg2 hfr1 hfr3 hfl1 hfl2 hba1 hba2 hsx huc1 huc2 hmd hmo; grind), hie, hme1, ⟨hg1, hg2⟩, hfr1, hfr3, ⟨hfl1, hfl2⟩, ⟨hba1, hba2⟩, hsx, upd_all huc1 (by decide), fun j => ?_, hmd, hmo⟩
    simp only [upd]
    split
    · clear hcn hcn2 hlc1 hlc2 hln1 hln2 hur hie hme1 hg1 hg2 hfr1 hfr3 hfl1 hfl2 hba1 hba2 hsx huc1 huc2 hmd hmo; grind
    · exact huc2 j
theorem li_int {ir' ev' mi' me' : Int32} (hL : LI cn ir ev mi me gn en md mo mx lc ln fr fl ba st uc ur) (h1 : ir' = if r = -1 then 0 else if ¬ (0 ≤ r ∧ r < cn) ∨ k < 1 ∨ 1000 < k then ir else r) (h2 : ev' = if r = -1 then 0 else if ¬ (0 ≤ r ∧ r < cn) ∨ k < 1 ∨ 1000 < k then ev else k) (h3 : mi' = if r = -1 then -1 else if ¬ (0 ≤ r ∧ r < cn) ∨ k < 1 ∨ 1000 < k then mi else r) (h4 : me' = if r = -1 then me else if ¬ (0 ≤ r ∧ r < cn) ∨ k < 1 ∨ 1000 < k then me else k) : LI cn ir' ev' mi' me' gn en md mo mx lc ln fr fl ba st uc ur := by
  obtain ⟨⟨hcn, hcn2⟩, ⟨hlc1, hlc2⟩, ⟨hln1, hln2⟩, hur, hie, hme1, ⟨hg1, hg2⟩, hfr1, hfr3, ⟨hfl1, hfl2⟩, ⟨hba1, hba2⟩, hsx, huc1, huc2, hmd, hmo⟩ := hL
  exact ⟨⟨hcn, hcn2⟩, ⟨hlc1, hlc2⟩, ⟨hln1, hln2⟩, hur, by clear hlc1 hlc2 hln1 hln2 hur hg1 hg2 hfr1 hfr3 hfl1 hfl2 hba1 hba2 hsx huc1 huc2 hmd hmo; grind, by clear hlc1 hlc2 hln1 hln2 hur hg1 hg2 hfr1 hfr3 hfl1 hfl2 hba1 hba2 hsx huc1 huc2 hmd hmo; grind, ⟨hg1, hg2⟩, hfr1, hfr3, ⟨hfl1, hfl2⟩, ⟨hba1, hba2⟩, hsx, huc1, huc2, hmd, hmo⟩
theorem li_give {gn' : Int32} {gv' : Nat → Int32} (hL : LI cn ir ev mi me gn en md mo mx lc ln fr fl ba st uc ur) (h : (v, gv', gn') = t_give w gn gv) : LI cn ir ev mi me gn' en md mo mx lc ln fr fl ba st uc ur := by
  have hL2 := hL
  obtain ⟨⟨hcn, hcn2⟩, ⟨hlc1, hlc2⟩, ⟨hln1, hln2⟩, hur, hie, hme1, ⟨hg1, hg2⟩, hfr1, hfr3, ⟨hfl1, hfl2⟩, ⟨hba1, hba2⟩, hsx, huc1, huc2, hmd, hmo⟩ := hL2
  by_cases c1 : gn = 15
  · simp only [t_give, if_pos c1, Prod.mk.injEq] at h
    obtain ⟨rfl, rfl, rfl⟩ := h
    exact hL
  · simp only [t_give, if_neg c1, Prod.mk.injEq] at h
    obtain ⟨rfl, rfl, rfl⟩ := h
    exact ⟨⟨hcn, hcn2⟩, ⟨hlc1, hlc2⟩, ⟨hln1, hln2⟩, hur, hie, hme1, by clear hcn hcn2 hlc1 hlc2 hln1 hln2 hur hie hme1 hfr1 hfr3 hfl1 hfl2 hba1 hba2 hsx huc1 huc2 hmd hmo; grind, hfr1, hfr3, ⟨hfl1, hfl2⟩, ⟨hba1, hba2⟩, hsx, huc1, huc2, hmd, hmo⟩
end LIS
theorem li_run {r : Int32} {fu : Int32} {ir : Int32} {ev : Int32} {cn : Int32} {gn : Int32} {op : Int32} {mx : Int32} {tp : Int32} {iF : Int32} {cs : Int32} {sp : Int32} {it : Int32} {en : Int32} {rs : Int32} {fa : Int32} {ro : Int32} {pp : Int32} {fm : Int32} {mo : Int32} {pl : Nat → Int32} {fr : Nat → Int32} {gc : Nat → Int32} {fl : Nat → Int32} {ba : Nat → Int32} {vs : Nat → Int32} {st : Nat → Int32} {uc : Nat → Int32} {un : Nat → Int32} {lc : Nat → Int32} {fv : Nat → Int32} {ur : Nat → Int32} {ln : Nat → Int32} {po : Nat → Int32} {pa : Nat → Int32} {pb : Nat → Int32} {gv : Nat → Int32} {mi me md v md' : Int32} {pl' : Nat → Int32} {fr' : Nat → Int32} {gc' : Nat → Int32} {fl' : Nat → Int32} {ba' : Nat → Int32} {vs' : Nat → Int32} {st' : Nat → Int32} {uc' : Nat → Int32} {un' : Nat → Int32} {op' : Int32} {mx' : Int32} {tp' : Int32} {iF' : Int32} {cs' : Int32} {sp' : Int32} {it' : Int32} {en' : Int32} {rs' : Int32} {fa' : Int32} {ro' : Int32} {pp' : Int32} {fm' : Int32} {mo' : Int32} {gn' : Int32} (hL : LI cn ir ev mi me gn en md mo mx lc ln fr fl ba st uc ur) (h : (v, pl', fr', gc', fl', ba', vs', st', uc', un', op', mx', tp', iF', cs', sp', it', en', rs', fa', ro', pp', fm', mo', gn') = t_run r fu ir ev cn gn op mx tp iF cs sp it en rs fa ro pp fm mo pl fr gc fl ba vs st uc un lc fv ur ln po pa pb gv) (h1 : md' = en') (h2 : mx' = mo') : LI cn ir ev mi me gn' en' md' mo' mx' lc ln fr' fl' ba' st' uc' ur := by
  have hL2 := hL
  obtain ⟨⟨hcn, hcn2⟩, ⟨hlc1, hlc2⟩, ⟨hln1, hln2⟩, hur, hie, hme1, ⟨hg1, hg2⟩, hfr1, hfr3, ⟨hfl1, hfl2⟩, ⟨hba1, hba2⟩, hsx, huc1, huc2, hmd, hmo⟩ := hL2
  by_cases c : ¬ (0 ≤ r ∧ r < cn) ∨ fu < 0 ∨ 2000 < fu
  · simp only [t_run, if_pos c, Prod.mk.injEq] at h
    obtain ⟨rfl, rfl, rfl, rfl, rfl, rfl, rfl, rfl, rfl, rfl, rfl, rfl, rfl, rfl, rfl, rfl, rfl, rfl, rfl, rfl, rfl, rfl, rfl, rfl, rfl⟩ := h
    exact ⟨⟨hcn, hcn2⟩, ⟨hlc1, hlc2⟩, ⟨hln1, hln2⟩, hur, hie, hme1, ⟨hg1, hg2⟩, hfr1, hfr3, ⟨hfl1, hfl2⟩, ⟨hba1, hba2⟩, hsx, huc1, huc2, h1, h2⟩
  · simp only [t_run, if_neg c] at h
    have cr : 0 ≤ r ∧ r < cn := by clear hcn hcn2 hlc1 hlc2 hln1 hln2 hur hie hme1 hg1 hg2 hfr1 hfr3 hfl1 hfl2 hba1 hba2 hsx huc1 huc2 hmd hmo h; grind
    have hI := inv_init cr.1 cr.2 hlc1 hlc2 hfr1 (fun j => by have h9 := hfr3 j; clear hcn hcn2 hlc1 hlc2 hln1 hln2 hur hie hme1 hg1 hg2 hfr1 hfr3 hfl1 hfl2 hba1 hba2 hsx huc1 huc2 hmd hmo h; grind) hfl1 hfl2 hba1 hba2 hsx huc1 huc2
    have hW := W_loop (fu := fu) (ur := ur) (lc := lc) (fv := fv) (ln := ln) (po := po) (pa := pa) (pb := pb) (cn := cn) hlc1 hlc2 (ie_1 hie) (ie_2 hie) (fu.toNatClampNeg + 1) (f_init r gn rs pl fr gc fl ba vs st uc un lc fv gv) (fun _ => hI) (WI_of hI)
    simp only [Prod.mk.injEq] at h
    obtain ⟨-, rfl, rfl, rfl, rfl, rfl, rfl, rfl, rfl, rfl, rfl, rfl, rfl, rfl, rfl, rfl, rfl, rfl, rfl, rfl, rfl, rfl, rfl, rfl, rfl⟩ := h
    exact ⟨⟨hcn, hcn2⟩, ⟨hlc1, hlc2⟩, ⟨hln1, hln2⟩, hur, hie, hme1, by decide, hW.1.1, fun j => Or.inl (hW.1.2 j), hW.2.1, hW.2.2.1, hW.2.2.2.1, hW.2.2.2.2.1, hW.2.2.2.2.2, h1, h2⟩
