def WI (cn : Int32) (fr fl ba st uc ur : Nat → Int32) : Prop := ((∀ j, 0 ≤ fr j) ∧ (∀ j, fr j < cn)) ∧ ((∀ j, 0 ≤ fl j) ∧ (∀ j, fl j ≤ 15)) ∧ ((∀ j, 0 ≤ ba j) ∧ (∀ j, ba j ≤ 60)) ∧ (∀ j, sx (st j) = st j) ∧ ((∀ j, 0 ≤ uc j) ∧ (∀ j, uc j ≤ ur j))
section WIS
variable {cn op tp iF en rs mx k r w o : Int32} {lc fr fl ba st uc ur un vs pl fv gc : Nat → Int32}
theorem WI_of (hI : Inv cn op tp iF lc fr fl ba st uc ur) : WI cn fr fl ba st uc ur := by
  obtain ⟨a1, a2, a3, a4, a5, a6, a7, a8, a9, a10, a11, a12⟩ := hI
  exact ⟨a8, a10, a3, a11, a12⟩
theorem WI_st {st' : Nat → Int32} (h : WI cn fr fl ba st uc ur) (h4 : ∀ j, sx (st' j) = st' j) : WI cn fr fl ba st' uc ur := ⟨h.1, h.2.1, h.2.2.1, h4, h.2.2.2.2⟩
theorem W_push (h : WI cn fr fl ba st uc ur) : WI cn fr fl ba (f_push k st tp).2.1 uc ur := by
  simp only [f_push]
  split
  · exact h
  · exact WI_st h (sx_upd h.2.2.2.1 (sx_sx _))
theorem W_load (h : WI cn fr fl ba st uc ur) : WI cn fr fl ba (f_load k op tp fl vs st).2.1 uc ur := by
  simp only [f_load]
  split
  · exact W_push h
  · exact h
theorem W_dup (h : WI cn fr fl ba st uc ur) : WI cn fr fl ba (f_dup op tp ba st).2.1 uc ur := by
  simp only [f_dup]
  split
  · exact h
  · exact W_push h
theorem W_reckon (h : WI cn fr fl ba st uc ur) : WI cn fr fl ba (f_reckon o op tp ba st).2.1 uc ur := by
  simp only [f_reckon]
  split
  · exact h
  · split
    · exact h
    · exact WI_st h (sx_upd h.2.2.2.1 (sx_sx _))
theorem W_close (h : WI cn fr fl ba st uc ur) (hw : sx w = w) : WI cn fr fl ba (f_close k w iF en rs ba st).2.2.2.2.2 uc ur := by
  simp only [f_close]
  split
  · exact h
  · split
    · exact h
    · exact WI_st h (sx_upd h.2.2.2.1 hw)
theorem W_ret (h : WI cn fr fl ba st uc ur) : WI cn fr fl ba (f_ret op tp iF en rs ba st).2.2.2.2.2.2 uc ur := by
  simp only [f_ret]
  split
  · exact h
  · exact W_close h (h.2.2.2.1 _)
theorem W_thr (h : WI cn fr fl ba st uc ur) : WI cn fr fl ba (f_thr op tp iF en rs ba st).2.2.2.2.2.2 uc ur := by
  simp only [f_thr]
  split
  · exact h
  · split
    · exact h
    · exact W_close h (h.2.2.2.1 _)
theorem W_tou (h : WI cn fr fl ba st uc ur) : WI cn fr fl ba (f_tou r op tp ba st ur uc un).2.1 (f_tou r op tp ba st ur uc un).2.2.1 ur := by
  by_cases e : tp - ba (op - 1).toNatClampNeg < 1
  · simp only [f_tou, if_pos e]; exact h
  · by_cases e2 : ¬ (0 ≤ r ∧ r < 4)
    · simp only [f_tou, if_neg e, if_pos e2]; exact h
    · by_cases e3 : uc r.toNatClampNeg < ur r.toNatClampNeg
      · simp only [f_tou, if_neg e, if_neg e2, if_pos e3]
        have q1 := h.2.2.2.2.1 r.toNatClampNeg
        refine ⟨h.1, h.2.1, h.2.2.1, sx_upd h.2.2.2.1 (sx_sx _), upd_all h.2.2.2.2.1 (by grind), fun j => ?_⟩
        simp only [upd]
        split
        · rename_i hj
          rw [hj]
          grind
        · exact h.2.2.2.2.2 j
      · simp only [f_tou, if_neg e, if_neg e2, if_neg e3]
        exact WI_st h (sx_upd h.2.2.2.1 (sx_sx _))
theorem W_fru (h : WI cn fr fl ba st uc ur) : WI cn fr fl ba (f_fru r tp st uc un).2.1 (f_fru r tp st uc un).2.2.2 ur := by
  by_cases e : ¬ (0 ≤ r ∧ r < 4)
  · simp only [f_fru, if_pos e]; exact h
  · by_cases e2 : ¬ 0 < uc r.toNatClampNeg
    · simp only [f_fru, if_neg e, if_pos e2]; exact h
    · by_cases e3 : tp = 60
      · simp only [f_fru, if_neg e, if_neg e2, if_pos e3]; exact h
      · simp only [f_fru, if_neg e, if_neg e2, if_neg e3]
        refine ⟨h.1, h.2.1, h.2.2.1, sx_upd h.2.2.2.1 (sx_sx _), upd_all h.2.2.2.2.1 (by grind), fun j => ?_⟩
        simp only [upd]
        split
        · rename_i hj
          rw [hj]
          have := h.2.2.2.2.2 r.toNatClampNeg
          grind
        · exact h.2.2.2.2.2 j
theorem W_call (h : WI cn fr fl ba st uc ur) (hI : Inv cn op tp iF lc fr fl ba st uc ur) (hlc1 : ∀ j, 0 ≤ lc j) (hlc2 : ∀ j, lc j ≤ 15) : WI cn (f_call r k cn op mx tp lc fv fr pl gc fl ba vs st).2.2.2.2.1 (f_call r k cn op mx tp lc fv fr pl gc fl ba vs st).2.2.2.2.2.2.2.1 (f_call r k cn op mx tp lc fv fr pl gc fl ba vs st).2.2.2.2.2.2.2.2.1 st uc ur := by
  by_cases e : (f_call r k cn op mx tp lc fv fr pl gc fl ba vs st).1 = 0
  · exact WI_of (A_call hI hlc1 hlc2 e)
  · simp only [f_call] at e ⊢
    split
    · exact h
    · split
      · exact h
      · split
        · exact h
        · split
          · exact h
          · rename_i h1 h2 h3 h4
            rw [if_neg h1, if_neg h2, if_neg h3, if_neg h4] at e
            exact absurd rfl e
theorem W_op {a1 b1 v : Int32} {pl' : Nat → Int32} {fr' : Nat → Int32} {gc' : Nat → Int32} {fl' : Nat → Int32} {ba' : Nat → Int32} {vs' : Nat → Int32} {st' : Nat → Int32} {uc' : Nat → Int32} {un' : Nat → Int32} {op' : Int32} {mx' : Int32} {tp' : Int32} {iF' : Int32} {en' : Int32} {rs' : Int32} (hI : Inv cn op tp iF lc fr fl ba st uc ur) (hlc1 : ∀ j, 0 ≤ lc j) (hlc2 : ∀ j, lc j ≤ 15) (h : (v, pl', fr', gc', fl', ba', vs', st', uc', un', op', mx', tp', iF', en', rs') = f_op o a1 b1 cn op mx tp iF en rs pl fr gc fl ba vs st uc un lc fv ur) : WI cn fr' fl' ba' st' uc' ur := by
  have hW := WI_of hI
  by_cases ho : o < 0 ∨ 19 < o
  · rw [f_op_o ho] at h
    simp only [Prod.mk.injEq] at h
    obtain ⟨rfl, rfl, rfl, rfl, rfl, rfl, rfl, rfl, rfl, rfl, rfl, rfl, rfl, rfl, rfl, rfl⟩ := h
    exact hW
  by_cases h0 : o = 0
  · rw [h0, f_op_0] at h
    simp only [Prod.mk.injEq] at h
    obtain ⟨rfl, rfl, rfl, rfl, rfl, rfl, rfl, rfl, rfl, rfl, rfl, rfl, rfl, rfl, rfl, rfl⟩ := h
    exact W_push hW
  by_cases h1 : o = 1
  · rw [h1, f_op_1] at h
    simp only [Prod.mk.injEq] at h
    obtain ⟨rfl, rfl, rfl, rfl, rfl, rfl, rfl, rfl, rfl, rfl, rfl, rfl, rfl, rfl, rfl, rfl⟩ := h
    exact W_load hW
  by_cases h2 : o = 2
  · rw [h2, f_op_2] at h
    simp only [Prod.mk.injEq] at h
    obtain ⟨rfl, rfl, rfl, rfl, rfl, rfl, rfl, rfl, rfl, rfl, rfl, rfl, rfl, rfl, rfl, rfl⟩ := h
    exact hW
  by_cases h3 : o = 3
  · rw [h3, f_op_3] at h
    simp only [Prod.mk.injEq] at h
    obtain ⟨rfl, rfl, rfl, rfl, rfl, rfl, rfl, rfl, rfl, rfl, rfl, rfl, rfl, rfl, rfl, rfl⟩ := h
    exact W_reckon hW
  by_cases h4 : o = 4
  · rw [h4, f_op_4] at h
    simp only [Prod.mk.injEq] at h
    obtain ⟨rfl, rfl, rfl, rfl, rfl, rfl, rfl, rfl, rfl, rfl, rfl, rfl, rfl, rfl, rfl, rfl⟩ := h
    exact W_reckon hW
  by_cases h5 : o = 5
  · rw [h5, f_op_5] at h
    simp only [Prod.mk.injEq] at h
    obtain ⟨rfl, rfl, rfl, rfl, rfl, rfl, rfl, rfl, rfl, rfl, rfl, rfl, rfl, rfl, rfl, rfl⟩ := h
    exact W_reckon hW
  by_cases h6 : o = 6
  · rw [h6, f_op_6] at h
    simp only [Prod.mk.injEq] at h
    obtain ⟨rfl, rfl, rfl, rfl, rfl, rfl, rfl, rfl, rfl, rfl, rfl, rfl, rfl, rfl, rfl, rfl⟩ := h
    exact W_reckon hW
  by_cases h7 : o = 7
  · rw [h7, f_op_7] at h
    simp only [Prod.mk.injEq] at h
    obtain ⟨rfl, rfl, rfl, rfl, rfl, rfl, rfl, rfl, rfl, rfl, rfl, rfl, rfl, rfl, rfl, rfl⟩ := h
    exact W_reckon hW
  by_cases h8 : o = 8
  · rw [h8, f_op_8] at h
    simp only [Prod.mk.injEq] at h
    obtain ⟨rfl, rfl, rfl, rfl, rfl, rfl, rfl, rfl, rfl, rfl, rfl, rfl, rfl, rfl, rfl, rfl⟩ := h
    exact hW
  by_cases h9 : o = 9
  · rw [h9, f_op_9] at h
    simp only [Prod.mk.injEq] at h
    obtain ⟨rfl, rfl, rfl, rfl, rfl, rfl, rfl, rfl, rfl, rfl, rfl, rfl, rfl, rfl, rfl, rfl⟩ := h
    exact hW
  by_cases h10 : o = 10
  · rw [h10, f_op_10] at h
    simp only [Prod.mk.injEq] at h
    obtain ⟨rfl, rfl, rfl, rfl, rfl, rfl, rfl, rfl, rfl, rfl, rfl, rfl, rfl, rfl, rfl, rfl⟩ := h
    exact W_call hW hI hlc1 hlc2
  by_cases h11 : o = 11
  · rw [h11, f_op_11] at h
    simp only [Prod.mk.injEq] at h
    obtain ⟨rfl, rfl, rfl, rfl, rfl, rfl, rfl, rfl, rfl, rfl, rfl, rfl, rfl, rfl, rfl, rfl⟩ := h
    exact W_ret hW
  by_cases h12 : o = 12
  · rw [h12, f_op_12] at h
    simp only [Prod.mk.injEq] at h
    obtain ⟨rfl, rfl, rfl, rfl, rfl, rfl, rfl, rfl, rfl, rfl, rfl, rfl, rfl, rfl, rfl, rfl⟩ := h
    exact W_push hW
  by_cases h13 : o = 13
  · rw [h13, f_op_13] at h
    simp only [Prod.mk.injEq] at h
    obtain ⟨rfl, rfl, rfl, rfl, rfl, rfl, rfl, rfl, rfl, rfl, rfl, rfl, rfl, rfl, rfl, rfl⟩ := h
    exact W_thr hW
  by_cases h14 : o = 14
  · rw [h14, f_op_14] at h
    simp only [Prod.mk.injEq] at h
    obtain ⟨rfl, rfl, rfl, rfl, rfl, rfl, rfl, rfl, rfl, rfl, rfl, rfl, rfl, rfl, rfl, rfl⟩ := h
    exact W_push hW
  by_cases h15 : o = 15
  · rw [h15, f_op_15] at h
    simp only [Prod.mk.injEq] at h
    obtain ⟨rfl, rfl, rfl, rfl, rfl, rfl, rfl, rfl, rfl, rfl, rfl, rfl, rfl, rfl, rfl, rfl⟩ := h
    exact W_tou hW
  by_cases h16 : o = 16
  · rw [h16, f_op_16] at h
    simp only [Prod.mk.injEq] at h
    obtain ⟨rfl, rfl, rfl, rfl, rfl, rfl, rfl, rfl, rfl, rfl, rfl, rfl, rfl, rfl, rfl, rfl⟩ := h
    exact W_fru hW
  by_cases h17 : o = 17
  · rw [h17, f_op_17] at h
    simp only [Prod.mk.injEq] at h
    obtain ⟨rfl, rfl, rfl, rfl, rfl, rfl, rfl, rfl, rfl, rfl, rfl, rfl, rfl, rfl, rfl, rfl⟩ := h
    exact W_dup hW
  by_cases h18 : o = 18
  · rw [h18, f_op_18] at h
    simp only [Prod.mk.injEq] at h
    obtain ⟨rfl, rfl, rfl, rfl, rfl, rfl, rfl, rfl, rfl, rfl, rfl, rfl, rfl, rfl, rfl, rfl⟩ := h
    exact hW
  have h19 : o = 19 := by grind
  · rw [h19, f_op_19] at h
    simp only [Prod.mk.injEq] at h
    obtain ⟨rfl, rfl, rfl, rfl, rfl, rfl, rfl, rfl, rfl, rfl, rfl, rfl, rfl, rfl, rfl, rfl⟩ := h
    exact W_reckon hW
theorem W_oper {v : Int32} {ln po pa pb : Nat → Int32} {pl' : Nat → Int32} {fr' : Nat → Int32} {gc' : Nat → Int32} {fl' : Nat → Int32} {ba' : Nat → Int32} {vs' : Nat → Int32} {st' : Nat → Int32} {uc' : Nat → Int32} {un' : Nat → Int32} {op' : Int32} {mx' : Int32} {tp' : Int32} {iF' : Int32} {en' : Int32} {rs' : Int32} (hI : Inv cn op tp iF lc fr fl ba st uc ur) (hlc1 : ∀ j, 0 ≤ lc j) (hlc2 : ∀ j, lc j ≤ 15) (h : (v, pl', fr', gc', fl', ba', vs', st', uc', un', op', mx', tp', iF', en', rs') = f_oper r k cn op mx tp iF en rs pl fr gc fl ba vs st uc un lc fv ur ln po pa pb) : WI cn fr' fl' ba' st' uc' ur := by
  by_cases e : 0 ≤ k ∧ k < ln r.toNatClampNeg
  · simp only [f_oper, if_pos e] at h
    exact W_op hI hlc1 hlc2 h
  · simp only [f_oper, if_neg e, Prod.mk.injEq] at h
    obtain ⟨rfl, rfl, rfl, rfl, rfl, rfl, rfl, rfl, rfl, rfl, rfl, rfl, rfl, rfl, rfl, rfl⟩ := h
    exact WI_of hI
end WIS
theorem W_turn {fu : Int32} {ir : Int32} {ev : Int32} {cn : Int32} {op : Int32} {mx : Int32} {tp : Int32} {iF : Int32} {cs : Int32} {sp : Int32} {it : Int32} {en : Int32} {rs : Int32} {fa : Int32} {ro : Int32} {pp : Int32} {fm : Int32} {pl : Nat → Int32} {fr : Nat → Int32} {gc : Nat → Int32} {fl : Nat → Int32} {ba : Nat → Int32} {vs : Nat → Int32} {st : Nat → Int32} {uc : Nat → Int32} {un : Nat → Int32} {lc : Nat → Int32} {fv : Nat → Int32} {ur : Nat → Int32} {ln : Nat → Int32} {po : Nat → Int32} {pa : Nat → Int32} {pb : Nat → Int32} {pl' : Nat → Int32} {fr' : Nat → Int32} {gc' : Nat → Int32} {fl' : Nat → Int32} {ba' : Nat → Int32} {vs' : Nat → Int32} {st' : Nat → Int32} {uc' : Nat → Int32} {un' : Nat → Int32} {op' : Int32} {mx' : Int32} {tp' : Int32} {iF' : Int32} {cs' : Int32} {sp' : Int32} {it' : Int32} {en' : Int32} {rs' : Int32} {fa' : Int32} {ro' : Int32} {pp' : Int32} {fm' : Int32} (hI : Inv cn op tp iF lc fr fl ba st uc ur) (hlc1 : ∀ j, 0 ≤ lc j) (hlc2 : ∀ j, lc j ≤ 15) (hir1 : 1 ≤ ev → 0 ≤ ir) (hir2 : 1 ≤ ev → ir < cn) (h : (pl', fr', gc', fl', ba', vs', st', uc', un', op', mx', tp', iF', cs', sp', it', en', rs', fa', ro', pp', fm') = f_turn fu ir ev cn op mx tp iF cs sp it en rs fa ro pp fm pl fr gc fl ba vs st uc un lc fv ur ln po pa pb) : WI cn fr' fl' ba' st' uc' ur := by
  by_cases he : en' = 0
  · exact WI_of (inv_turn hI hlc1 hlc2 hir1 hir2 h he).1
  · by_cases c1 : fu ≤ sp
    · rw [turn_fuel c1] at h
      simp only [Prod.mk.injEq] at h
      obtain ⟨rfl, rfl, rfl, rfl, rfl, rfl, rfl, rfl, rfl, rfl, rfl, rfl, rfl, rfl, rfl, rfl, rfl, rfl, rfl, rfl, rfl, rfl⟩ := h
      exact WI_of hI
    · rcases hz : f_oper (fr (op - 1).toNatClampNeg) (pl (op - 1).toNatClampNeg) cn op mx tp iF en rs pl fr gc fl ba vs st uc un lc fv ur ln po pa pb with ⟨v, pl1, fr1, gc1, fl1, ba1, vs1, st1, uc1, un1, op1, mx1, tp1, iF1, en1, rs1⟩
      have hW := W_oper hI hlc1 hlc2 hz.symm
      by_cases c3 : v = 0
      · by_cases c4 : iF = 0 ∧ en1 = 0
        · by_cases c5 : ev < 1 ∨ ¬ (cs + 1 - (cs + 1) / ev * ev = 0)
          · rw [turn_cnt c1 hz c3 c4 c5] at h
            simp only [Prod.mk.injEq] at h
            obtain ⟨rfl, rfl, rfl, rfl, rfl, rfl, rfl, rfl, rfl, rfl, rfl, rfl, rfl, rfl, rfl, rfl, rfl, rfl, rfl, rfl, rfl, rfl⟩ := h
            exact hW
          · by_cases c6 : op1 = 25
            · rw [turn_deep c1 hz c3 c4 c5 c6] at h
              simp only [Prod.mk.injEq] at h
              obtain ⟨rfl, rfl, rfl, rfl, rfl, rfl, rfl, rfl, rfl, rfl, rfl, rfl, rfl, rfl, rfl, rfl, rfl, rfl, rfl, rfl, rfl, rfl⟩ := h
              exact hW
            · rw [turn_int c1 hz c3 c4 c5 c6] at h
              simp only [Prod.mk.injEq] at h
              exact absurd (h.2.2.2.2.2.2.2.2.2.2.2.2.2.2.2.2.1.trans c4.2) he
        · rw [turn_over c1 hz c3 c4] at h
          simp only [Prod.mk.injEq] at h
          obtain ⟨rfl, rfl, rfl, rfl, rfl, rfl, rfl, rfl, rfl, rfl, rfl, rfl, rfl, rfl, rfl, rfl, rfl, rfl, rfl, rfl, rfl, rfl⟩ := h
          exact hW
      · rw [turn_bad c1 hz c3] at h
        simp only [Prod.mk.injEq] at h
        obtain ⟨rfl, rfl, rfl, rfl, rfl, rfl, rfl, rfl, rfl, rfl, rfl, rfl, rfl, rfl, rfl, rfl, rfl, rfl, rfl, rfl, rfl, rfl⟩ := h
        exact hW
theorem W_loop {fu : Int32} {ir : Int32} {ev : Int32} {cn : Int32} {lc : Nat → Int32} {fv : Nat → Int32} {ur : Nat → Int32} {ln : Nat → Int32} {po : Nat → Int32} {pa : Nat → Int32} {pb : Nat → Int32} (hlc1 : ∀ j, 0 ≤ lc j) (hlc2 : ∀ j, lc j ≤ 15) (hir1 : 1 ≤ ev → 0 ≤ ir) (hir2 : 1 ≤ ev → ir < cn) : ∀ (n : Nat) (z : (Nat → Int32) × (Nat → Int32) × (Nat → Int32) × (Nat → Int32) × (Nat → Int32) × (Nat → Int32) × (Nat → Int32) × (Nat → Int32) × (Nat → Int32) × Int32 × Int32 × Int32 × Int32 × Int32 × Int32 × Int32 × Int32 × Int32 × Int32 × Int32 × Int32 × Int32), (z.2.2.2.2.2.2.2.2.2.2.2.2.2.2.2.2.1 = 0 → Inv cn z.2.2.2.2.2.2.2.2.2.1 z.2.2.2.2.2.2.2.2.2.2.2.1 z.2.2.2.2.2.2.2.2.2.2.2.2.1 lc z.2.1 z.2.2.2.1 z.2.2.2.2.1 z.2.2.2.2.2.2.1 z.2.2.2.2.2.2.2.1 ur) → WI cn z.2.1 z.2.2.2.1 z.2.2.2.2.1 z.2.2.2.2.2.2.1 z.2.2.2.2.2.2.2.1 ur → WI cn (g_loop fu ir ev cn lc fv ur ln po pa pb n z).2.1 (g_loop fu ir ev cn lc fv ur ln po pa pb n z).2.2.2.1 (g_loop fu ir ev cn lc fv ur ln po pa pb n z).2.2.2.2.1 (g_loop fu ir ev cn lc fv ur ln po pa pb n z).2.2.2.2.2.2.1 (g_loop fu ir ev cn lc fv ur ln po pa pb n z).2.2.2.2.2.2.2.1 ur := by
  intro n
  induction n with
  | zero =>
    intro z hI hW
    exact hW
  | succ n ih =>
    intro z hI hW
    simp only [g_loop]
    split
    · rename_i he
      exact ih _ (fun he2 => (inv_turn (hI he) hlc1 hlc2 hir1 hir2 rfl he2).1) (W_turn (hI he) hlc1 hlc2 hir1 hir2 rfl)
    · exact hW
