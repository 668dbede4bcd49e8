def Inv (cn op tp iF : Int32) (lc fr fl ba st uc ur : Nat → Int32) : Prop :=
  (1 ≤ op ∧ op ≤ 25) ∧ (0 ≤ tp ∧ tp ≤ 60) ∧ ((∀ j, 0 ≤ ba j) ∧ (∀ j, ba j ≤ 60)) ∧ ba (op - 1).toNatClampNeg ≤ tp ∧ (∀ i : Int32, 2 ≤ i → i ≤ op → ba (i - 2).toNatClampNeg ≤ ba (i - 1).toNatClampNeg) ∧ (iF = 0 ∨ (2 ≤ iF ∧ iF ≤ op)) ∧ (∀ i : Int32, 1 ≤ i → i ≤ op → i = 1 ∨ i = iF ∨ ba (i - 1).toNatClampNeg < 60) ∧ ((∀ j, 0 ≤ fr j) ∧ (∀ j, fr j < cn)) ∧ (∀ i : Int32, 1 ≤ i → i ≤ op → fl (i - 1).toNatClampNeg = lc (fr (i - 1).toNatClampNeg).toNatClampNeg) ∧ ((∀ j, 0 ≤ fl j) ∧ (∀ j, fl j ≤ 15)) ∧ (∀ j, sx (st j) = st j) ∧ ((∀ j, 0 ≤ uc j) ∧ (∀ j, uc j ≤ ur j))
theorem sx_sx (x : Int32) : sx (sx x) = sx x := by simp [sx]
theorem sx_upd {f : Nat → Int32} {k : Nat} {w : Int32} (h : ∀ j, sx (f j) = f j) (hw : sx w = w) : ∀ j, sx (upd f k w j) = upd f k w j := by
  intro j
  simp only [upd]
  split
  · exact hw
  · exact h j
theorem upd_ne {f : Nat → Int32} {x y v : Int32} (hx : 0 ≤ x) (hy : 0 ≤ y) (h : ¬ x = y) : upd f y.toNatClampNeg v x.toNatClampNeg = f x.toNatClampNeg := by
  simp only [upd]
  rw [if_neg (fun q => h (cl_inj hx hy q))]
theorem upd_all {f : Nat → Int32} {P : Int32 → Prop} {k : Nat} {w : Int32} (h : ∀ j, P (f j)) (hw : P w) : ∀ j, P (upd f k w j) := by
  intro j
  simp only [upd]
  split
  · exact hw
  · exact h j
section IV
variable {cn op tp iF en rs mx k r w o : Int32} {lc fr fl ba st uc ur un vs pl fv gc : Nat → Int32}
theorem Inv_st {tp' : Int32} {st' : Nat → Int32} (hI : Inv cn op tp iF lc fr fl ba st uc ur) (h1 : 0 ≤ tp') (h2 : tp' ≤ 60) (h3 : ba (op - 1).toNatClampNeg ≤ tp') (h4 : ∀ j, sx (st' j) = st' j) : Inv cn op tp' iF lc fr fl ba st' uc ur := by
  obtain ⟨a1, a2, a3, a4, a5, a6, a7, a8, a9, a10, a11, a12⟩ := hI
  exact ⟨a1, ⟨h1, h2⟩, a3, h3, a5, a6, a7, a8, a9, a10, h4, a12⟩
theorem A_push (hI : Inv cn op tp iF lc fr fl ba st uc ur) (h : (f_push k st tp).1 = 0) : Inv cn op (f_push k st tp).2.2 iF lc fr fl ba (f_push k st tp).2.1 uc ur := by
  by_cases e : tp = 60
  · simp [f_push, e] at h
  · simp only [f_push, if_neg e]
    have hI2 := hI
    obtain ⟨a1, a2, a3, a4, a5, a6, a7, a8, a9, a10, a11, a12⟩ := hI2
    exact Inv_st hI (by grind) (by grind) (by grind) (sx_upd a11 (sx_sx _))
theorem A_load (hI : Inv cn op tp iF lc fr fl ba st uc ur) (h : (f_load k op tp fl vs st).1 = 0) : Inv cn op (f_load k op tp fl vs st).2.2 iF lc fr fl ba (f_load k op tp fl vs st).2.1 uc ur := by
  by_cases e : 0 ≤ k ∧ k < fl (op - 1).toNatClampNeg
  · simp only [f_load, if_pos e] at h ⊢
    exact A_push hI h
  · simp only [f_load, if_neg e] at h ⊢
    exact absurd h (by decide)
theorem A_dup (hI : Inv cn op tp iF lc fr fl ba st uc ur) (h : (f_dup op tp ba st).1 = 0) : Inv cn op (f_dup op tp ba st).2.2 iF lc fr fl ba (f_dup op tp ba st).2.1 uc ur := by
  by_cases e : tp - ba (op - 1).toNatClampNeg < 1
  · simp only [f_dup, if_pos e] at h ⊢
    exact absurd h (by decide)
  · simp only [f_dup, if_neg e] at h ⊢
    exact A_push hI h
theorem sub_le {t b c : Int32} (h1 : 0 ≤ b) (h2 : b ≤ t) (h3 : t ≤ 60) (hc : 0 ≤ c) (h5 : c ≤ t - b) : 0 ≤ t - c ∧ t - c ≤ 60 ∧ b ≤ t - c := by
  have e : t = b + (t - b) := by grind
  have h6 : t - b ≤ 60 := by grind
  have h7 : 0 ≤ t - b := by grind
  generalize t - b = d at *
  subst e
  grind
theorem A_reckon (hI : Inv cn op tp iF lc fr fl ba st uc ur) (h : (f_reckon o op tp ba st).1 = 0) : Inv cn op (f_reckon o op tp ba st).2.2 iF lc fr fl ba (f_reckon o op tp ba st).2.1 uc ur := by
  by_cases e : tp - ba (op - 1).toNatClampNeg < 2
  · simp only [f_reckon, if_pos e] at h ⊢
    exact absurd h (by decide)
  · by_cases e2 : (o = 6 ∨ o = 7) ∧ st (tp - 1).toNatClampNeg = 0
    · simp only [f_reckon, if_neg e, if_pos e2] at h ⊢
      exact absurd h (by decide)
    · simp only [f_reckon, if_neg e, if_neg e2]
      have hI2 := hI
      obtain ⟨a1, a2, a3, a4, a5, a6, a7, a8, a9, a10, a11, a12⟩ := hI2
      have q := sub_le (a3.1 _) a4 a2.2 (c := 1) (by decide) (by grind)
      exact Inv_st hI q.1 q.2.1 q.2.2 (sx_upd a11 (sx_sx _))
theorem A_store (hI : Inv cn op tp iF lc fr fl ba st uc ur) (h : (f_store k op tp fl ba vs st).1 = 0) : Inv cn op (f_store k op tp fl ba vs st).2.2 iF lc fr fl ba st uc ur := by
  by_cases e : tp - ba (op - 1).toNatClampNeg < 1
  · simp only [f_store, if_pos e] at h ⊢
    exact absurd h (by decide)
  · by_cases e2 : 0 ≤ k ∧ k < fl (op - 1).toNatClampNeg
    · simp only [f_store, if_neg e, if_pos e2]
      have hI2 := hI
      obtain ⟨a1, a2, a3, a4, a5, a6, a7, a8, a9, a10, a11, a12⟩ := hI2
      have q := sub_le (a3.1 _) a4 a2.2 (c := 1) (by decide) (by grind)
      exact Inv_st hI q.1 q.2.1 q.2.2 a11
    · simp only [f_store, if_neg e, if_neg e2] at h ⊢
      exact absurd h (by decide)
theorem A_jz (hI : Inv cn op tp iF lc fr fl ba st uc ur) (h : (f_jz k op tp ba pl st).1 = 0) : Inv cn op (f_jz k op tp ba pl st).2.2 iF lc fr fl ba st uc ur := by
  by_cases e : tp - ba (op - 1).toNatClampNeg < 1
  · simp only [f_jz, if_pos e] at h ⊢
    exact absurd h (by decide)
  · simp only [f_jz, if_neg e]
    have hI2 := hI
    obtain ⟨a1, a2, a3, a4, a5, a6, a7, a8, a9, a10, a11, a12⟩ := hI2
    have q := sub_le (a3.1 _) a4 a2.2 (c := 1) (by decide) (by grind)
    exact Inv_st hI q.1 q.2.1 q.2.2 a11
theorem A_drop (hI : Inv cn op tp iF lc fr fl ba st uc ur) (h : (f_drop op tp ba).1 = 0) : Inv cn op (f_drop op tp ba).2 iF lc fr fl ba st uc ur := by
  by_cases e : tp - ba (op - 1).toNatClampNeg < 1
  · simp only [f_drop, if_pos e] at h ⊢
    exact absurd h (by decide)
  · simp only [f_drop, if_neg e]
    have hI2 := hI
    obtain ⟨a1, a2, a3, a4, a5, a6, a7, a8, a9, a10, a11, a12⟩ := hI2
    have q := sub_le (a3.1 _) a4 a2.2 (c := 1) (by decide) (by grind)
    exact Inv_st hI q.1 q.2.1 q.2.2 a11
theorem Inv_close (hI : Inv cn op tp iF lc fr fl ba st uc ur) (hk1 : 1 ≤ k) (hk2 : k ≤ op) (hk3 : iF ≤ k) (hw : sx w = w) (h : (f_close k w iF en rs ba st).2.2.2.1 = 0) : Inv cn (f_close k w iF en rs ba st).1 (f_close k w iF en rs ba st).2.1 (f_close k w iF en rs ba st).2.2.1 lc fr fl ba (f_close k w iF en rs ba st).2.2.2.2.2 uc ur := by
  by_cases e : k = 1
  · simp only [f_close, if_pos e] at h
    exact absurd h (by decide)
  · have k2 : 2 ≤ k := by grind
    obtain ⟨a1, a2, a3, a4, a5, a6, a7, a8, a9, a10, a11, a12⟩ := hI
    have m1 := a5 k k2 hk2
    have m2 : (k - 1 - 1) = k - 2 := by grind
    by_cases e2 : k = iF
    · simp only [f_close, if_neg e, if_pos e2]
      refine ⟨by grind, ⟨a3.1 _, a3.2 _⟩, a3, by rw [m2]; exact m1, fun i h1 h2 => a5 i h1 (by grind), Or.inl rfl, fun i h1 h2 => ?_, a8, fun i h1 h2 => a9 i h1 (by grind), a10, a11, a12⟩
      rcases a7 i h1 (by grind) with q | q | q
      · exact Or.inl q
      · exact absurd q (by grind)
      · exact Or.inr (Or.inr q)
    · simp only [f_close, if_neg e, if_neg e2]
      have q7 : ba (k - 1).toNatClampNeg < 60 := by
        rcases a7 k hk1 hk2 with q | q | q
        · exact absurd q e
        · exact absurd q e2
        · exact q
      have q8 := a3.1 (k - 1).toNatClampNeg
      refine ⟨by grind, by grind, a3, by rw [m2]; grind, fun i h1 h2 => a5 i h1 (by grind), by grind, fun i h1 h2 => a7 i h1 (by grind), a8, fun i h1 h2 => a9 i h1 (by grind), a10, sx_upd a11 hw, a12⟩
theorem A_ret (hI : Inv cn op tp iF lc fr fl ba st uc ur) (h : (f_ret op tp iF en rs ba st).1 = 0) (h2 : (f_ret op tp iF en rs ba st).2.2.2.2.1 = 0) : Inv cn (f_ret op tp iF en rs ba st).2.1 (f_ret op tp iF en rs ba st).2.2.1 (f_ret op tp iF en rs ba st).2.2.2.1 lc fr fl ba (f_ret op tp iF en rs ba st).2.2.2.2.2.2 uc ur := by
  by_cases e : tp - ba (op - 1).toNatClampNeg < 1
  · simp only [f_ret, if_pos e] at h
    exact absurd h (by decide)
  · simp only [f_ret, if_neg e] at h2 ⊢
    have hI2 := hI
    obtain ⟨a1, a2, a3, a4, a5, a6, a7, a8, a9, a10, a11, a12⟩ := hI2
    exact Inv_close hI a1.1 (Int32.le_refl _) (by grind) (a11 _) h2
theorem A_thr (hI : Inv cn op tp iF lc fr fl ba st uc ur) (h : (f_thr op tp iF en rs ba st).1 = 0) (h2 : (f_thr op tp iF en rs ba st).2.2.2.2.1 = 0) : Inv cn (f_thr op tp iF en rs ba st).2.1 (f_thr op tp iF en rs ba st).2.2.1 (f_thr op tp iF en rs ba st).2.2.2.1 lc fr fl ba (f_thr op tp iF en rs ba st).2.2.2.2.2.2 uc ur := by
  by_cases e : tp - ba (op - 1).toNatClampNeg < 2
  · simp only [f_thr, if_pos e] at h
    exact absurd h (by decide)
  · by_cases e2 : st (tp - 2).toNatClampNeg < 1 ∨ st (tp - 2).toNatClampNeg < iF ∨ op < st (tp - 2).toNatClampNeg
    · simp only [f_thr, if_neg e, if_pos e2] at h
      exact absurd h (by decide)
    · simp only [f_thr, if_neg e, if_neg e2] at h2 ⊢
      have hI2 := hI
      obtain ⟨a1, a2, a3, a4, a5, a6, a7, a8, a9, a10, a11, a12⟩ := hI2
      exact Inv_close hI (by grind) (by grind) (by grind) (a11 _) h2
theorem Inv_open {tp' iF' : Int32} (hI : Inv cn op tp iF lc fr fl ba st uc ur) (hlc1 : ∀ j, 0 ≤ lc j) (hlc2 : ∀ j, lc j ≤ 15) (ho : op ≤ 24) (hr1 : 0 ≤ r) (hr2 : r < cn) (h1 : 0 ≤ tp') (h2 : tp' ≤ 60) (h3 : ba (op - 1).toNatClampNeg ≤ tp') (hF : (iF' = iF ∧ tp' < 60) ∨ (iF = 0 ∧ iF' = op + 1)) : Inv cn (op + 1) tp' iF' lc (upd fr op.toNatClampNeg r) (upd fl op.toNatClampNeg (lc r.toNatClampNeg)) (upd ba op.toNatClampNeg tp') st uc ur := by
  obtain ⟨a1, a2, a3, a4, a5, a6, a7, a8, a9, a10, a11, a12⟩ := hI
  refine ⟨by grind, ⟨h1, h2⟩, ⟨upd_all a3.1 h1, upd_all (P := fun z => z ≤ 60) a3.2 h2⟩, by rw [as1, upd_s]; exact Int32.le_refl _, fun i g1 g2 => ?_, by grind, fun i g1 g2 => ?_, ⟨upd_all a8.1 hr1, upd_all (P := fun z => z < cn) a8.2 hr2⟩, fun i g1 g2 => ?_, ⟨upd_all a10.1 (hlc1 _), upd_all (P := fun z => z ≤ 15) a10.2 (hlc2 _)⟩, a11, a12⟩
  · rw [upd_ne (x := i - 2) (by grind) (by grind) (by grind)]
    by_cases q : i = op + 1
    · rw [q, as1, upd_s]
      have q2 : op + 1 - 2 = op - 1 := by grind
      rw [q2]
      exact h3
    · rw [upd_ne (x := i - 1) (by grind) (by grind) (by grind)]
      exact a5 i g1 (by grind)
  · by_cases q : i = op + 1
    · rw [q, as1, upd_s]
      grind
    · rw [upd_ne (x := i - 1) (by grind) (by grind) (by grind)]
      have := a7 i g1 (by grind)
      grind
  · by_cases q : i = op + 1
    · rw [q, as1, upd_s, upd_s]
    · rw [upd_ne (x := i - 1) (by grind) (by grind) (by grind), upd_ne (x := i - 1) (by grind) (by grind) (by grind)]
      exact a9 i g1 (by grind)
theorem A_call (hI : Inv cn op tp iF lc fr fl ba st uc ur) (hlc1 : ∀ j, 0 ≤ lc j) (hlc2 : ∀ j, lc j ≤ 15) (h : (f_call r k cn op mx tp lc fv fr pl gc fl ba vs st).1 = 0) : Inv cn (f_call r k cn op mx tp lc fv fr pl gc fl ba vs st).2.1 (f_call r k cn op mx tp lc fv fr pl gc fl ba vs st).2.2.2.1 iF lc (f_call r k cn op mx tp lc fv fr pl gc fl ba vs st).2.2.2.2.1 (f_call r k cn op mx tp lc fv fr pl gc fl ba vs st).2.2.2.2.2.2.2.1 (f_call r k cn op mx tp lc fv fr pl gc fl ba vs st).2.2.2.2.2.2.2.2.1 st uc ur := by
  by_cases e : k < 0 ∨ 15 < k ∨ tp - ba (op - 1).toNatClampNeg < k
  · simp only [f_call, if_pos e] at h
    exact absurd h (by decide)
  · by_cases e2 : ¬ (0 ≤ r ∧ r < cn)
    · simp only [f_call, if_neg e, if_pos e2] at h
      exact absurd h (by decide)
    · by_cases e3 : op = 25
      · simp only [f_call, if_neg e, if_neg e2, if_pos e3] at h
        exact absurd h (by decide)
      · by_cases e4 : tp - k = 60
        · simp only [f_call, if_neg e, if_neg e2, if_neg e3, if_pos e4] at h
          exact absurd h (by decide)
        · simp only [f_call, if_neg e, if_neg e2, if_neg e3, if_neg e4]
          have hI2 := hI
          obtain ⟨a1, a2, a3, a4, a5, a6, a7, a8, a9, a10, a11, a12⟩ := hI2
          have q := sub_le (a3.1 _) a4 a2.2 (c := k) (by grind) (by grind)
          exact Inv_open hI hlc1 hlc2 (by grind) (by grind) (by grind) q.1 q.2.1 q.2.2 (Or.inl ⟨rfl, by grind⟩)
theorem A_tou (hI : Inv cn op tp iF lc fr fl ba st uc ur) (h : (f_tou r op tp ba st ur uc un).1 = 0) : Inv cn op tp iF lc fr fl ba (f_tou r op tp ba st ur uc un).2.1 (f_tou r op tp ba st ur uc un).2.2.1 ur := by
  obtain ⟨a1, a2, a3, a4, a5, a6, a7, a8, a9, a10, a11, a12⟩ := hI
  by_cases e : tp - ba (op - 1).toNatClampNeg < 1
  · simp only [f_tou, if_pos e] at h
    exact absurd h (by decide)
  · by_cases e2 : ¬ (0 ≤ r ∧ r < 4)
    · simp only [f_tou, if_neg e, if_pos e2] at h
      exact absurd h (by decide)
    · by_cases e3 : uc r.toNatClampNeg < ur r.toNatClampNeg
      · simp only [f_tou, if_neg e, if_neg e2, if_pos e3]
        have q1 := a12.1 r.toNatClampNeg
        refine ⟨a1, a2, a3, a4, a5, a6, a7, a8, a9, a10, sx_upd a11 (sx_sx _), upd_all a12.1 (by grind), fun j => ?_⟩
        simp only [upd]
        split
        · rename_i hj
          rw [hj]
          grind
        · exact a12.2 j
      · simp only [f_tou, if_neg e, if_neg e2, if_neg e3]
        exact ⟨a1, a2, a3, a4, a5, a6, a7, a8, a9, a10, sx_upd a11 (sx_sx _), a12⟩
theorem A_fru (hI : Inv cn op tp iF lc fr fl ba st uc ur) (h : (f_fru r tp st uc un).1 = 0) : Inv cn op (f_fru r tp st uc un).2.2.1 iF lc fr fl ba (f_fru r tp st uc un).2.1 (f_fru r tp st uc un).2.2.2 ur := by
  obtain ⟨a1, a2, a3, a4, a5, a6, a7, a8, a9, a10, a11, a12⟩ := hI
  by_cases e : ¬ (0 ≤ r ∧ r < 4)
  · simp only [f_fru, if_pos e] at h
    exact absurd h (by decide)
  · by_cases e2 : ¬ 0 < uc r.toNatClampNeg
    · simp only [f_fru, if_neg e, if_pos e2] at h
      exact absurd h (by decide)
    · by_cases e3 : tp = 60
      · simp only [f_fru, if_neg e, if_neg e2, if_pos e3] at h
        exact absurd h (by decide)
      · simp only [f_fru, if_neg e, if_neg e2, if_neg e3]
        refine ⟨a1, by grind, a3, by grind, a5, a6, a7, a8, a9, a10, sx_upd a11 (sx_sx _), upd_all a12.1 (by grind), fun j => ?_⟩
        simp only [upd]
        split
        · rename_i hj
          rw [hj]
          have := a12.2 r.toNatClampNeg
          grind
        · exact a12.2 j
theorem f_ret_bad (h : ¬ (f_ret op tp iF en rs ba st).1 = 0) : (f_ret op tp iF en rs ba st).2.1 = op ∧ (f_ret op tp iF en rs ba st).2.2.2.1 = iF ∧ (f_ret op tp iF en rs ba st).2.2.2.2.1 = en := by
  by_cases e : tp - ba (op - 1).toNatClampNeg < 1
  · simp [f_ret, if_pos e]
  · exact absurd (by simp only [f_ret, if_neg e]) h
theorem f_thr_bad (h : ¬ (f_thr op tp iF en rs ba st).1 = 0) : (f_thr op tp iF en rs ba st).2.1 = op ∧ (f_thr op tp iF en rs ba st).2.2.2.1 = iF ∧ (f_thr op tp iF en rs ba st).2.2.2.2.1 = en := by
  by_cases e : tp - ba (op - 1).toNatClampNeg < 2
  · simp [f_thr, if_pos e]
  · by_cases e2 : st (tp - 2).toNatClampNeg < 1 ∨ st (tp - 2).toNatClampNeg < iF ∨ op < st (tp - 2).toNatClampNeg
    · simp [f_thr, if_neg e, if_pos e2]
    · exact absurd (by simp only [f_thr, if_neg e, if_neg e2]) h
theorem f_close_iF (h : iF = 0) : (f_close k w iF en rs ba st).2.2.1 = 0 := by
  simp only [f_close]
  split
  · exact h
  · split
    · rfl
    · exact h
theorem f_ret_iF (h : iF = 0) : (f_ret op tp iF en rs ba st).2.2.2.1 = 0 := by
  by_cases e : tp - ba (op - 1).toNatClampNeg < 1
  · simp only [f_ret, if_pos e]; exact h
  · simp only [f_ret, if_neg e]
    exact f_close_iF h
theorem f_thr_iF (h : iF = 0) : (f_thr op tp iF en rs ba st).2.2.2.1 = 0 := by
  by_cases e : tp - ba (op - 1).toNatClampNeg < 2
  · simp only [f_thr, if_pos e]; exact h
  · by_cases e2 : st (tp - 2).toNatClampNeg < 1 ∨ st (tp - 2).toNatClampNeg < iF ∨ op < st (tp - 2).toNatClampNeg
    · simp only [f_thr, if_neg e, if_pos e2]; exact h
    · simp only [f_thr, if_neg e, if_neg e2]
      exact f_close_iF h
theorem f_call_bad (h : ¬ (f_call r k cn op mx tp lc fv fr pl gc fl ba vs st).1 = 0) : (f_call r k cn op mx tp lc fv fr pl gc fl ba vs st).2.1 = op := by
  simp only [f_call] at h ⊢
  split
  · rfl
  · split
    · rfl
    · split
      · rfl
      · split
        · rfl
        · rename_i h1 h2 h3 h4
          rw [if_neg h1, if_neg h2, if_neg h3, if_neg h4] at h
          exact absurd rfl h
theorem inv_op {a1 b1 v : Int32} {pl' : Nat → Int32} {fr' : Nat → Int32} {gc' : Nat → Int32} {fl' : Nat → Int32} {ba' : Nat → Int32} {vs' : Nat → Int32} {st' : Nat → Int32} {uc' : Nat → Int32} {un' : Nat → Int32} {op' : Int32} {mx' : Int32} {tp' : Int32} {iF' : Int32} {en' : Int32} {rs' : Int32} (hI : Inv cn op tp iF lc fr fl ba st uc ur) (hlc1 : ∀ j, 0 ≤ lc j) (hlc2 : ∀ j, lc j ≤ 15) (h : (v, pl', fr', gc', fl', ba', vs', st', uc', un', op', mx', tp', iF', en', rs') = f_op o a1 b1 cn op mx tp iF en rs pl fr gc fl ba vs st uc un lc fv ur) : (¬ v = 0 → op' = op ∧ iF' = iF ∧ en' = en) ∧ (v = 0 → en' = 0 → Inv cn op' tp' iF' lc fr' fl' ba' st' uc' ur) ∧ (iF = 0 → iF' = 0) := by
  by_cases ho : o < 0 ∨ 19 < o
  · rw [f_op_o ho] at h
    simp only [Prod.mk.injEq] at h
    obtain ⟨rfl, rfl, rfl, rfl, rfl, rfl, rfl, rfl, rfl, rfl, rfl, rfl, rfl, rfl, rfl, rfl⟩ := h
    exact ⟨fun _ => ⟨rfl, rfl, rfl⟩, fun h => absurd h (by decide), fun h => h⟩
  by_cases h0 : o = 0
  · rw [h0, f_op_0] at h
    simp only [Prod.mk.injEq] at h
    obtain ⟨rfl, rfl, rfl, rfl, rfl, rfl, rfl, rfl, rfl, rfl, rfl, rfl, rfl, rfl, rfl, rfl⟩ := h
    exact ⟨fun _ => ⟨rfl, rfl, rfl⟩, fun h1 h2 => A_push hI h1, fun h => h⟩
  by_cases h1 : o = 1
  · rw [h1, f_op_1] at h
    simp only [Prod.mk.injEq] at h
    obtain ⟨rfl, rfl, rfl, rfl, rfl, rfl, rfl, rfl, rfl, rfl, rfl, rfl, rfl, rfl, rfl, rfl⟩ := h
    exact ⟨fun _ => ⟨rfl, rfl, rfl⟩, fun h1 h2 => A_load hI h1, fun h => h⟩
  by_cases h2 : o = 2
  · rw [h2, f_op_2] at h
    simp only [Prod.mk.injEq] at h
    obtain ⟨rfl, rfl, rfl, rfl, rfl, rfl, rfl, rfl, rfl, rfl, rfl, rfl, rfl, rfl, rfl, rfl⟩ := h
    exact ⟨fun _ => ⟨rfl, rfl, rfl⟩, fun h1 h2 => A_store hI h1, fun h => h⟩
  by_cases h3 : o = 3
  · rw [h3, f_op_3] at h
    simp only [Prod.mk.injEq] at h
    obtain ⟨rfl, rfl, rfl, rfl, rfl, rfl, rfl, rfl, rfl, rfl, rfl, rfl, rfl, rfl, rfl, rfl⟩ := h
    exact ⟨fun _ => ⟨rfl, rfl, rfl⟩, fun h1 h2 => A_reckon hI h1, fun h => h⟩
  by_cases h4 : o = 4
  · rw [h4, f_op_4] at h
    simp only [Prod.mk.injEq] at h
    obtain ⟨rfl, rfl, rfl, rfl, rfl, rfl, rfl, rfl, rfl, rfl, rfl, rfl, rfl, rfl, rfl, rfl⟩ := h
    exact ⟨fun _ => ⟨rfl, rfl, rfl⟩, fun h1 h2 => A_reckon hI h1, fun h => h⟩
  by_cases h5 : o = 5
  · rw [h5, f_op_5] at h
    simp only [Prod.mk.injEq] at h
    obtain ⟨rfl, rfl, rfl, rfl, rfl, rfl, rfl, rfl, rfl, rfl, rfl, rfl, rfl, rfl, rfl, rfl⟩ := h
    exact ⟨fun _ => ⟨rfl, rfl, rfl⟩, fun h1 h2 => A_reckon hI h1, fun h => h⟩
  by_cases h6 : o = 6
  · rw [h6, f_op_6] at h
    simp only [Prod.mk.injEq] at h
    obtain ⟨rfl, rfl, rfl, rfl, rfl, rfl, rfl, rfl, rfl, rfl, rfl, rfl, rfl, rfl, rfl, rfl⟩ := h
    exact ⟨fun _ => ⟨rfl, rfl, rfl⟩, fun h1 h2 => A_reckon hI h1, fun h => h⟩
  by_cases h7 : o = 7
  · rw [h7, f_op_7] at h
    simp only [Prod.mk.injEq] at h
    obtain ⟨rfl, rfl, rfl, rfl, rfl, rfl, rfl, rfl, rfl, rfl, rfl, rfl, rfl, rfl, rfl, rfl⟩ := h
    exact ⟨fun _ => ⟨rfl, rfl, rfl⟩, fun h1 h2 => A_reckon hI h1, fun h => h⟩
  by_cases h8 : o = 8
  · rw [h8, f_op_8] at h
    simp only [Prod.mk.injEq] at h
    obtain ⟨rfl, rfl, rfl, rfl, rfl, rfl, rfl, rfl, rfl, rfl, rfl, rfl, rfl, rfl, rfl, rfl⟩ := h
    exact ⟨fun _ => ⟨rfl, rfl, rfl⟩, fun h1 h2 => A_jz hI h1, fun h => h⟩
  by_cases h9 : o = 9
  · rw [h9, f_op_9] at h
    simp only [Prod.mk.injEq] at h
    obtain ⟨rfl, rfl, rfl, rfl, rfl, rfl, rfl, rfl, rfl, rfl, rfl, rfl, rfl, rfl, rfl, rfl⟩ := h
    exact ⟨fun h => absurd rfl h, fun _ _ => hI, fun h => h⟩
  by_cases h10 : o = 10
  · rw [h10, f_op_10] at h
    simp only [Prod.mk.injEq] at h
    obtain ⟨rfl, rfl, rfl, rfl, rfl, rfl, rfl, rfl, rfl, rfl, rfl, rfl, rfl, rfl, rfl, rfl⟩ := h
    exact ⟨fun h => ⟨f_call_bad h, rfl, rfl⟩, fun h1 h2 => A_call hI hlc1 hlc2 h1, fun h => h⟩
  by_cases h11 : o = 11
  · rw [h11, f_op_11] at h
    simp only [Prod.mk.injEq] at h
    obtain ⟨rfl, rfl, rfl, rfl, rfl, rfl, rfl, rfl, rfl, rfl, rfl, rfl, rfl, rfl, rfl, rfl⟩ := h
    exact ⟨f_ret_bad, fun h1 h2 => A_ret hI h1 h2, f_ret_iF⟩
  by_cases h12 : o = 12
  · rw [h12, f_op_12] at h
    simp only [Prod.mk.injEq] at h
    obtain ⟨rfl, rfl, rfl, rfl, rfl, rfl, rfl, rfl, rfl, rfl, rfl, rfl, rfl, rfl, rfl, rfl⟩ := h
    exact ⟨fun _ => ⟨rfl, rfl, rfl⟩, fun h1 h2 => A_push hI h1, fun h => h⟩
  by_cases h13 : o = 13
  · rw [h13, f_op_13] at h
    simp only [Prod.mk.injEq] at h
    obtain ⟨rfl, rfl, rfl, rfl, rfl, rfl, rfl, rfl, rfl, rfl, rfl, rfl, rfl, rfl, rfl, rfl⟩ := h
    exact ⟨f_thr_bad, fun h1 h2 => A_thr hI h1 h2, f_thr_iF⟩
  by_cases h14 : o = 14
  · rw [h14, f_op_14] at h
    simp only [Prod.mk.injEq] at h
    obtain ⟨rfl, rfl, rfl, rfl, rfl, rfl, rfl, rfl, rfl, rfl, rfl, rfl, rfl, rfl, rfl, rfl⟩ := h
    exact ⟨fun _ => ⟨rfl, rfl, rfl⟩, fun h1 h2 => A_push hI h1, fun h => h⟩
  by_cases h15 : o = 15
  · rw [h15, f_op_15] at h
    simp only [Prod.mk.injEq] at h
    obtain ⟨rfl, rfl, rfl, rfl, rfl, rfl, rfl, rfl, rfl, rfl, rfl, rfl, rfl, rfl, rfl, rfl⟩ := h
    exact ⟨fun _ => ⟨rfl, rfl, rfl⟩, fun h1 h2 => A_tou hI h1, fun h => h⟩
  by_cases h16 : o = 16
  · rw [h16, f_op_16] at h
    simp only [Prod.mk.injEq] at h
    obtain ⟨rfl, rfl, rfl, rfl, rfl, rfl, rfl, rfl, rfl, rfl, rfl, rfl, rfl, rfl, rfl, rfl⟩ := h
    exact ⟨fun _ => ⟨rfl, rfl, rfl⟩, fun h1 h2 => A_fru hI h1, fun h => h⟩
  by_cases h17 : o = 17
  · rw [h17, f_op_17] at h
    simp only [Prod.mk.injEq] at h
    obtain ⟨rfl, rfl, rfl, rfl, rfl, rfl, rfl, rfl, rfl, rfl, rfl, rfl, rfl, rfl, rfl, rfl⟩ := h
    exact ⟨fun _ => ⟨rfl, rfl, rfl⟩, fun h1 h2 => A_dup hI h1, fun h => h⟩
  by_cases h18 : o = 18
  · rw [h18, f_op_18] at h
    simp only [Prod.mk.injEq] at h
    obtain ⟨rfl, rfl, rfl, rfl, rfl, rfl, rfl, rfl, rfl, rfl, rfl, rfl, rfl, rfl, rfl, rfl⟩ := h
    exact ⟨fun _ => ⟨rfl, rfl, rfl⟩, fun h1 h2 => A_drop hI h1, fun h => h⟩
  have h19 : o = 19 := by grind
  · rw [h19, f_op_19] at h
    simp only [Prod.mk.injEq] at h
    obtain ⟨rfl, rfl, rfl, rfl, rfl, rfl, rfl, rfl, rfl, rfl, rfl, rfl, rfl, rfl, rfl, rfl⟩ := h
    exact ⟨fun _ => ⟨rfl, rfl, rfl⟩, fun h1 h2 => A_reckon hI h1, fun h => h⟩
theorem inv_oper {v : Int32} {ln po pa pb : Nat → Int32} {pl' : Nat → Int32} {fr' : Nat → Int32} {gc' : Nat → Int32} {fl' : Nat → Int32} {ba' : Nat → Int32} {vs' : Nat → Int32} {st' : Nat → Int32} {uc' : Nat → Int32} {un' : Nat → Int32} {op' : Int32} {mx' : Int32} {tp' : Int32} {iF' : Int32} {en' : Int32} {rs' : Int32} (hI : Inv cn op tp iF lc fr fl ba st uc ur) (hlc1 : ∀ j, 0 ≤ lc j) (hlc2 : ∀ j, lc j ≤ 15) (h : (v, pl', fr', gc', fl', ba', vs', st', uc', un', op', mx', tp', iF', en', rs') = f_oper r k cn op mx tp iF en rs pl fr gc fl ba vs st uc un lc fv ur ln po pa pb) : (¬ v = 0 → op' = op ∧ iF' = iF ∧ en' = en) ∧ (v = 0 → en' = 0 → Inv cn op' tp' iF' lc fr' fl' ba' st' uc' ur) ∧ (iF = 0 → iF' = 0) := by
  by_cases e : 0 ≤ k ∧ k < ln r.toNatClampNeg
  · simp only [f_oper, if_pos e] at h
    exact inv_op hI hlc1 hlc2 h
  · simp only [f_oper, if_neg e, Prod.mk.injEq] at h
    obtain ⟨rfl, rfl, rfl, rfl, rfl, rfl, rfl, rfl, rfl, rfl, rfl, rfl, rfl, rfl, rfl, rfl⟩ := h
    exact ⟨fun _ => ⟨rfl, rfl, rfl⟩, fun h => absurd h (by decide), fun h => h⟩
end IV
