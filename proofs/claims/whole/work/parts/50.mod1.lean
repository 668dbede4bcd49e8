theorem in_sub {a k x : Int32} (h : 0 ≤ x) : (if a ≤ k ∧ k ≤ x - 1 then (1 : Int32) else 0) = if a ≤ k ∧ k < x then 1 else 0 := by
  have e : k ≤ x - 1 ↔ k < x := by grind
  simp only [e]
theorem mc15 (x : Int32) : 15 * x = x * 15 := Int32.mul_comm _ _
theorem mc24 (x : Int32) : 24 * x = x * 24 := Int32.mul_comm _ _
theorem mc10 (x : Int32) : 10 * x = x * 10 := Int32.mul_comm _ _
theorem q_X9_in_2 {k : Int32} {k2 : Int32} {k3 : Int32} (c_1 : k < k2) : ((0 : Int32) = if k2 ≤ k ∧ k ≤ k3 then 1 else 0) := by
  grind
theorem q_X9_in_4 {k : Int32} {k2 : Int32} {k3 : Int32} (c_1 : ¬ k < k2) (c_3 : k3 < k) : ((0 : Int32) = if k2 ≤ k ∧ k ≤ k3 then 1 else 0) := by
  grind
theorem q_X9_in_5 {k : Int32} {k2 : Int32} {k3 : Int32} (c_1 : ¬ k < k2) (c_3 : ¬ k3 < k) : ((1 : Int32) = if k2 ≤ k ∧ k ≤ k3 then 1 else 0) := by
  grind
set_option maxHeartbeats 4000000 in
set_option maxRecDepth 100000 in
theorem c_X9_in (l : Launch) (dC : Nat → ClassId) (dI : Nat → Nat → Nat) (cI : ClassId) (k : Int32) (k2 : Int32) (k3 : Int32)  : mRd l yX9_in wsX9_in ({ frames := 0, cells := 0, slots := 0, locals := 0 }) [.int k, .int k2, .int k3] (dC, dI) [(cI, .int)] [] (fun v => (v = if k2 ≤ k ∧ k ≤ k3 then 1 else 0)) := by
  refine o_rd (cc := cX9_in) (maxL := 3) (ret := (some .boolean)) (by decide) rfl (Nat.le_of_ble_eq_true rfl) ?_
  intro p e s m below meth c ls hx hb hr hml hts hown hlocks hP hK hl
  have hown : s.vm.findClass RX9 = some m.cls := hown
  have hl : lv_has ls 3 [(0, .int k), (1, .int k2), (2, .int k3)] := hl
  refine lv_iload_n hx hb dX9_in_0 rfl (lv_at hl 0 rfl) ?_
  refine lv_iload_n hx hb dX9_in_1 rfl (lv_at hl 1 rfl) ?_
  refine lv_icmp_lt (tgt := 14) hx hb dX9_in_2 (by decide) (fun c_1 => ?_) (fun c_1 => ?_)
  · skip
    refine lv_iconst (v := 0) hx hb dX9_in_14 (by decide) ?_
    exact e_rdz hx hb hr hlocks dX9_in_15 rfl (q_X9_in_2 c_1)
  · skip
    refine lv_iload_n hx hb dX9_in_5 rfl (lv_at hl 0 rfl) ?_
    refine lv_iload_n hx hb dX9_in_6 rfl (lv_at hl 2 rfl) ?_
    refine lv_icmp_gt (tgt := 14) hx hb dX9_in_7 (by decide) (fun c_3 => ?_) (fun c_3 => ?_)
    · skip
      refine lv_iconst (v := 0) hx hb dX9_in_14 (by decide) ?_
      exact e_rdz hx hb hr hlocks dX9_in_15 rfl (q_X9_in_4 c_1 c_3)
    · skip
      refine lv_iconst (v := 1) hx hb dX9_in_10 (by decide) ?_
      refine lv_goto (tgt := 15) hx hb dX9_in_11 (by decide) ?_
      exact e_rdz hx hb hr hlocks dX9_in_15 rfl (q_X9_in_5 c_1 c_3)

theorem q_X9_isRoutine_2 {cn : Int32} (hcn : 0 ≤ cn) : 0 ≤ cn := by
  grind
theorem q_X9_isRoutine_3 {cn : Int32} {r : Int32} {r_1 : Int32} (hcn : 0 ≤ cn) (hr_1 : r_1 = if 0 ≤ r ∧ r < cn then 1 else 0) : (r_1 = if 0 ≤ r ∧ r < cn then 1 else 0) := by
  grind
theorem q_X9_isRoutine_4 {cn : Int32} {r : Int32} {r_1 : Int32} (hcn : 0 ≤ cn) (hr_1 : r_1 = if 0 ≤ r ∧ r < cn then 1 else 0) : narrow .boolean (.int r_1) = .int r_1 := by
  rcases (show r_1 = (0 : Int32) ∨ r_1 = (1 : Int32) by grind) with h | h <;> rw [h] <;> rfl
set_option maxHeartbeats 4000000 in
set_option maxRecDepth 100000 in
theorem c_X9_isRoutine (l : Launch) (dC : Nat → ClassId) (dI : Nat → Nat → Nat) (cI : ClassId) (aX : Nat) (m0 : Nat) (m1 : Nat) (m2 : Nat) (m3 : Nat) (m4 : Nat) (m5 : Nat) (m6 : Nat) (m7 : Nat) (m8 : Nat) (m9 : Nat) (m10 : Nat) (m11 : Nat) (m12 : Nat) (m13 : Nat) (m14 : Nat) (m15 : Nat) (cn : Int32) (op : Int32) (mx : Int32) (tp : Int32) (fa : Int32) (ro : Int32) (pp : Int32) (fm : Int32) (sp : Int32) (it : Int32) (gn : Int32) (mi : Int32) (me : Int32) (mb : Int32) (mv : Int32) (mr : Int32) (mf : Int32) (md : Int32) (mw : Int32) (r : Int32) (hcn : 0 ≤ cn) : mRd l yX9_isRoutine wsX9_isRoutine ({ frames := 1, cells := 0, slots := 0, locals := 22 }) [.ref aX, .int r] (dC, dI) [(cI, .int)] [(aX, .inr (6, [.int cn, .ref m0, .ref m1, .ref m2, .ref m3, .ref m4, .ref m5, .ref m6, .ref m7, .ref m8, .int mi, .int me, .ref m9, .int gn, .ref m10, .ref m11, .ref m12, .ref m13, .ref m14, .int op, .ref m15, .int tp, .int mb, .int mv, .int mr, .int mf, .int md, .int sp, .int mw, .int it, .int mx, .int fa, .int ro, .int pp, .int fm]))] (fun v => (v = if 0 ≤ r ∧ r < cn then 1 else 0)) := by
  refine o_rd (cc := cX9_isRoutine) (maxL := 2) (ret := (some .boolean)) (by decide) rfl (Nat.le_of_ble_eq_true rfl) ?_
  intro p e s m below meth c ls hx hb hr hml hts hown hlocks hP hK hl
  have hown : s.vm.findClass RX9 = some m.cls := hown
  have hl : lv_has ls 2 [(0, .ref aX), (1, .int r)] := hl
  have k_1 := hts (.fieldLink RX9 65 "ZRoutinesModel" "routines" "I") (List.mem_of_getElem? (i := 1) rfl)
  have i_X9 : ∀ w ∈ u_ws RX9 TX9 35, w ∈ wsX9_isRoutine := fun _ h => List.mem_cons_of_mem _ (List.mem_append_right _ h)
  refine lv_iload_n hx hb dX9_isRoutine_0 rfl (lv_at hl 1 rfl) ?_
  refine lv_iconst (v := 0) hx hb dX9_isRoutine_1 (by decide) ?_
  refine lv_aload_n hx hb dX9_isRoutine_2 rfl (lv_at hl 0 rfl) ?_
  refine va_get (D := (dC, dI)) (ci := 6) (v := .int cn) (C := RX9) (T := TX9) (N := 35) hx hb hts i_X9 hown hK hP 0 rfl rfl 0 (by decide) k_1 (fun _ h9 => h9) rfl dX9_isRoutine_3 ?_
  refine lv_iconst (v := 1) hx hb dX9_isRoutine_6 (by decide) ?_
  refine lv_isub hx hb dX9_isRoutine_7 ?_
  refine k_rs (As := [.int r, .int 0, .int (cn - 1)]) (rest := []) ⟨hx, hb, hml, hown, hts⟩ (c_X9_in l dC dI cI r 0 (cn - 1) ) (va_cwS 3 hts gX9_isRoutine_X9_in rfl rfl rfl (by decide +kernel) ⟨Nat.le_of_ble_eq_true rfl, Nat.le_of_ble_eq_true rfl⟩) hK hP [] rfl rfl hl.1 rfl (Nat.le_of_ble_eq_true rfl) dX9_isRoutine_8 ⟨Nat.zero_le _, Nat.zero_le _⟩ (fun r_1 hr_1 => ?_)
  have hr_1 : r_1 = if (0 : Int32) ≤ r ∧ r ≤ (cn - 1) then 1 else 0 := hr_1
  have hr_1 : r_1 = if 0 ≤ r ∧ r < cn then 1 else 0 := hr_1.trans (in_sub (q_X9_isRoutine_2 hcn))
  exact e_rdz hx hb hr hlocks dX9_isRoutine_11 (q_X9_isRoutine_4 hcn hr_1) (q_X9_isRoutine_3 hcn hr_1)

theorem q_X9_routine_4 {cn : Int32} {k : Int32} {r_1 : Int32} (hcn : 0 ≤ cn) (hcn2 : cn ≤ 20) (hr_1 : r_1 = if (0 : Int32) ≤ k ∧ k ≤ (15 : Int32) then 1 else 0) (c_2 : ¬ r_1 = 0) (c_3 : ¬ cn = 20) : vp_in cn 20 := by
  exact in_of (c := 20) (by decide) (by grind) (by grind)
theorem q_X9_routine_5 {lc : Nat → Int32} {cn : Int32} {k : Int32} {r_1 : Int32} (hcn : 0 ≤ cn) (hcn2 : cn ≤ 20) (hr_1 : r_1 = if (0 : Int32) ≤ k ∧ k ≤ (15 : Int32) then 1 else 0) (c_2 : ¬ r_1 = 0) (c_3 : ¬ cn = 20) : ((((cn + 1) - 1), (cn + 1), (upd lc cn.toNatClampNeg k)) = t_routine k cn lc) := by
  (try subst_vars) <;> (try simp only [upd_s, upd_upd, sb1p, as1] at *) <;> simp only [t_routine] <;> grind
theorem q_X9_routine_6 {lc : Nat → Int32} {cn : Int32} {k : Int32} {r_1 : Int32} (hcn : 0 ≤ cn) (hcn2 : cn ≤ 20) (hr_1 : r_1 = if (0 : Int32) ≤ k ∧ k ≤ (15 : Int32) then 1 else 0) (c_2 : ¬ r_1 = 0) (c_3 : cn = 20) : (((-40001 : Int32), cn, lc) = t_routine k cn lc) := by
  (try subst_vars) <;> (try simp only [upd_s, upd_upd, sb1p, as1] at *) <;> simp only [t_routine] <;> grind
theorem q_X9_routine_7 {lc : Nat → Int32} {cn : Int32} {k : Int32} {r_1 : Int32} (hcn : 0 ≤ cn) (hcn2 : cn ≤ 20) (hr_1 : r_1 = if (0 : Int32) ≤ k ∧ k ≤ (15 : Int32) then 1 else 0) (c_2 : r_1 = 0) : (((-40000 : Int32), cn, lc) = t_routine k cn lc) := by
  (try subst_vars) <;> (try simp only [upd_s, upd_upd, sb1p, as1] at *) <;> simp only [t_routine] <;> grind
set_option maxHeartbeats 4000000 in
set_option maxRecDepth 100000 in
theorem c_X9_routine (l : Launch) (dC : Nat → ClassId) (dI : Nat → Nat → Nat) (cI : ClassId) (sz : Nat) (aX : Nat) (m0 : Nat) (m1 : Nat) (m2 : Nat) (m3 : Nat) (m4 : Nat) (m5 : Nat) (m6 : Nat) (m7 : Nat) (m8 : Nat) (m9 : Nat) (m10 : Nat) (m11 : Nat) (m12 : Nat) (m13 : Nat) (m14 : Nat) (m15 : Nat) (lc : Nat → Int32) (cn : Int32) (op : Int32) (mx : Int32) (tp : Int32) (fa : Int32) (ro : Int32) (pp : Int32) (fm : Int32) (sp : Int32) (it : Int32) (gn : Int32) (mi : Int32) (me : Int32) (mb : Int32) (mv : Int32) (mr : Int32) (mf : Int32) (md : Int32) (mw : Int32) (k : Int32) (hcn : 0 ≤ cn) (hcn2 : cn ≤ 20) : mWi l yX9_routine wsX9_routine ({ frames := 1, cells := 0, slots := 0, locals := 22 }) [.ref aX, .int k] (dC, dI) [(cI, .int)] [(aX, .inr (6, [.int cn, .ref m0, .ref m1, .ref m2, .ref m3, .ref m4, .ref m5, .ref m6, .ref m7, .ref m8, .int mi, .int me, .ref m9, .int gn, .ref m10, .ref m11, .ref m12, .ref m13, .ref m14, .int op, .ref m15, .int tp, .int mb, .int mv, .int mr, .int mf, .int md, .int sp, .int mw, .int it, .int mx, .int fa, .int ro, .int pp, .int fm])), (m0, .inl (cI, 20, .inl lc))] sz (fun (v : Int32) (u : (Int32) × (Nat → Int32)) => ((v, u.1, u.2) = t_routine k cn lc)) (fun u : (Int32) × (Nat → Int32) => [(aX, .inr (6, [.int u.1, .ref m0, .ref m1, .ref m2, .ref m3, .ref m4, .ref m5, .ref m6, .ref m7, .ref m8, .int mi, .int me, .ref m9, .int gn, .ref m10, .ref m11, .ref m12, .ref m13, .ref m14, .int op, .ref m15, .int tp, .int mb, .int mv, .int mr, .int mf, .int md, .int sp, .int mw, .int it, .int mx, .int fa, .int ro, .int pp, .int fm])), (m0, .inl (cI, 20, .inl u.2))]) := by
  refine o_wi (cc := cX9_routine) (maxL := 2) (ret := (some .int)) (by decide) rfl (Nat.le_of_ble_eq_true rfl) ?_
  intro p e s m below meth c ls A hx hb hr hml hts hown hlocks hP hK hD hS hA hl
  have hown : s.vm.findClass RX9 = some m.cls := hown
  have hl : lv_has ls 2 [(0, .ref aX), (1, .int k)] := hl
  have k_1 := hts (.fieldLink RX9 65 "ZRoutinesModel" "routines" "I") (List.mem_of_getElem? (i := 2) rfl)
  have k_2 := hts (.fieldLink RX9 7 "ZRoutinesModel" "locals" "[I") (List.mem_of_getElem? (i := 4) rfl)
  have k_3 := hts (.constant RX9 73 (-40001)) (List.mem_of_getElem? (i := 3) rfl)
  have k_4 := hts (.constant RX9 72 (-40000)) (List.mem_of_getElem? (i := 1) rfl)
  have i_X9 : ∀ w ∈ u_ws RX9 TX9 35, w ∈ wsX9_routine := fun _ h => List.mem_cons_of_mem _ (List.mem_append_right _ h)
  refine lv_iload_n hx hb dX9_routine_0 rfl (lv_at hl 1 rfl) ?_
  refine lv_iconst (v := 0) hx hb dX9_routine_1 (by decide) ?_
  refine lv_bipush (v := 15) hx hb dX9_routine_2 (by decide) ?_
  refine k_rs (As := [.int k, .int 0, .int 15]) (rest := []) ⟨hx, hb, hml, hown, hts⟩ (c_X9_in l dC dI cI k 0 15 ) (va_cwS 3 hts gX9_routine_X9_in rfl rfl rfl (by decide +kernel) ⟨Nat.le_of_ble_eq_true rfl, Nat.le_of_ble_eq_true rfl⟩) hK hP [] rfl rfl hl.1 rfl (Nat.le_of_ble_eq_true rfl) dX9_routine_4 ⟨Nat.zero_le _, Nat.zero_le _⟩ (fun r_1 hr_1 => ?_)
  have hr_1 : r_1 = if (0 : Int32) ≤ k ∧ k ≤ (15 : Int32) then 1 else 0 := hr_1
  refine lv_if_ne (tgt := 13) hx hb dX9_routine_7 (by decide) (fun c_2 => ?_) (fun c_2 => ?_)
  · skip
    refine lv_aload_n hx hb dX9_routine_13 rfl (lv_at hl 0 rfl) ?_
    refine va_get (D := (dC, dI)) (ci := 6) (v := .int cn) (C := RX9) (T := TX9) (N := 35) hx hb hts i_X9 hown hK hP 0 rfl rfl 0 (by decide) k_1 (fun _ h9 => h9) rfl dX9_routine_14 ?_
    refine lv_bipush (v := 20) hx hb dX9_routine_17 (by decide) ?_
    refine lv_icmp_ne (tgt := 25) hx hb dX9_routine_19 (by decide) (fun c_3 => ?_) (fun c_3 => ?_)
    · skip
      refine lv_aload_n hx hb dX9_routine_25 rfl (lv_at hl 0 rfl) ?_
      refine va_get (D := (dC, dI)) (ci := 6) (v := .ref m0) (C := RX9) (T := TX9) (N := 35) hx hb hts i_X9 hown hK hP 0 rfl rfl 1 (by decide) k_2 (fun _ h9 => h9) rfl dX9_routine_26 ?_
      refine lv_aload_n hx hb dX9_routine_29 rfl (lv_at hl 0 rfl) ?_
      refine va_get (D := (dC, dI)) (ci := 6) (v := .int cn) (C := RX9) (T := TX9) (N := 35) hx hb hts i_X9 hown hK hP 0 rfl rfl 0 (by decide) k_1 (fun _ h9 => h9) rfl dX9_routine_30 ?_
      refine lv_iload_n hx hb dX9_routine_33 rfl (lv_at hl 1 rfl) ?_
      refine va_iast hx hb hK hP hD hS 1 0 rfl rfl (q_X9_routine_4 hcn hcn2 hr_1 c_2 c_3) dX9_routine_34 (fun H locs hP hD hS => ?_)
      have hP : va_P (dC, dI) vwCl [(aX, .inr (6, [.int cn, .ref m0, .ref m1, .ref m2, .ref m3, .ref m4, .ref m5, .ref m6, .ref m7, .ref m8, .int mi, .int me, .ref m9, .int gn, .ref m10, .ref m11, .ref m12, .ref m13, .ref m14, .int op, .ref m15, .int tp, .int mb, .int mv, .int mr, .int mf, .int md, .int sp, .int mw, .int it, .int mx, .int fa, .int ro, .int pp, .int fm])), (m0, .inl (cI, 20, .inl (upd lc cn.toNatClampNeg k)))] H := hP
      have hD : va_D A [(aX, .inr (6, [.int cn, .ref m0, .ref m1, .ref m2, .ref m3, .ref m4, .ref m5, .ref m6, .ref m7, .ref m8, .int mi, .int me, .ref m9, .int gn, .ref m10, .ref m11, .ref m12, .ref m13, .ref m14, .int op, .ref m15, .int tp, .int mb, .int mv, .int mr, .int mf, .int md, .int sp, .int mw, .int it, .int mx, .int fa, .int ro, .int pp, .int fm])), (m0, .inl (cI, 20, .inl (upd lc cn.toNatClampNeg k)))] := hD
      refine lv_aload_n hx hb dX9_routine_35 rfl (lv_at hl 0 rfl) ?_
      refine lv_dup hx hb dX9_routine_36 rfl ?_
      refine va_get (D := (dC, dI)) (ci := 6) (v := .int cn) (C := RX9) (T := TX9) (N := 35) hx hb hts i_X9 hown hK hP 0 rfl rfl 0 (by decide) k_1 (fun _ h9 => h9) rfl dX9_routine_37 ?_
      refine lv_iconst (v := 1) hx hb dX9_routine_40 (by decide) ?_
      refine lv_iadd hx hb dX9_routine_41 ?_
      refine va_put (D := (dC, dI)) (ci := 6) (v := .int (cn + 1)) (ty := .int) (C := RX9) (T := TX9) (N := 35) hx hb hts i_X9 tyX9 tyX9_ok nmX9 hown hK hP hD hS 0 rfl rfl 0 (by decide) k_1 (fun _ h9 => h9) rfl (by decide +kernel) rfl rfl (Nat.le_of_ble_eq_true rfl) dX9_routine_42 (fun H locs hP hD hS => ?_)
      have hP : va_P (dC, dI) vwCl [(aX, .inr (6, [.int (cn + 1), .ref m0, .ref m1, .ref m2, .ref m3, .ref m4, .ref m5, .ref m6, .ref m7, .ref m8, .int mi, .int me, .ref m9, .int gn, .ref m10, .ref m11, .ref m12, .ref m13, .ref m14, .int op, .ref m15, .int tp, .int mb, .int mv, .int mr, .int mf, .int md, .int sp, .int mw, .int it, .int mx, .int fa, .int ro, .int pp, .int fm])), (m0, .inl (cI, 20, .inl (upd lc cn.toNatClampNeg k)))] H := hP
      have hD : va_D A [(aX, .inr (6, [.int (cn + 1), .ref m0, .ref m1, .ref m2, .ref m3, .ref m4, .ref m5, .ref m6, .ref m7, .ref m8, .int mi, .int me, .ref m9, .int gn, .ref m10, .ref m11, .ref m12, .ref m13, .ref m14, .int op, .ref m15, .int tp, .int mb, .int mv, .int mr, .int mf, .int md, .int sp, .int mw, .int it, .int mx, .int fa, .int ro, .int pp, .int fm])), (m0, .inl (cI, 20, .inl (upd lc cn.toNatClampNeg k)))] := hD
      refine lv_aload_n hx hb dX9_routine_45 rfl (lv_at hl 0 rfl) ?_
      refine va_get (D := (dC, dI)) (ci := 6) (v := .int (cn + 1)) (C := RX9) (T := TX9) (N := 35) hx hb hts i_X9 hown hK hP 0 rfl rfl 0 (by decide) k_1 (fun _ h9 => h9) rfl dX9_routine_46 ?_
      refine lv_iconst (v := 1) hx hb dX9_routine_49 (by decide) ?_
      refine lv_isub hx hb dX9_routine_50 ?_
      exact e_wi hx hb hr hlocks dX9_routine_51 hK hS ((cn + 1), upd lc cn.toNatClampNeg k) hP hD (q_X9_routine_5 hcn hcn2 hr_1 c_2 c_3)
    · skip
      refine lv_ldc (v := (-40001)) hx hb hown k_3 dX9_routine_22 ?_
      exact e_wi hx hb hr hlocks dX9_routine_24 hK hS (cn, lc) hP hD (q_X9_routine_6 hcn hcn2 hr_1 c_2 c_3)
  · skip
    refine lv_ldc (v := (-40000)) hx hb hown k_4 dX9_routine_10 ?_
    exact e_wi hx hb hr hlocks dX9_routine_12 hK hS (cn, lc) hP hD (q_X9_routine_7 hcn hcn2 hr_1 c_2)

theorem q_X9_first_1 {lc : Nat → Int32} {cn : Int32} (hcn : 0 ≤ cn) (hcn2 : cn ≤ 20) (hlc1 : ∀ j, 0 ≤ lc j) (hlc2 : ∀ j, lc j ≤ 15) : 0 ≤ cn := by
  grind
theorem q_X9_first_4 {lc : Nat → Int32} {fv : Nat → Int32} {cn : Int32} {r : Int32} {k : Int32} {w : Int32} {r_2 : Int32} (hcn : 0 ≤ cn) (hcn2 : cn ≤ 20) (hlc1 : ∀ j, 0 ≤ lc j) (hlc2 : ∀ j, lc j ≤ 15) (hr_2 : r_2 = if 0 ≤ r ∧ r < cn then 1 else 0) (c_3 : r_2 = 0) : (((-40000 : Int32), fv) = t_first r k w cn lc fv) := by
  (try subst_vars) <;> (try simp only [upd_s, upd_upd, sb1p, as1] at *) <;> simp only [t_first, mc15 r] <;> grind
theorem q_X9_first_5 {lc : Nat → Int32} {cn : Int32} {r : Int32} {r_2 : Int32} (hcn : 0 ≤ cn) (hcn2 : cn ≤ 20) (hlc1 : ∀ j, 0 ≤ lc j) (hlc2 : ∀ j, lc j ≤ 15) (hr_2 : r_2 = if 0 ≤ r ∧ r < cn then 1 else 0) (c_3 : ¬ r_2 = 0) : vp_in r 20 := by
  exact in_of (c := 20) (by decide) (by grind) (by grind)
theorem q_X9_first_7 {lc : Nat → Int32} {cn : Int32} {r : Int32} {r_2 : Int32} (hcn : 0 ≤ cn) (hcn2 : cn ≤ 20) (hlc1 : ∀ j, 0 ≤ lc j) (hlc2 : ∀ j, lc j ≤ 15) (hr_2 : r_2 = if 0 ≤ r ∧ r < cn then 1 else 0) (c_3 : ¬ r_2 = 0) : 0 ≤ (lc r.toNatClampNeg) := by
  grind
theorem q_X9_first_9 {lc : Nat → Int32} {cn : Int32} {r : Int32} {k : Int32} {r_2 : Int32} {r_6 : Int32} (hcn : 0 ≤ cn) (hcn2 : cn ≤ 20) (hlc1 : ∀ j, 0 ≤ lc j) (hlc2 : ∀ j, lc j ≤ 15) (hr_2 : r_2 = if 0 ≤ r ∧ r < cn then 1 else 0) (c_3 : ¬ r_2 = 0) (hr_6 : r_6 = if 0 ≤ k ∧ k < (lc r.toNatClampNeg) then 1 else 0) (c_8 : ¬ r_6 = 0) : vp_in ((15 * r) + k) 300 := by
  exact in_of (c := 300) (by decide) (by grind) (by grind)
theorem q_X9_first_10 {lc : Nat → Int32} {fv : Nat → Int32} {cn : Int32} {r : Int32} {k : Int32} {w : Int32} {r_2 : Int32} {r_6 : Int32} (hcn : 0 ≤ cn) (hcn2 : cn ≤ 20) (hlc1 : ∀ j, 0 ≤ lc j) (hlc2 : ∀ j, lc j ≤ 15) (hr_2 : r_2 = if 0 ≤ r ∧ r < cn then 1 else 0) (c_3 : ¬ r_2 = 0) (hr_6 : r_6 = if 0 ≤ k ∧ k < (lc r.toNatClampNeg) then 1 else 0) (c_8 : ¬ r_6 = 0) : (((1 : Int32), (upd fv ((15 * r) + k).toNatClampNeg (sx w))) = t_first r k w cn lc fv) := by
  (try subst_vars) <;> (try simp only [upd_s, upd_upd, sb1p, as1] at *) <;> simp only [t_first, mc15 r] <;> grind
theorem q_X9_first_11 {lc : Nat → Int32} {fv : Nat → Int32} {cn : Int32} {r : Int32} {k : Int32} {w : Int32} {r_2 : Int32} {r_6 : Int32} (hcn : 0 ≤ cn) (hcn2 : cn ≤ 20) (hlc1 : ∀ j, 0 ≤ lc j) (hlc2 : ∀ j, lc j ≤ 15) (hr_2 : r_2 = if 0 ≤ r ∧ r < cn then 1 else 0) (c_3 : ¬ r_2 = 0) (hr_6 : r_6 = if 0 ≤ k ∧ k < (lc r.toNatClampNeg) then 1 else 0) (c_8 : r_6 = 0) : (((-40000 : Int32), fv) = t_first r k w cn lc fv) := by
  (try subst_vars) <;> (try simp only [upd_s, upd_upd, sb1p, as1] at *) <;> simp only [t_first, mc15 r] <;> grind
set_option maxHeartbeats 4000000 in
set_option maxRecDepth 100000 in
theorem c_X9_first (l : Launch) (dC : Nat → ClassId) (dI : Nat → Nat → Nat) (cI : ClassId) (sz : Nat) (aX : Nat) (m0 : Nat) (m1 : Nat) (m2 : Nat) (m3 : Nat) (m4 : Nat) (m5 : Nat) (m6 : Nat) (m7 : Nat) (m8 : Nat) (m9 : Nat) (m10 : Nat) (m11 : Nat) (m12 : Nat) (m13 : Nat) (m14 : Nat) (m15 : Nat) (lc : Nat → Int32) (fv : Nat → Int32) (cn : Int32) (op : Int32) (mx : Int32) (tp : Int32) (fa : Int32) (ro : Int32) (pp : Int32) (fm : Int32) (sp : Int32) (it : Int32) (gn : Int32) (mi : Int32) (me : Int32) (mb : Int32) (mv : Int32) (mr : Int32) (mf : Int32) (md : Int32) (mw : Int32) (r : Int32) (k : Int32) (w : Int32) (hcn : 0 ≤ cn) (hcn2 : cn ≤ 20) (hlc1 : ∀ j, 0 ≤ lc j) (hlc2 : ∀ j, lc j ≤ 15) : mWi l yX9_first wsX9_first ({ frames := 2, cells := 0, slots := 0, locals := 43 }) [.ref aX, .int r, .int k, .int w] (dC, dI) [(cI, .int)] [(aX, .inr (6, [.int cn, .ref m0, .ref m1, .ref m2, .ref m3, .ref m4, .ref m5, .ref m6, .ref m7, .ref m8, .int mi, .int me, .ref m9, .int gn, .ref m10, .ref m11, .ref m12, .ref m13, .ref m14, .int op, .ref m15, .int tp, .int mb, .int mv, .int mr, .int mf, .int md, .int sp, .int mw, .int it, .int mx, .int fa, .int ro, .int pp, .int fm])), (m0, .inl (cI, 20, .inl lc)), (m1, .inl (cI, 300, .inl fv))] sz (fun (v : Int32) (u : (Nat → Int32)) => ((v, u) = t_first r k w cn lc fv)) (fun u : (Nat → Int32) => [(aX, .inr (6, [.int cn, .ref m0, .ref m1, .ref m2, .ref m3, .ref m4, .ref m5, .ref m6, .ref m7, .ref m8, .int mi, .int me, .ref m9, .int gn, .ref m10, .ref m11, .ref m12, .ref m13, .ref m14, .int op, .ref m15, .int tp, .int mb, .int mv, .int mr, .int mf, .int md, .int sp, .int mw, .int it, .int mx, .int fa, .int ro, .int pp, .int fm])), (m0, .inl (cI, 20, .inl lc)), (m1, .inl (cI, 300, .inl u))]) := by
  refine o_wi (cc := cX9_first) (maxL := 4) (ret := (some .int)) (by decide) rfl (Nat.le_of_ble_eq_true rfl) ?_
  intro p e s m below meth c ls A hx hb hr hml hts hown hlocks hP hK hD hS hA hl
  have hown : s.vm.findClass RX9 = some m.cls := hown
  have hl : lv_has ls 4 [(0, .ref aX), (1, .int r), (2, .int k), (3, .int w)] := hl
  have k_1 := hts (.constant RX9 72 (-40000)) (List.mem_of_getElem? (i := 2) rfl)
  have k_2 := hts (.fieldLink RX9 7 "ZRoutinesModel" "locals" "[I") (List.mem_of_getElem? (i := 1) rfl)
  have k_3 := hts (.fieldLink RX9 13 "ZRoutinesModel" "firsts" "[I") (List.mem_of_getElem? (i := 3) rfl)
  have i_X9 : ∀ w ∈ u_ws RX9 TX9 35, w ∈ wsX9_first := fun _ h => List.mem_cons_of_mem _ (List.mem_append_right _ h)
  refine lv_aload_n hx hb dX9_first_0 rfl (lv_at hl 0 rfl) ?_
  refine lv_iload_n hx hb dX9_first_1 rfl (lv_at hl 1 rfl) ?_
  refine k_rd (ci := 6) (q0 := 0) (q := (RX9, TX9, 35)) (As := [.int r]) (rest := []) ⟨hx, hb, hml, hown, hts⟩ (c_X9_isRoutine l dC dI cI aX m0 m1 m2 m3 m4 m5 m6 m7 m8 m9 m10 m11 m12 m13 m14 m15 cn op mx tp fa ro pp fm sp it gn mi me mb mv mr mf md mw r (q_X9_first_1 hcn hcn2 hlc1 hlc2)) (cwV 1 hts gX9_first_X9_isRoutine rfl rfl rfl (by decide +kernel) ⟨Nat.le_of_ble_eq_true rfl, Nat.le_of_ble_eq_true rfl⟩) hK hP [0] rfl rfl rfl rfl hl.1 rfl (Nat.le_of_ble_eq_true rfl) dX9_first_2 ⟨Nat.zero_le _, Nat.zero_le _⟩ (fun r_2 hr_2 => ?_)
  have hr_2 : r_2 = if 0 ≤ r ∧ r < cn then 1 else 0 := hr_2
  refine lv_if_eq (tgt := 24) hx hb dX9_first_5 (by decide) (fun c_3 => ?_) (fun c_3 => ?_)
  · skip
    refine lv_ldc (v := (-40000)) hx hb hown k_1 dX9_first_24 ?_
    exact e_wi hx hb hr hlocks dX9_first_26 hK hS (fv) hP hD (q_X9_first_4 hcn hcn2 hlc1 hlc2 hr_2 c_3)
  · skip
    refine lv_iload_n hx hb dX9_first_8 rfl (lv_at hl 2 rfl) ?_
    refine lv_iconst (v := 0) hx hb dX9_first_9 (by decide) ?_
    refine lv_aload_n hx hb dX9_first_10 rfl (lv_at hl 0 rfl) ?_
    refine va_get (D := (dC, dI)) (ci := 6) (v := .ref m0) (C := RX9) (T := TX9) (N := 35) hx hb hts i_X9 hown hK hP 0 rfl rfl 1 (by decide) k_2 (fun _ h9 => h9) rfl dX9_first_11 ?_
    refine lv_iload_n hx hb dX9_first_14 rfl (lv_at hl 1 rfl) ?_
    refine va_iald hx hb hK hP 1 0 rfl rfl (q_X9_first_5 hcn hcn2 hlc1 hlc2 hr_2 c_3) dX9_first_15 ?_
    refine lv_iconst (v := 1) hx hb dX9_first_16 (by decide) ?_
    refine lv_isub hx hb dX9_first_17 ?_
    refine k_rs (As := [.int k, .int 0, .int ((lc r.toNatClampNeg) - 1)]) (rest := []) ⟨hx, hb, hml, hown, hts⟩ (c_X9_in l dC dI cI k 0 ((lc r.toNatClampNeg) - 1) ) (va_cwS 3 hts gX9_first_X9_in rfl rfl rfl (by decide +kernel) ⟨Nat.le_of_ble_eq_true rfl, Nat.le_of_ble_eq_true rfl⟩) hK hP [] rfl rfl hl.1 rfl (Nat.le_of_ble_eq_true rfl) dX9_first_18 ⟨Nat.zero_le _, Nat.zero_le _⟩ (fun r_6 hr_6 => ?_)
    have hr_6 : r_6 = if (0 : Int32) ≤ k ∧ k ≤ ((lc r.toNatClampNeg) - 1) then 1 else 0 := hr_6
    have hr_6 : r_6 = if 0 ≤ k ∧ k < (lc r.toNatClampNeg) then 1 else 0 := hr_6.trans (in_sub (q_X9_first_7 hcn hcn2 hlc1 hlc2 hr_2 c_3))
    refine lv_if_ne (tgt := 27) hx hb dX9_first_21 (by decide) (fun c_8 => ?_) (fun c_8 => ?_)
    · skip
      refine lv_aload_n hx hb dX9_first_27 rfl (lv_at hl 0 rfl) ?_
      refine va_get (D := (dC, dI)) (ci := 6) (v := .ref m1) (C := RX9) (T := TX9) (N := 35) hx hb hts i_X9 hown hK hP 0 rfl rfl 2 (by decide) k_3 (fun _ h9 => h9) rfl dX9_first_28 ?_
      refine lv_bipush (v := 15) hx hb dX9_first_31 (by decide) ?_
      refine lv_iload_n hx hb dX9_first_33 rfl (lv_at hl 1 rfl) ?_
      refine lv_imul hx hb dX9_first_34 ?_
      refine lv_iload_n hx hb dX9_first_35 rfl (lv_at hl 2 rfl) ?_
      refine lv_iadd hx hb dX9_first_36 ?_
      refine lv_iload_n hx hb dX9_first_37 rfl (lv_at hl 3 rfl) ?_
      refine lv_i2s (v := sx w) hx hb dX9_first_38 rfl ?_
      refine va_iast hx hb hK hP hD hS 2 0 rfl rfl (q_X9_first_9 hcn hcn2 hlc1 hlc2 hr_2 c_3 hr_6 c_8) dX9_first_39 (fun H locs hP hD hS => ?_)
      have hP : va_P (dC, dI) vwCl [(aX, .inr (6, [.int cn, .ref m0, .ref m1, .ref m2, .ref m3, .ref m4, .ref m5, .ref m6, .ref m7, .ref m8, .int mi, .int me, .ref m9, .int gn, .ref m10, .ref m11, .ref m12, .ref m13, .ref m14, .int op, .ref m15, .int tp, .int mb, .int mv, .int mr, .int mf, .int md, .int sp, .int mw, .int it, .int mx, .int fa, .int ro, .int pp, .int fm])), (m0, .inl (cI, 20, .inl lc)), (m1, .inl (cI, 300, .inl (upd fv ((15 * r) + k).toNatClampNeg (sx w))))] H := hP
      have hD : va_D A [(aX, .inr (6, [.int cn, .ref m0, .ref m1, .ref m2, .ref m3, .ref m4, .ref m5, .ref m6, .ref m7, .ref m8, .int mi, .int me, .ref m9, .int gn, .ref m10, .ref m11, .ref m12, .ref m13, .ref m14, .int op, .ref m15, .int tp, .int mb, .int mv, .int mr, .int mf, .int md, .int sp, .int mw, .int it, .int mx, .int fa, .int ro, .int pp, .int fm])), (m0, .inl (cI, 20, .inl lc)), (m1, .inl (cI, 300, .inl (upd fv ((15 * r) + k).toNatClampNeg (sx w))))] := hD
      refine lv_iconst (v := 1) hx hb dX9_first_40 (by decide) ?_
      exact e_wi hx hb hr hlocks dX9_first_41 hK hS (upd fv ((15 * r) + k).toNatClampNeg (sx w)) hP hD (q_X9_first_10 hcn hcn2 hlc1 hlc2 hr_2 c_3 hr_6 c_8)
    · skip
      refine lv_ldc (v := (-40000)) hx hb hown k_1 dX9_first_24 ?_
      exact e_wi hx hb hr hlocks dX9_first_26 hK hS (fv) hP hD (q_X9_first_11 hcn hcn2 hlc1 hlc2 hr_2 c_3 hr_6 c_8)

theorem q_X9_add_1 {ln : Nat → Int32} {cn : Int32} (hcn : 0 ≤ cn) (hcn2 : cn ≤ 20) (hln1 : ∀ j, 0 ≤ ln j) (hln2 : ∀ j, ln j ≤ 24) : 0 ≤ cn := by
  grind
theorem q_X9_add_4 {ln : Nat → Int32} {cn : Int32} {r : Int32} {r_2 : Int32} (hcn : 0 ≤ cn) (hcn2 : cn ≤ 20) (hln1 : ∀ j, 0 ≤ ln j) (hln2 : ∀ j, ln j ≤ 24) (hr_2 : r_2 = if 0 ≤ r ∧ r < cn then 1 else 0) (c_3 : ¬ r_2 = 0) : vp_in r 20 := by
  exact in_of (c := 20) (by decide) (by grind) (by grind)
theorem q_X9_add_6 {ln : Nat → Int32} {cn : Int32} {r : Int32} {r_2 : Int32} (hcn : 0 ≤ cn) (hcn2 : cn ≤ 20) (hln1 : ∀ j, 0 ≤ ln j) (hln2 : ∀ j, ln j ≤ 24) (hr_2 : r_2 = if 0 ≤ r ∧ r < cn then 1 else 0) (c_3 : ¬ r_2 = 0) (c_5 : ¬ (ln r.toNatClampNeg) = 24) : vp_in r 20 := by
  exact in_of (c := 20) (by decide) (by grind) (by grind)
theorem q_X9_add_8 {ln : Nat → Int32} {cn : Int32} {r : Int32} {r_2 : Int32} {x_7 : Int32} (hcn : 0 ≤ cn) (hcn2 : cn ≤ 20) (hln1 : ∀ j, 0 ≤ ln j) (hln2 : ∀ j, ln j ≤ 24) (hr_2 : r_2 = if 0 ≤ r ∧ r < cn then 1 else 0) (c_3 : ¬ r_2 = 0) (c_5 : ¬ (ln r.toNatClampNeg) = 24) (ex_7 : x_7 = ((24 * r) + (ln r.toNatClampNeg))) : vp_in x_7 480 := by
  exact in_of (c := 480) (by decide) (by grind) (by grind)
theorem q_X9_add_9 {ln : Nat → Int32} {cn : Int32} {r : Int32} {r_2 : Int32} {x_7 : Int32} (hcn : 0 ≤ cn) (hcn2 : cn ≤ 20) (hln1 : ∀ j, 0 ≤ ln j) (hln2 : ∀ j, ln j ≤ 24) (hr_2 : r_2 = if 0 ≤ r ∧ r < cn then 1 else 0) (c_3 : ¬ r_2 = 0) (c_5 : ¬ (ln r.toNatClampNeg) = 24) (ex_7 : x_7 = ((24 * r) + (ln r.toNatClampNeg))) : vp_in x_7 480 := by
  exact in_of (c := 480) (by decide) (by grind) (by grind)
theorem q_X9_add_10 {ln : Nat → Int32} {cn : Int32} {r : Int32} {r_2 : Int32} {x_7 : Int32} (hcn : 0 ≤ cn) (hcn2 : cn ≤ 20) (hln1 : ∀ j, 0 ≤ ln j) (hln2 : ∀ j, ln j ≤ 24) (hr_2 : r_2 = if 0 ≤ r ∧ r < cn then 1 else 0) (c_3 : ¬ r_2 = 0) (c_5 : ¬ (ln r.toNatClampNeg) = 24) (ex_7 : x_7 = ((24 * r) + (ln r.toNatClampNeg))) : vp_in x_7 480 := by
  exact in_of (c := 480) (by decide) (by grind) (by grind)
theorem q_X9_add_11 {ln : Nat → Int32} {cn : Int32} {r : Int32} {r_2 : Int32} {x_7 : Int32} (hcn : 0 ≤ cn) (hcn2 : cn ≤ 20) (hln1 : ∀ j, 0 ≤ ln j) (hln2 : ∀ j, ln j ≤ 24) (hr_2 : r_2 = if 0 ≤ r ∧ r < cn then 1 else 0) (c_3 : ¬ r_2 = 0) (c_5 : ¬ (ln r.toNatClampNeg) = 24) (ex_7 : x_7 = ((24 * r) + (ln r.toNatClampNeg))) : vp_in r 20 := by
  exact in_of (c := 20) (by decide) (by grind) (by grind)
theorem q_X9_add_12 {ln : Nat → Int32} {cn : Int32} {r : Int32} {r_2 : Int32} {x_7 : Int32} (hcn : 0 ≤ cn) (hcn2 : cn ≤ 20) (hln1 : ∀ j, 0 ≤ ln j) (hln2 : ∀ j, ln j ≤ 24) (hr_2 : r_2 = if 0 ≤ r ∧ r < cn then 1 else 0) (c_3 : ¬ r_2 = 0) (c_5 : ¬ (ln r.toNatClampNeg) = 24) (ex_7 : x_7 = ((24 * r) + (ln r.toNatClampNeg))) : vp_in r 20 := by
  exact in_of (c := 20) (by decide) (by grind) (by grind)
theorem q_X9_add_13 {ln : Nat → Int32} {cn : Int32} {r : Int32} {r_2 : Int32} {x_7 : Int32} (hcn : 0 ≤ cn) (hcn2 : cn ≤ 20) (hln1 : ∀ j, 0 ≤ ln j) (hln2 : ∀ j, ln j ≤ 24) (hr_2 : r_2 = if 0 ≤ r ∧ r < cn then 1 else 0) (c_3 : ¬ r_2 = 0) (c_5 : ¬ (ln r.toNatClampNeg) = 24) (ex_7 : x_7 = ((24 * r) + (ln r.toNatClampNeg))) : vp_in r 20 := by
  exact in_of (c := 20) (by decide) (by grind) (by grind)
theorem q_X9_add_14 {ln : Nat → Int32} {po : Nat → Int32} {pa : Nat → Int32} {pb : Nat → Int32} {cn : Int32} {r : Int32} {k : Int32} {k2 : Int32} {k3 : Int32} {r_2 : Int32} {x_7 : Int32} (hcn : 0 ≤ cn) (hcn2 : cn ≤ 20) (hln1 : ∀ j, 0 ≤ ln j) (hln2 : ∀ j, ln j ≤ 24) (hr_2 : r_2 = if 0 ≤ r ∧ r < cn then 1 else 0) (c_3 : ¬ r_2 = 0) (c_5 : ¬ (ln r.toNatClampNeg) = 24) (ex_7 : x_7 = ((24 * r) + (ln r.toNatClampNeg))) : ((((upd ln r.toNatClampNeg ((ln r.toNatClampNeg) + 1)) r.toNatClampNeg), (upd ln r.toNatClampNeg ((ln r.toNatClampNeg) + 1)), (upd po x_7.toNatClampNeg k), (upd pa x_7.toNatClampNeg k2), (upd pb x_7.toNatClampNeg k3)) = t_add r k k2 k3 cn ln po pa pb) := by
  (try subst_vars) <;> (try simp only [upd_s, upd_upd, sb1p, as1] at *) <;> simp only [t_add, mc24 r, upd_s] <;> grind
theorem q_X9_add_15 {ln : Nat → Int32} {po : Nat → Int32} {pa : Nat → Int32} {pb : Nat → Int32} {cn : Int32} {r : Int32} {k : Int32} {k2 : Int32} {k3 : Int32} {r_2 : Int32} (hcn : 0 ≤ cn) (hcn2 : cn ≤ 20) (hln1 : ∀ j, 0 ≤ ln j) (hln2 : ∀ j, ln j ≤ 24) (hr_2 : r_2 = if 0 ≤ r ∧ r < cn then 1 else 0) (c_3 : ¬ r_2 = 0) (c_5 : (ln r.toNatClampNeg) = 24) : (((-40001 : Int32), ln, po, pa, pb) = t_add r k k2 k3 cn ln po pa pb) := by
  (try subst_vars) <;> (try simp only [upd_s, upd_upd, sb1p, as1] at *) <;> simp only [t_add, mc24 r, upd_s] <;> grind
theorem q_X9_add_16 {ln : Nat → Int32} {po : Nat → Int32} {pa : Nat → Int32} {pb : Nat → Int32} {cn : Int32} {r : Int32} {k : Int32} {k2 : Int32} {k3 : Int32} {r_2 : Int32} (hcn : 0 ≤ cn) (hcn2 : cn ≤ 20) (hln1 : ∀ j, 0 ≤ ln j) (hln2 : ∀ j, ln j ≤ 24) (hr_2 : r_2 = if 0 ≤ r ∧ r < cn then 1 else 0) (c_3 : r_2 = 0) : (((-40000 : Int32), ln, po, pa, pb) = t_add r k k2 k3 cn ln po pa pb) := by
  (try subst_vars) <;> (try simp only [upd_s, upd_upd, sb1p, as1] at *) <;> simp only [t_add, mc24 r, upd_s] <;> grind
set_option maxHeartbeats 4000000 in
set_option maxRecDepth 100000 in
theorem c_X9_add (l : Launch) (dC : Nat → ClassId) (dI : Nat → Nat → Nat) (cI : ClassId) (sz : Nat) (aX : Nat) (m0 : Nat) (m1 : Nat) (m2 : Nat) (m3 : Nat) (m4 : Nat) (m5 : Nat) (m6 : Nat) (m7 : Nat) (m8 : Nat) (m9 : Nat) (m10 : Nat) (m11 : Nat) (m12 : Nat) (m13 : Nat) (m14 : Nat) (m15 : Nat) (ln : Nat → Int32) (po : Nat → Int32) (pa : Nat → Int32) (pb : Nat → Int32) (cn : Int32) (op : Int32) (mx : Int32) (tp : Int32) (fa : Int32) (ro : Int32) (pp : Int32) (fm : Int32) (sp : Int32) (it : Int32) (gn : Int32) (mi : Int32) (me : Int32) (mb : Int32) (mv : Int32) (mr : Int32) (mf : Int32) (md : Int32) (mw : Int32) (r : Int32) (k : Int32) (k2 : Int32) (k3 : Int32) (hcn : 0 ≤ cn) (hcn2 : cn ≤ 20) (hln1 : ∀ j, 0 ≤ ln j) (hln2 : ∀ j, ln j ≤ 24) : mWi l yX9_add wsX9_add ({ frames := 2, cells := 0, slots := 0, locals := 43 }) [.ref aX, .int r, .int k, .int k2, .int k3] (dC, dI) [(cI, .int)] [(aX, .inr (6, [.int cn, .ref m0, .ref m1, .ref m2, .ref m3, .ref m4, .ref m5, .ref m6, .ref m7, .ref m8, .int mi, .int me, .ref m9, .int gn, .ref m10, .ref m11, .ref m12, .ref m13, .ref m14, .int op, .ref m15, .int tp, .int mb, .int mv, .int mr, .int mf, .int md, .int sp, .int mw, .int it, .int mx, .int fa, .int ro, .int pp, .int fm])), (m2, .inl (cI, 20, .inl ln)), (m3, .inl (cI, 480, .inl po)), (m4, .inl (cI, 480, .inl pa)), (m5, .inl (cI, 480, .inl pb))] sz (fun (v : Int32) (u : (Nat → Int32) × (Nat → Int32) × (Nat → Int32) × (Nat → Int32)) => ((v, u.1, u.2.1, u.2.2.1, u.2.2.2) = t_add r k k2 k3 cn ln po pa pb)) (fun u : (Nat → Int32) × (Nat → Int32) × (Nat → Int32) × (Nat → Int32) => [(aX, .inr (6, [.int cn, .ref m0, .ref m1, .ref m2, .ref m3, .ref m4, .ref m5, .ref m6, .ref m7, .ref m8, .int mi, .int me, .ref m9, .int gn, .ref m10, .ref m11, .ref m12, .ref m13, .ref m14, .int op, .ref m15, .int tp, .int mb, .int mv, .int mr, .int mf, .int md, .int sp, .int mw, .int it, .int mx, .int fa, .int ro, .int pp, .int fm])), (m2, .inl (cI, 20, .inl u.1)), (m3, .inl (cI, 480, .inl u.2.1)), (m4, .inl (cI, 480, .inl u.2.2.1)), (m5, .inl (cI, 480, .inl u.2.2.2))]) := by
  refine o_wi (cc := cX9_add) (maxL := 6) (ret := (some .int)) (by decide) rfl (Nat.le_of_ble_eq_true rfl) ?_
  intro p e s m below meth c ls A hx hb hr hml hts hown hlocks hP hK hD hS hA hl
  have hown : s.vm.findClass RX9 = some m.cls := hown
  have hl : lv_has ls 6 [(0, .ref aX), (1, .int r), (2, .int k), (3, .int k2), (4, .int k3)] := hl
  have k_1 := hts (.fieldLink RX9 16 "ZRoutinesModel" "sizes" "[I") (List.mem_of_getElem? (i := 2) rfl)
  have k_2 := hts (.fieldLink RX9 19 "ZRoutinesModel" "ops" "[I") (List.mem_of_getElem? (i := 4) rfl)
  have k_3 := hts (.fieldLink RX9 22 "ZRoutinesModel" "as" "[I") (List.mem_of_getElem? (i := 5) rfl)
  have k_4 := hts (.fieldLink RX9 25 "ZRoutinesModel" "bs" "[I") (List.mem_of_getElem? (i := 6) rfl)
  have k_5 := hts (.constant RX9 73 (-40001)) (List.mem_of_getElem? (i := 3) rfl)
  have k_6 := hts (.constant RX9 72 (-40000)) (List.mem_of_getElem? (i := 1) rfl)
  have i_X9 : ∀ w ∈ u_ws RX9 TX9 35, w ∈ wsX9_add := fun _ h => List.mem_cons_of_mem _ (List.mem_append_right _ h)
  refine lv_aload_n hx hb dX9_add_0 rfl (lv_at hl 0 rfl) ?_
  refine lv_iload_n hx hb dX9_add_1 rfl (lv_at hl 1 rfl) ?_
  refine k_rd (ci := 6) (q0 := 0) (q := (RX9, TX9, 35)) (As := [.int r]) (rest := []) ⟨hx, hb, hml, hown, hts⟩ (c_X9_isRoutine l dC dI cI aX m0 m1 m2 m3 m4 m5 m6 m7 m8 m9 m10 m11 m12 m13 m14 m15 cn op mx tp fa ro pp fm sp it gn mi me mb mv mr mf md mw r (q_X9_add_1 hcn hcn2 hln1 hln2)) (cwV 1 hts gX9_add_X9_isRoutine rfl rfl rfl (by decide +kernel) ⟨Nat.le_of_ble_eq_true rfl, Nat.le_of_ble_eq_true rfl⟩) hK hP [0] rfl rfl rfl rfl hl.1 rfl (Nat.le_of_ble_eq_true rfl) dX9_add_2 ⟨Nat.zero_le _, Nat.zero_le _⟩ (fun r_2 hr_2 => ?_)
  have hr_2 : r_2 = if 0 ≤ r ∧ r < cn then 1 else 0 := hr_2
  refine lv_if_ne (tgt := 11) hx hb dX9_add_5 (by decide) (fun c_3 => ?_) (fun c_3 => ?_)
  · skip
    refine lv_aload_n hx hb dX9_add_11 rfl (lv_at hl 0 rfl) ?_
    refine va_get (D := (dC, dI)) (ci := 6) (v := .ref m2) (C := RX9) (T := TX9) (N := 35) hx hb hts i_X9 hown hK hP 0 rfl rfl 3 (by decide) k_1 (fun _ h9 => h9) rfl dX9_add_12 ?_
    refine lv_iload_n hx hb dX9_add_15 rfl (lv_at hl 1 rfl) ?_
    refine va_iald hx hb hK hP 1 0 rfl rfl (q_X9_add_4 hcn hcn2 hln1 hln2 hr_2 c_3) dX9_add_16 ?_
    refine lv_bipush (v := 24) hx hb dX9_add_17 (by decide) ?_
    refine lv_icmp_ne (tgt := 25) hx hb dX9_add_19 (by decide) (fun c_5 => ?_) (fun c_5 => ?_)
    · skip
      refine lv_bipush (v := 24) hx hb dX9_add_25 (by decide) ?_
      refine lv_iload_n hx hb dX9_add_27 rfl (lv_at hl 1 rfl) ?_
      refine lv_imul hx hb dX9_add_28 ?_
      refine lv_aload_n hx hb dX9_add_29 rfl (lv_at hl 0 rfl) ?_
      refine va_get (D := (dC, dI)) (ci := 6) (v := .ref m2) (C := RX9) (T := TX9) (N := 35) hx hb hts i_X9 hown hK hP 0 rfl rfl 3 (by decide) k_1 (fun _ h9 => h9) rfl dX9_add_30 ?_
      refine lv_iload_n hx hb dX9_add_33 rfl (lv_at hl 1 rfl) ?_
      refine va_iald hx hb hK hP 1 0 rfl rfl (q_X9_add_6 hcn hcn2 hln1 hln2 hr_2 c_3 c_5) dX9_add_34 ?_
      refine lv_iadd hx hb dX9_add_35 ?_
      refine lv_topi (fun x_7 ex_7 => ?_)
      refine lv_istore (lv' := [(5, .int x_7), (0, .ref aX), (1, .int r), (2, .int k), (3, .int k2), (4, .int k3)]) hx hb dX9_add_36 hl (by decide) rfl (fun ls hl => ?_)
      refine lv_aload_n hx hb dX9_add_38 rfl (lv_at hl 1 rfl) ?_
      refine va_get (D := (dC, dI)) (ci := 6) (v := .ref m3) (C := RX9) (T := TX9) (N := 35) hx hb hts i_X9 hown hK hP 0 rfl rfl 4 (by decide) k_2 (fun _ h9 => h9) rfl dX9_add_39 ?_
      refine lv_iload hx hb dX9_add_42 (lv_at hl 0 rfl) ?_
      refine lv_iload_n hx hb dX9_add_44 rfl (lv_at hl 3 rfl) ?_
      refine va_iast hx hb hK hP hD hS 2 0 rfl rfl (q_X9_add_8 hcn hcn2 hln1 hln2 hr_2 c_3 c_5 ex_7) dX9_add_45 (fun H locs hP hD hS => ?_)
      have hP : va_P (dC, dI) vwCl [(aX, .inr (6, [.int cn, .ref m0, .ref m1, .ref m2, .ref m3, .ref m4, .ref m5, .ref m6, .ref m7, .ref m8, .int mi, .int me, .ref m9, .int gn, .ref m10, .ref m11, .ref m12, .ref m13, .ref m14, .int op, .ref m15, .int tp, .int mb, .int mv, .int mr, .int mf, .int md, .int sp, .int mw, .int it, .int mx, .int fa, .int ro, .int pp, .int fm])), (m2, .inl (cI, 20, .inl ln)), (m3, .inl (cI, 480, .inl (upd po x_7.toNatClampNeg k))), (m4, .inl (cI, 480, .inl pa)), (m5, .inl (cI, 480, .inl pb))] H := hP
      have hD : va_D A [(aX, .inr (6, [.int cn, .ref m0, .ref m1, .ref m2, .ref m3, .ref m4, .ref m5, .ref m6, .ref m7, .ref m8, .int mi, .int me, .ref m9, .int gn, .ref m10, .ref m11, .ref m12, .ref m13, .ref m14, .int op, .ref m15, .int tp, .int mb, .int mv, .int mr, .int mf, .int md, .int sp, .int mw, .int it, .int mx, .int fa, .int ro, .int pp, .int fm])), (m2, .inl (cI, 20, .inl ln)), (m3, .inl (cI, 480, .inl (upd po x_7.toNatClampNeg k))), (m4, .inl (cI, 480, .inl pa)), (m5, .inl (cI, 480, .inl pb))] := hD
      refine lv_aload_n hx hb dX9_add_46 rfl (lv_at hl 1 rfl) ?_
      refine va_get (D := (dC, dI)) (ci := 6) (v := .ref m4) (C := RX9) (T := TX9) (N := 35) hx hb hts i_X9 hown hK hP 0 rfl rfl 5 (by decide) k_3 (fun _ h9 => h9) rfl dX9_add_47 ?_
      refine lv_iload hx hb dX9_add_50 (lv_at hl 0 rfl) ?_
      refine lv_iload_n hx hb dX9_add_52 rfl (lv_at hl 4 rfl) ?_
      refine va_iast hx hb hK hP hD hS 3 0 rfl rfl (q_X9_add_9 hcn hcn2 hln1 hln2 hr_2 c_3 c_5 ex_7) dX9_add_53 (fun H locs hP hD hS => ?_)
      have hP : va_P (dC, dI) vwCl [(aX, .inr (6, [.int cn, .ref m0, .ref m1, .ref m2, .ref m3, .ref m4, .ref m5, .ref m6, .ref m7, .ref m8, .int mi, .int me, .ref m9, .int gn, .ref m10, .ref m11, .ref m12, .ref m13, .ref m14, .int op, .ref m15, .int tp, .int mb, .int mv, .int mr, .int mf, .int md, .int sp, .int mw, .int it, .int mx, .int fa, .int ro, .int pp, .int fm])), (m2, .inl (cI, 20, .inl ln)), (m3, .inl (cI, 480, .inl (upd po x_7.toNatClampNeg k))), (m4, .inl (cI, 480, .inl (upd pa x_7.toNatClampNeg k2))), (m5, .inl (cI, 480, .inl pb))] H := hP
      have hD : va_D A [(aX, .inr (6, [.int cn, .ref m0, .ref m1, .ref m2, .ref m3, .ref m4, .ref m5, .ref m6, .ref m7, .ref m8, .int mi, .int me, .ref m9, .int gn, .ref m10, .ref m11, .ref m12, .ref m13, .ref m14, .int op, .ref m15, .int tp, .int mb, .int mv, .int mr, .int mf, .int md, .int sp, .int mw, .int it, .int mx, .int fa, .int ro, .int pp, .int fm])), (m2, .inl (cI, 20, .inl ln)), (m3, .inl (cI, 480, .inl (upd po x_7.toNatClampNeg k))), (m4, .inl (cI, 480, .inl (upd pa x_7.toNatClampNeg k2))), (m5, .inl (cI, 480, .inl pb))] := hD
      refine lv_aload_n hx hb dX9_add_54 rfl (lv_at hl 1 rfl) ?_
      refine va_get (D := (dC, dI)) (ci := 6) (v := .ref m5) (C := RX9) (T := TX9) (N := 35) hx hb hts i_X9 hown hK hP 0 rfl rfl 6 (by decide) k_4 (fun _ h9 => h9) rfl dX9_add_55 ?_
      refine lv_iload hx hb dX9_add_58 (lv_at hl 0 rfl) ?_
      refine lv_iload hx hb dX9_add_60 (lv_at hl 5 rfl) ?_
      refine va_iast hx hb hK hP hD hS 4 0 rfl rfl (q_X9_add_10 hcn hcn2 hln1 hln2 hr_2 c_3 c_5 ex_7) dX9_add_62 (fun H locs hP hD hS => ?_)
      have hP : va_P (dC, dI) vwCl [(aX, .inr (6, [.int cn, .ref m0, .ref m1, .ref m2, .ref m3, .ref m4, .ref m5, .ref m6, .ref m7, .ref m8, .int mi, .int me, .ref m9, .int gn, .ref m10, .ref m11, .ref m12, .ref m13, .ref m14, .int op, .ref m15, .int tp, .int mb, .int mv, .int mr, .int mf, .int md, .int sp, .int mw, .int it, .int mx, .int fa, .int ro, .int pp, .int fm])), (m2, .inl (cI, 20, .inl ln)), (m3, .inl (cI, 480, .inl (upd po x_7.toNatClampNeg k))), (m4, .inl (cI, 480, .inl (upd pa x_7.toNatClampNeg k2))), (m5, .inl (cI, 480, .inl (upd pb x_7.toNatClampNeg k3)))] H := hP
      have hD : va_D A [(aX, .inr (6, [.int cn, .ref m0, .ref m1, .ref m2, .ref m3, .ref m4, .ref m5, .ref m6, .ref m7, .ref m8, .int mi, .int me, .ref m9, .int gn, .ref m10, .ref m11, .ref m12, .ref m13, .ref m14, .int op, .ref m15, .int tp, .int mb, .int mv, .int mr, .int mf, .int md, .int sp, .int mw, .int it, .int mx, .int fa, .int ro, .int pp, .int fm])), (m2, .inl (cI, 20, .inl ln)), (m3, .inl (cI, 480, .inl (upd po x_7.toNatClampNeg k))), (m4, .inl (cI, 480, .inl (upd pa x_7.toNatClampNeg k2))), (m5, .inl (cI, 480, .inl (upd pb x_7.toNatClampNeg k3)))] := hD
      refine lv_aload_n hx hb dX9_add_63 rfl (lv_at hl 1 rfl) ?_
      refine va_get (D := (dC, dI)) (ci := 6) (v := .ref m2) (C := RX9) (T := TX9) (N := 35) hx hb hts i_X9 hown hK hP 0 rfl rfl 3 (by decide) k_1 (fun _ h9 => h9) rfl dX9_add_64 ?_
      refine lv_iload_n hx hb dX9_add_67 rfl (lv_at hl 2 rfl) ?_
      refine lv_dup2_11 hx hb dX9_add_68 rfl rfl ?_
      refine va_iald hx hb hK hP 1 0 rfl rfl (q_X9_add_11 hcn hcn2 hln1 hln2 hr_2 c_3 c_5 ex_7) dX9_add_69 ?_
      refine lv_iconst (v := 1) hx hb dX9_add_70 (by decide) ?_
      refine lv_iadd hx hb dX9_add_71 ?_
      refine va_iast hx hb hK hP hD hS 1 0 rfl rfl (q_X9_add_12 hcn hcn2 hln1 hln2 hr_2 c_3 c_5 ex_7) dX9_add_72 (fun H locs hP hD hS => ?_)
      have hP : va_P (dC, dI) vwCl [(aX, .inr (6, [.int cn, .ref m0, .ref m1, .ref m2, .ref m3, .ref m4, .ref m5, .ref m6, .ref m7, .ref m8, .int mi, .int me, .ref m9, .int gn, .ref m10, .ref m11, .ref m12, .ref m13, .ref m14, .int op, .ref m15, .int tp, .int mb, .int mv, .int mr, .int mf, .int md, .int sp, .int mw, .int it, .int mx, .int fa, .int ro, .int pp, .int fm])), (m2, .inl (cI, 20, .inl (upd ln r.toNatClampNeg ((ln r.toNatClampNeg) + 1)))), (m3, .inl (cI, 480, .inl (upd po x_7.toNatClampNeg k))), (m4, .inl (cI, 480, .inl (upd pa x_7.toNatClampNeg k2))), (m5, .inl (cI, 480, .inl (upd pb x_7.toNatClampNeg k3)))] H := hP
      have hD : va_D A [(aX, .inr (6, [.int cn, .ref m0, .ref m1, .ref m2, .ref m3, .ref m4, .ref m5, .ref m6, .ref m7, .ref m8, .int mi, .int me, .ref m9, .int gn, .ref m10, .ref m11, .ref m12, .ref m13, .ref m14, .int op, .ref m15, .int tp, .int mb, .int mv, .int mr, .int mf, .int md, .int sp, .int mw, .int it, .int mx, .int fa, .int ro, .int pp, .int fm])), (m2, .inl (cI, 20, .inl (upd ln r.toNatClampNeg ((ln r.toNatClampNeg) + 1)))), (m3, .inl (cI, 480, .inl (upd po x_7.toNatClampNeg k))), (m4, .inl (cI, 480, .inl (upd pa x_7.toNatClampNeg k2))), (m5, .inl (cI, 480, .inl (upd pb x_7.toNatClampNeg k3)))] := hD
      refine lv_aload_n hx hb dX9_add_73 rfl (lv_at hl 1 rfl) ?_
      refine va_get (D := (dC, dI)) (ci := 6) (v := .ref m2) (C := RX9) (T := TX9) (N := 35) hx hb hts i_X9 hown hK hP 0 rfl rfl 3 (by decide) k_1 (fun _ h9 => h9) rfl dX9_add_74 ?_
      refine lv_iload_n hx hb dX9_add_77 rfl (lv_at hl 2 rfl) ?_
      refine va_iald hx hb hK hP 1 0 rfl rfl (q_X9_add_13 hcn hcn2 hln1 hln2 hr_2 c_3 c_5 ex_7) dX9_add_78 ?_
      exact e_wi hx hb hr hlocks dX9_add_79 hK hS (upd ln r.toNatClampNeg ((ln r.toNatClampNeg) + 1), upd po x_7.toNatClampNeg k, upd pa x_7.toNatClampNeg k2, upd pb x_7.toNatClampNeg k3) hP hD (q_X9_add_14 hcn hcn2 hln1 hln2 hr_2 c_3 c_5 ex_7)
    · skip
      refine lv_ldc (v := (-40001)) hx hb hown k_5 dX9_add_22 ?_
      exact e_wi hx hb hr hlocks dX9_add_24 hK hS (ln, po, pa, pb) hP hD (q_X9_add_15 hcn hcn2 hln1 hln2 hr_2 c_3 c_5)
  · skip
    refine lv_ldc (v := (-40000)) hx hb hown k_6 dX9_add_8 ?_
    exact e_wi hx hb hr hlocks dX9_add_10 hK hS (ln, po, pa, pb) hP hD (q_X9_add_16 hcn hcn2 hln1 hln2 hr_2 c_3)

theorem q_X9_clear_1 {cn : Int32} (hcn : 0 ≤ cn) (hcn2 : cn ≤ 20) : 0 ≤ cn := by
  grind
theorem q_X9_clear_4 {cn : Int32} {r : Int32} {r_2 : Int32} (hcn : 0 ≤ cn) (hcn2 : cn ≤ 20) (hr_2 : r_2 = if 0 ≤ r ∧ r < cn then 1 else 0) (c_3 : ¬ r_2 = 0) : vp_in r 20 := by
  exact in_of (c := 20) (by decide) (by grind) (by grind)
theorem q_X9_clear_6 {ln : Nat → Int32} {cn : Int32} {r : Int32} {r_2 : Int32} {x_5 : Int32} (hcn : 0 ≤ cn) (hcn2 : cn ≤ 20) (hr_2 : r_2 = if 0 ≤ r ∧ r < cn then 1 else 0) (c_3 : ¬ r_2 = 0) (ex_5 : x_5 = (ln r.toNatClampNeg)) : vp_in r 20 := by
  exact in_of (c := 20) (by decide) (by grind) (by grind)
theorem q_X9_clear_7 {ln : Nat → Int32} {cn : Int32} {r : Int32} {r_2 : Int32} {x_5 : Int32} (hcn : 0 ≤ cn) (hcn2 : cn ≤ 20) (hr_2 : r_2 = if 0 ≤ r ∧ r < cn then 1 else 0) (c_3 : ¬ r_2 = 0) (ex_5 : x_5 = (ln r.toNatClampNeg)) : ((x_5, (upd ln r.toNatClampNeg 0)) = t_clear r cn ln) := by
  (try subst_vars) <;> (try simp only [upd_s, upd_upd, sb1p, as1] at *) <;> simp only [t_clear] <;> grind
theorem q_X9_clear_8 {ln : Nat → Int32} {cn : Int32} {r : Int32} {r_2 : Int32} (hcn : 0 ≤ cn) (hcn2 : cn ≤ 20) (hr_2 : r_2 = if 0 ≤ r ∧ r < cn then 1 else 0) (c_3 : r_2 = 0) : (((-40000 : Int32), ln) = t_clear r cn ln) := by
  (try subst_vars) <;> (try simp only [upd_s, upd_upd, sb1p, as1] at *) <;> simp only [t_clear] <;> grind
set_option maxHeartbeats 4000000 in
set_option maxRecDepth 100000 in
theorem c_X9_clear (l : Launch) (dC : Nat → ClassId) (dI : Nat → Nat → Nat) (cI : ClassId) (sz : Nat) (aX : Nat) (m0 : Nat) (m1 : Nat) (m2 : Nat) (m3 : Nat) (m4 : Nat) (m5 : Nat) (m6 : Nat) (m7 : Nat) (m8 : Nat) (m9 : Nat) (m10 : Nat) (m11 : Nat) (m12 : Nat) (m13 : Nat) (m14 : Nat) (m15 : Nat) (ln : Nat → Int32) (cn : Int32) (op : Int32) (mx : Int32) (tp : Int32) (fa : Int32) (ro : Int32) (pp : Int32) (fm : Int32) (sp : Int32) (it : Int32) (gn : Int32) (mi : Int32) (me : Int32) (mb : Int32) (mv : Int32) (mr : Int32) (mf : Int32) (md : Int32) (mw : Int32) (r : Int32) (hcn : 0 ≤ cn) (hcn2 : cn ≤ 20) : mWi l yX9_clear wsX9_clear ({ frames := 2, cells := 0, slots := 0, locals := 43 }) [.ref aX, .int r] (dC, dI) [(cI, .int)] [(aX, .inr (6, [.int cn, .ref m0, .ref m1, .ref m2, .ref m3, .ref m4, .ref m5, .ref m6, .ref m7, .ref m8, .int mi, .int me, .ref m9, .int gn, .ref m10, .ref m11, .ref m12, .ref m13, .ref m14, .int op, .ref m15, .int tp, .int mb, .int mv, .int mr, .int mf, .int md, .int sp, .int mw, .int it, .int mx, .int fa, .int ro, .int pp, .int fm])), (m2, .inl (cI, 20, .inl ln))] sz (fun (v : Int32) (u : (Nat → Int32)) => ((v, u) = t_clear r cn ln)) (fun u : (Nat → Int32) => [(aX, .inr (6, [.int cn, .ref m0, .ref m1, .ref m2, .ref m3, .ref m4, .ref m5, .ref m6, .ref m7, .ref m8, .int mi, .int me, .ref m9, .int gn, .ref m10, .ref m11, .ref m12, .ref m13, .ref m14, .int op, .ref m15, .int tp, .int mb, .int mv, .int mr, .int mf, .int md, .int sp, .int mw, .int it, .int mx, .int fa, .int ro, .int pp, .int fm])), (m2, .inl (cI, 20, .inl u))]) := by
  refine o_wi (cc := cX9_clear) (maxL := 3) (ret := (some .int)) (by decide) rfl (Nat.le_of_ble_eq_true rfl) ?_
  intro p e s m below meth c ls A hx hb hr hml hts hown hlocks hP hK hD hS hA hl
  have hown : s.vm.findClass RX9 = some m.cls := hown
  have hl : lv_has ls 3 [(0, .ref aX), (1, .int r)] := hl
  have k_1 := hts (.fieldLink RX9 16 "ZRoutinesModel" "sizes" "[I") (List.mem_of_getElem? (i := 2) rfl)
  have k_2 := hts (.constant RX9 72 (-40000)) (List.mem_of_getElem? (i := 1) rfl)
  have i_X9 : ∀ w ∈ u_ws RX9 TX9 35, w ∈ wsX9_clear := fun _ h => List.mem_cons_of_mem _ (List.mem_append_right _ h)
  refine lv_aload_n hx hb dX9_clear_0 rfl (lv_at hl 0 rfl) ?_
  refine lv_iload_n hx hb dX9_clear_1 rfl (lv_at hl 1 rfl) ?_
  refine k_rd (ci := 6) (q0 := 0) (q := (RX9, TX9, 35)) (As := [.int r]) (rest := []) ⟨hx, hb, hml, hown, hts⟩ (c_X9_isRoutine l dC dI cI aX m0 m1 m2 m3 m4 m5 m6 m7 m8 m9 m10 m11 m12 m13 m14 m15 cn op mx tp fa ro pp fm sp it gn mi me mb mv mr mf md mw r (q_X9_clear_1 hcn hcn2)) (cwV 1 hts gX9_clear_X9_isRoutine rfl rfl rfl (by decide +kernel) ⟨Nat.le_of_ble_eq_true rfl, Nat.le_of_ble_eq_true rfl⟩) hK hP [0] rfl rfl rfl rfl hl.1 rfl (Nat.le_of_ble_eq_true rfl) dX9_clear_2 ⟨Nat.zero_le _, Nat.zero_le _⟩ (fun r_2 hr_2 => ?_)
  have hr_2 : r_2 = if 0 ≤ r ∧ r < cn then 1 else 0 := hr_2
  refine lv_if_ne (tgt := 11) hx hb dX9_clear_5 (by decide) (fun c_3 => ?_) (fun c_3 => ?_)
  · skip
    refine lv_aload_n hx hb dX9_clear_11 rfl (lv_at hl 0 rfl) ?_
    refine va_get (D := (dC, dI)) (ci := 6) (v := .ref m2) (C := RX9) (T := TX9) (N := 35) hx hb hts i_X9 hown hK hP 0 rfl rfl 3 (by decide) k_1 (fun _ h9 => h9) rfl dX9_clear_12 ?_
    refine lv_iload_n hx hb dX9_clear_15 rfl (lv_at hl 1 rfl) ?_
    refine va_iald hx hb hK hP 1 0 rfl rfl (q_X9_clear_4 hcn hcn2 hr_2 c_3) dX9_clear_16 ?_
    refine lv_topi (fun x_5 ex_5 => ?_)
    refine lv_istore_n (lv' := [(2, .int x_5), (0, .ref aX), (1, .int r)]) hx hb dX9_clear_17 rfl hl (by decide) rfl (fun ls hl => ?_)
    refine lv_aload_n hx hb dX9_clear_18 rfl (lv_at hl 1 rfl) ?_
    refine va_get (D := (dC, dI)) (ci := 6) (v := .ref m2) (C := RX9) (T := TX9) (N := 35) hx hb hts i_X9 hown hK hP 0 rfl rfl 3 (by decide) k_1 (fun _ h9 => h9) rfl dX9_clear_19 ?_
    refine lv_iload_n hx hb dX9_clear_22 rfl (lv_at hl 2 rfl) ?_
    refine lv_iconst (v := 0) hx hb dX9_clear_23 (by decide) ?_
    refine va_iast hx hb hK hP hD hS 1 0 rfl rfl (q_X9_clear_6 hcn hcn2 hr_2 c_3 ex_5) dX9_clear_24 (fun H locs hP hD hS => ?_)
    have hP : va_P (dC, dI) vwCl [(aX, .inr (6, [.int cn, .ref m0, .ref m1, .ref m2, .ref m3, .ref m4, .ref m5, .ref m6, .ref m7, .ref m8, .int mi, .int me, .ref m9, .int gn, .ref m10, .ref m11, .ref m12, .ref m13, .ref m14, .int op, .ref m15, .int tp, .int mb, .int mv, .int mr, .int mf, .int md, .int sp, .int mw, .int it, .int mx, .int fa, .int ro, .int pp, .int fm])), (m2, .inl (cI, 20, .inl (upd ln r.toNatClampNeg 0)))] H := hP
    have hD : va_D A [(aX, .inr (6, [.int cn, .ref m0, .ref m1, .ref m2, .ref m3, .ref m4, .ref m5, .ref m6, .ref m7, .ref m8, .int mi, .int me, .ref m9, .int gn, .ref m10, .ref m11, .ref m12, .ref m13, .ref m14, .int op, .ref m15, .int tp, .int mb, .int mv, .int mr, .int mf, .int md, .int sp, .int mw, .int it, .int mx, .int fa, .int ro, .int pp, .int fm])), (m2, .inl (cI, 20, .inl (upd ln r.toNatClampNeg 0)))] := hD
    refine lv_iload_n hx hb dX9_clear_25 rfl (lv_at hl 0 rfl) ?_
    exact e_wi hx hb hr hlocks dX9_clear_26 hK hS (upd ln r.toNatClampNeg 0) hP hD (q_X9_clear_7 hcn hcn2 hr_2 c_3 ex_5)
  · skip
    refine lv_ldc (v := (-40000)) hx hb hown k_2 dX9_clear_8 ?_
    exact e_wi hx hb hr hlocks dX9_clear_10 hK hS (ln) hP hD (q_X9_clear_8 hcn hcn2 hr_2 c_3)

theorem q_X9_room_3 {ur : Nat → Int32} {uc : Nat → Int32} {r : Int32} {k : Int32} {r_1 : Int32} (hr_1 : r_1 = if (0 : Int32) ≤ r ∧ r ≤ (3 : Int32) then 1 else 0) (c_2 : r_1 = 0) : (((-40000 : Int32), uc, ur) = t_room r k uc ur) := by
  (try subst_vars) <;> (try simp only [upd_s, upd_upd, sb1p, as1] at *) <;> simp only [t_room] <;> grind
theorem q_X9_room_6 {r : Int32} {k : Int32} {r_1 : Int32} {r_4 : Int32} (hr_1 : r_1 = if (0 : Int32) ≤ r ∧ r ≤ (3 : Int32) then 1 else 0) (c_2 : ¬ r_1 = 0) (hr_4 : r_4 = if (0 : Int32) ≤ k ∧ k ≤ (10 : Int32) then 1 else 0) (c_5 : ¬ r_4 = 0) : vp_in r 4 := by
  exact in_of (c := 4) (by decide) (by grind) (by grind)
theorem q_X9_room_8 {uc : Nat → Int32} {r : Int32} {k : Int32} {r_1 : Int32} {r_4 : Int32} {x_7 : Int32} (hr_1 : r_1 = if (0 : Int32) ≤ r ∧ r ≤ (3 : Int32) then 1 else 0) (c_2 : ¬ r_1 = 0) (hr_4 : r_4 = if (0 : Int32) ≤ k ∧ k ≤ (10 : Int32) then 1 else 0) (c_5 : ¬ r_4 = 0) (ex_7 : x_7 = (uc r.toNatClampNeg)) : vp_in r 4 := by
  exact in_of (c := 4) (by decide) (by grind) (by grind)
theorem q_X9_room_9 {uc : Nat → Int32} {r : Int32} {k : Int32} {r_1 : Int32} {r_4 : Int32} {x_7 : Int32} (hr_1 : r_1 = if (0 : Int32) ≤ r ∧ r ≤ (3 : Int32) then 1 else 0) (c_2 : ¬ r_1 = 0) (hr_4 : r_4 = if (0 : Int32) ≤ k ∧ k ≤ (10 : Int32) then 1 else 0) (c_5 : ¬ r_4 = 0) (ex_7 : x_7 = (uc r.toNatClampNeg)) : vp_in r 4 := by
  exact in_of (c := 4) (by decide) (by grind) (by grind)
theorem q_X9_room_10 {ur : Nat → Int32} {uc : Nat → Int32} {r : Int32} {k : Int32} {r_1 : Int32} {r_4 : Int32} {x_7 : Int32} (hr_1 : r_1 = if (0 : Int32) ≤ r ∧ r ≤ (3 : Int32) then 1 else 0) (c_2 : ¬ r_1 = 0) (hr_4 : r_4 = if (0 : Int32) ≤ k ∧ k ≤ (10 : Int32) then 1 else 0) (c_5 : ¬ r_4 = 0) (ex_7 : x_7 = (uc r.toNatClampNeg)) : ((x_7, (upd uc r.toNatClampNeg 0), (upd ur r.toNatClampNeg k)) = t_room r k uc ur) := by
  (try subst_vars) <;> (try simp only [upd_s, upd_upd, sb1p, as1] at *) <;> simp only [t_room] <;> grind
theorem q_X9_room_11 {ur : Nat → Int32} {uc : Nat → Int32} {r : Int32} {k : Int32} {r_1 : Int32} {r_4 : Int32} (hr_1 : r_1 = if (0 : Int32) ≤ r ∧ r ≤ (3 : Int32) then 1 else 0) (c_2 : ¬ r_1 = 0) (hr_4 : r_4 = if (0 : Int32) ≤ k ∧ k ≤ (10 : Int32) then 1 else 0) (c_5 : r_4 = 0) : (((-40000 : Int32), uc, ur) = t_room r k uc ur) := by
  (try subst_vars) <;> (try simp only [upd_s, upd_upd, sb1p, as1] at *) <;> simp only [t_room] <;> grind
set_option maxHeartbeats 4000000 in
set_option maxRecDepth 100000 in
theorem c_X9_room (l : Launch) (dC : Nat → ClassId) (dI : Nat → Nat → Nat) (cI : ClassId) (sz : Nat) (aX : Nat) (m0 : Nat) (m1 : Nat) (m2 : Nat) (m3 : Nat) (m4 : Nat) (m5 : Nat) (m6 : Nat) (m7 : Nat) (m8 : Nat) (m9 : Nat) (m10 : Nat) (m11 : Nat) (m12 : Nat) (m13 : Nat) (m14 : Nat) (m15 : Nat) (ur : Nat → Int32) (uc : Nat → Int32) (cn : Int32) (op : Int32) (mx : Int32) (tp : Int32) (fa : Int32) (ro : Int32) (pp : Int32) (fm : Int32) (sp : Int32) (it : Int32) (gn : Int32) (mi : Int32) (me : Int32) (mb : Int32) (mv : Int32) (mr : Int32) (mf : Int32) (md : Int32) (mw : Int32) (r : Int32) (k : Int32)  : mWi l yX9_room wsX9_room ({ frames := 1, cells := 0, slots := 0, locals := 22 }) [.ref aX, .int r, .int k] (dC, dI) [(cI, .int)] [(aX, .inr (6, [.int cn, .ref m0, .ref m1, .ref m2, .ref m3, .ref m4, .ref m5, .ref m6, .ref m7, .ref m8, .int mi, .int me, .ref m9, .int gn, .ref m10, .ref m11, .ref m12, .ref m13, .ref m14, .int op, .ref m15, .int tp, .int mb, .int mv, .int mr, .int mf, .int md, .int sp, .int mw, .int it, .int mx, .int fa, .int ro, .int pp, .int fm])), (m6, .inl (cI, 4, .inl ur)), (m7, .inl (cI, 4, .inl uc))] sz (fun (v : Int32) (u : (Nat → Int32) × (Nat → Int32)) => ((v, u.1, u.2) = t_room r k uc ur)) (fun u : (Nat → Int32) × (Nat → Int32) => [(aX, .inr (6, [.int cn, .ref m0, .ref m1, .ref m2, .ref m3, .ref m4, .ref m5, .ref m6, .ref m7, .ref m8, .int mi, .int me, .ref m9, .int gn, .ref m10, .ref m11, .ref m12, .ref m13, .ref m14, .int op, .ref m15, .int tp, .int mb, .int mv, .int mr, .int mf, .int md, .int sp, .int mw, .int it, .int mx, .int fa, .int ro, .int pp, .int fm])), (m6, .inl (cI, 4, .inl u.2)), (m7, .inl (cI, 4, .inl u.1))]) := by
  refine o_wi (cc := cX9_room) (maxL := 4) (ret := (some .int)) (by decide) rfl (Nat.le_of_ble_eq_true rfl) ?_
  intro p e s m below meth c ls A hx hb hr hml hts hown hlocks hP hK hD hS hA hl
  have hown : s.vm.findClass RX9 = some m.cls := hown
  have hl : lv_has ls 4 [(0, .ref aX), (1, .int r), (2, .int k)] := hl
  have k_1 := hts (.constant RX9 72 (-40000)) (List.mem_of_getElem? (i := 1) rfl)
  have k_2 := hts (.fieldLink RX9 31 "ZRoutinesModel" "users" "[I") (List.mem_of_getElem? (i := 2) rfl)
  have k_3 := hts (.fieldLink RX9 28 "ZRoutinesModel" "rooms" "[I") (List.mem_of_getElem? (i := 3) rfl)
  have i_X9 : ∀ w ∈ u_ws RX9 TX9 35, w ∈ wsX9_room := fun _ h => List.mem_cons_of_mem _ (List.mem_append_right _ h)
  refine lv_iload_n hx hb dX9_room_0 rfl (lv_at hl 1 rfl) ?_
  refine lv_iconst (v := 0) hx hb dX9_room_1 (by decide) ?_
  refine lv_iconst (v := 3) hx hb dX9_room_2 (by decide) ?_
  refine k_rs (As := [.int r, .int 0, .int 3]) (rest := []) ⟨hx, hb, hml, hown, hts⟩ (c_X9_in l dC dI cI r 0 3 ) (va_cwS 3 hts gX9_room_X9_in rfl rfl rfl (by decide +kernel) ⟨Nat.le_of_ble_eq_true rfl, Nat.le_of_ble_eq_true rfl⟩) hK hP [] rfl rfl hl.1 rfl (Nat.le_of_ble_eq_true rfl) dX9_room_3 ⟨Nat.zero_le _, Nat.zero_le _⟩ (fun r_1 hr_1 => ?_)
  have hr_1 : r_1 = if (0 : Int32) ≤ r ∧ r ≤ (3 : Int32) then 1 else 0 := hr_1
  refine lv_if_eq (tgt := 19) hx hb dX9_room_6 (by decide) (fun c_2 => ?_) (fun c_2 => ?_)
  · skip
    refine lv_ldc (v := (-40000)) hx hb hown k_1 dX9_room_19 ?_
    exact e_wi hx hb hr hlocks dX9_room_21 hK hS (uc, ur) hP hD (q_X9_room_3 hr_1 c_2)
  · skip
    refine lv_iload_n hx hb dX9_room_9 rfl (lv_at hl 2 rfl) ?_
    refine lv_iconst (v := 0) hx hb dX9_room_10 (by decide) ?_
    refine lv_bipush (v := 10) hx hb dX9_room_11 (by decide) ?_
    refine k_rs (As := [.int k, .int 0, .int 10]) (rest := []) ⟨hx, hb, hml, hown, hts⟩ (c_X9_in l dC dI cI k 0 10 ) (va_cwS 3 hts gX9_room_X9_in rfl rfl rfl (by decide +kernel) ⟨Nat.le_of_ble_eq_true rfl, Nat.le_of_ble_eq_true rfl⟩) hK hP [] rfl rfl hl.1 rfl (Nat.le_of_ble_eq_true rfl) dX9_room_13 ⟨Nat.zero_le _, Nat.zero_le _⟩ (fun r_4 hr_4 => ?_)
    have hr_4 : r_4 = if (0 : Int32) ≤ k ∧ k ≤ (10 : Int32) then 1 else 0 := hr_4
    refine lv_if_ne (tgt := 22) hx hb dX9_room_16 (by decide) (fun c_5 => ?_) (fun c_5 => ?_)
    · skip
      refine lv_aload_n hx hb dX9_room_22 rfl (lv_at hl 0 rfl) ?_
      refine va_get (D := (dC, dI)) (ci := 6) (v := .ref m7) (C := RX9) (T := TX9) (N := 35) hx hb hts i_X9 hown hK hP 0 rfl rfl 8 (by decide) k_2 (fun _ h9 => h9) rfl dX9_room_23 ?_
      refine lv_iload_n hx hb dX9_room_26 rfl (lv_at hl 1 rfl) ?_
      refine va_iald hx hb hK hP 2 0 rfl rfl (q_X9_room_6 hr_1 c_2 hr_4 c_5) dX9_room_27 ?_
      refine lv_topi (fun x_7 ex_7 => ?_)
      refine lv_istore_n (lv' := [(3, .int x_7), (0, .ref aX), (1, .int r), (2, .int k)]) hx hb dX9_room_28 rfl hl (by decide) rfl (fun ls hl => ?_)
      refine lv_aload_n hx hb dX9_room_29 rfl (lv_at hl 1 rfl) ?_
      refine va_get (D := (dC, dI)) (ci := 6) (v := .ref m7) (C := RX9) (T := TX9) (N := 35) hx hb hts i_X9 hown hK hP 0 rfl rfl 8 (by decide) k_2 (fun _ h9 => h9) rfl dX9_room_30 ?_
      refine lv_iload_n hx hb dX9_room_33 rfl (lv_at hl 2 rfl) ?_
      refine lv_iconst (v := 0) hx hb dX9_room_34 (by decide) ?_
      refine va_iast hx hb hK hP hD hS 2 0 rfl rfl (q_X9_room_8 hr_1 c_2 hr_4 c_5 ex_7) dX9_room_35 (fun H locs hP hD hS => ?_)
      have hP : va_P (dC, dI) vwCl [(aX, .inr (6, [.int cn, .ref m0, .ref m1, .ref m2, .ref m3, .ref m4, .ref m5, .ref m6, .ref m7, .ref m8, .int mi, .int me, .ref m9, .int gn, .ref m10, .ref m11, .ref m12, .ref m13, .ref m14, .int op, .ref m15, .int tp, .int mb, .int mv, .int mr, .int mf, .int md, .int sp, .int mw, .int it, .int mx, .int fa, .int ro, .int pp, .int fm])), (m6, .inl (cI, 4, .inl ur)), (m7, .inl (cI, 4, .inl (upd uc r.toNatClampNeg 0)))] H := hP
      have hD : va_D A [(aX, .inr (6, [.int cn, .ref m0, .ref m1, .ref m2, .ref m3, .ref m4, .ref m5, .ref m6, .ref m7, .ref m8, .int mi, .int me, .ref m9, .int gn, .ref m10, .ref m11, .ref m12, .ref m13, .ref m14, .int op, .ref m15, .int tp, .int mb, .int mv, .int mr, .int mf, .int md, .int sp, .int mw, .int it, .int mx, .int fa, .int ro, .int pp, .int fm])), (m6, .inl (cI, 4, .inl ur)), (m7, .inl (cI, 4, .inl (upd uc r.toNatClampNeg 0)))] := hD
      refine lv_aload_n hx hb dX9_room_36 rfl (lv_at hl 1 rfl) ?_
      refine va_get (D := (dC, dI)) (ci := 6) (v := .ref m6) (C := RX9) (T := TX9) (N := 35) hx hb hts i_X9 hown hK hP 0 rfl rfl 7 (by decide) k_3 (fun _ h9 => h9) rfl dX9_room_37 ?_
      refine lv_iload_n hx hb dX9_room_40 rfl (lv_at hl 2 rfl) ?_
      refine lv_iload_n hx hb dX9_room_41 rfl (lv_at hl 3 rfl) ?_
      refine va_iast hx hb hK hP hD hS 1 0 rfl rfl (q_X9_room_9 hr_1 c_2 hr_4 c_5 ex_7) dX9_room_42 (fun H locs hP hD hS => ?_)
      have hP : va_P (dC, dI) vwCl [(aX, .inr (6, [.int cn, .ref m0, .ref m1, .ref m2, .ref m3, .ref m4, .ref m5, .ref m6, .ref m7, .ref m8, .int mi, .int me, .ref m9, .int gn, .ref m10, .ref m11, .ref m12, .ref m13, .ref m14, .int op, .ref m15, .int tp, .int mb, .int mv, .int mr, .int mf, .int md, .int sp, .int mw, .int it, .int mx, .int fa, .int ro, .int pp, .int fm])), (m6, .inl (cI, 4, .inl (upd ur r.toNatClampNeg k))), (m7, .inl (cI, 4, .inl (upd uc r.toNatClampNeg 0)))] H := hP
      have hD : va_D A [(aX, .inr (6, [.int cn, .ref m0, .ref m1, .ref m2, .ref m3, .ref m4, .ref m5, .ref m6, .ref m7, .ref m8, .int mi, .int me, .ref m9, .int gn, .ref m10, .ref m11, .ref m12, .ref m13, .ref m14, .int op, .ref m15, .int tp, .int mb, .int mv, .int mr, .int mf, .int md, .int sp, .int mw, .int it, .int mx, .int fa, .int ro, .int pp, .int fm])), (m6, .inl (cI, 4, .inl (upd ur r.toNatClampNeg k))), (m7, .inl (cI, 4, .inl (upd uc r.toNatClampNeg 0)))] := hD
      refine lv_iload_n hx hb dX9_room_43 rfl (lv_at hl 0 rfl) ?_
      exact e_wi hx hb hr hlocks dX9_room_44 hK hS (upd uc r.toNatClampNeg 0, upd ur r.toNatClampNeg k) hP hD (q_X9_room_10 hr_1 c_2 hr_4 c_5 ex_7)
    · skip
      refine lv_ldc (v := (-40000)) hx hb hown k_1 dX9_room_19 ?_
      exact e_wi hx hb hr hlocks dX9_room_21 hK hS (uc, ur) hP hD (q_X9_room_11 hr_1 c_2 hr_4 c_5)

theorem q_X9_user_3 {uc : Nat → Int32} {un : Nat → Int32} {r : Int32} {k : Int32} {r_1 : Int32} (huc1 : ∀ j, 0 ≤ uc j) (huc3 : ∀ j, uc j ≤ 10) (hr_1 : r_1 = if (0 : Int32) ≤ r ∧ r ≤ (3 : Int32) then 1 else 0) (c_2 : r_1 = 0) : ((-40000 : Int32) = t_user r k uc un) := by
  (try subst_vars) <;> (try simp only [upd_s, upd_upd, sb1p, as1] at *) <;> simp only [t_user, mc10 r] <;> grind
theorem q_X9_user_4 {uc : Nat → Int32} {r : Int32} {r_1 : Int32} (huc1 : ∀ j, 0 ≤ uc j) (huc3 : ∀ j, uc j ≤ 10) (hr_1 : r_1 = if (0 : Int32) ≤ r ∧ r ≤ (3 : Int32) then 1 else 0) (c_2 : ¬ r_1 = 0) : vp_in r 4 := by
  exact in_of (c := 4) (by decide) (by grind) (by grind)
theorem q_X9_user_6 {uc : Nat → Int32} {r : Int32} {r_1 : Int32} (huc1 : ∀ j, 0 ≤ uc j) (huc3 : ∀ j, uc j ≤ 10) (hr_1 : r_1 = if (0 : Int32) ≤ r ∧ r ≤ (3 : Int32) then 1 else 0) (c_2 : ¬ r_1 = 0) : 0 ≤ (uc r.toNatClampNeg) := by
  grind
theorem q_X9_user_9 {uc : Nat → Int32} {r : Int32} {k : Int32} {r_1 : Int32} {r_5 : Int32} (huc1 : ∀ j, 0 ≤ uc j) (huc3 : ∀ j, uc j ≤ 10) (hr_1 : r_1 = if (0 : Int32) ≤ r ∧ r ≤ (3 : Int32) then 1 else 0) (c_2 : ¬ r_1 = 0) (hr_5 : r_5 = if (-1) ≤ k ∧ k < (uc r.toNatClampNeg) then 1 else 0) (c_7 : ¬ r_5 = 0) (c_8 : 0 ≤ k) : vp_in r 4 := by
  exact in_of (c := 4) (by decide) (by grind) (by grind)
theorem q_X9_user_10 {uc : Nat → Int32} {r : Int32} {k : Int32} {r_1 : Int32} {r_5 : Int32} (huc1 : ∀ j, 0 ≤ uc j) (huc3 : ∀ j, uc j ≤ 10) (hr_1 : r_1 = if (0 : Int32) ≤ r ∧ r ≤ (3 : Int32) then 1 else 0) (c_2 : ¬ r_1 = 0) (hr_5 : r_5 = if (-1) ≤ k ∧ k < (uc r.toNatClampNeg) then 1 else 0) (c_7 : ¬ r_5 = 0) (c_8 : 0 ≤ k) : vp_in ((((10 * r) + (uc r.toNatClampNeg)) - 1) - k) 40 := by
  exact in_of (c := 40) (by decide) (by grind) (by grind)
theorem q_X9_user_11 {uc : Nat → Int32} {un : Nat → Int32} {r : Int32} {k : Int32} {r_1 : Int32} {r_5 : Int32} (huc1 : ∀ j, 0 ≤ uc j) (huc3 : ∀ j, uc j ≤ 10) (hr_1 : r_1 = if (0 : Int32) ≤ r ∧ r ≤ (3 : Int32) then 1 else 0) (c_2 : ¬ r_1 = 0) (hr_5 : r_5 = if (-1) ≤ k ∧ k < (uc r.toNatClampNeg) then 1 else 0) (c_7 : ¬ r_5 = 0) (c_8 : 0 ≤ k) : ((un ((((10 * r) + (uc r.toNatClampNeg)) - 1) - k).toNatClampNeg) = t_user r k uc un) := by
  (try subst_vars) <;> (try simp only [upd_s, upd_upd, sb1p, as1] at *) <;> simp only [t_user, mc10 r] <;> grind
theorem q_X9_user_12 {uc : Nat → Int32} {r : Int32} {k : Int32} {r_1 : Int32} {r_5 : Int32} (huc1 : ∀ j, 0 ≤ uc j) (huc3 : ∀ j, uc j ≤ 10) (hr_1 : r_1 = if (0 : Int32) ≤ r ∧ r ≤ (3 : Int32) then 1 else 0) (c_2 : ¬ r_1 = 0) (hr_5 : r_5 = if (-1) ≤ k ∧ k < (uc r.toNatClampNeg) then 1 else 0) (c_7 : ¬ r_5 = 0) (c_8 : ¬ 0 ≤ k) : vp_in r 4 := by
  exact in_of (c := 4) (by decide) (by grind) (by grind)
theorem q_X9_user_13 {uc : Nat → Int32} {un : Nat → Int32} {r : Int32} {k : Int32} {r_1 : Int32} {r_5 : Int32} (huc1 : ∀ j, 0 ≤ uc j) (huc3 : ∀ j, uc j ≤ 10) (hr_1 : r_1 = if (0 : Int32) ≤ r ∧ r ≤ (3 : Int32) then 1 else 0) (c_2 : ¬ r_1 = 0) (hr_5 : r_5 = if (-1) ≤ k ∧ k < (uc r.toNatClampNeg) then 1 else 0) (c_7 : ¬ r_5 = 0) (c_8 : ¬ 0 ≤ k) : ((uc r.toNatClampNeg) = t_user r k uc un) := by
  (try subst_vars) <;> (try simp only [upd_s, upd_upd, sb1p, as1] at *) <;> simp only [t_user, mc10 r] <;> grind
theorem q_X9_user_14 {uc : Nat → Int32} {un : Nat → Int32} {r : Int32} {k : Int32} {r_1 : Int32} {r_5 : Int32} (huc1 : ∀ j, 0 ≤ uc j) (huc3 : ∀ j, uc j ≤ 10) (hr_1 : r_1 = if (0 : Int32) ≤ r ∧ r ≤ (3 : Int32) then 1 else 0) (c_2 : ¬ r_1 = 0) (hr_5 : r_5 = if (-1) ≤ k ∧ k < (uc r.toNatClampNeg) then 1 else 0) (c_7 : r_5 = 0) : ((-40000 : Int32) = t_user r k uc un) := by
  (try subst_vars) <;> (try simp only [upd_s, upd_upd, sb1p, as1] at *) <;> simp only [t_user, mc10 r] <;> grind
set_option maxHeartbeats 4000000 in
set_option maxRecDepth 100000 in
theorem c_X9_user (l : Launch) (dC : Nat → ClassId) (dI : Nat → Nat → Nat) (cI : ClassId) (aX : Nat) (m0 : Nat) (m1 : Nat) (m2 : Nat) (m3 : Nat) (m4 : Nat) (m5 : Nat) (m6 : Nat) (m7 : Nat) (m8 : Nat) (m9 : Nat) (m10 : Nat) (m11 : Nat) (m12 : Nat) (m13 : Nat) (m14 : Nat) (m15 : Nat) (uc : Nat → Int32) (un : Nat → Int32) (cn : Int32) (op : Int32) (mx : Int32) (tp : Int32) (fa : Int32) (ro : Int32) (pp : Int32) (fm : Int32) (sp : Int32) (it : Int32) (gn : Int32) (mi : Int32) (me : Int32) (mb : Int32) (mv : Int32) (mr : Int32) (mf : Int32) (md : Int32) (mw : Int32) (r : Int32) (k : Int32) (huc1 : ∀ j, 0 ≤ uc j) (huc3 : ∀ j, uc j ≤ 10) : mRd l yX9_user wsX9_user ({ frames := 1, cells := 0, slots := 0, locals := 22 }) [.ref aX, .int r, .int k] (dC, dI) [(cI, .int)] [(aX, .inr (6, [.int cn, .ref m0, .ref m1, .ref m2, .ref m3, .ref m4, .ref m5, .ref m6, .ref m7, .ref m8, .int mi, .int me, .ref m9, .int gn, .ref m10, .ref m11, .ref m12, .ref m13, .ref m14, .int op, .ref m15, .int tp, .int mb, .int mv, .int mr, .int mf, .int md, .int sp, .int mw, .int it, .int mx, .int fa, .int ro, .int pp, .int fm])), (m7, .inl (cI, 4, .inl uc)), (m8, .inl (cI, 40, .inl un))] (fun v => (v = t_user r k uc un)) := by
  refine o_rd (cc := cX9_user) (maxL := 3) (ret := (some .int)) (by decide) rfl (Nat.le_of_ble_eq_true rfl) ?_
  intro p e s m below meth c ls hx hb hr hml hts hown hlocks hP hK hl
  have hown : s.vm.findClass RX9 = some m.cls := hown
  have hl : lv_has ls 3 [(0, .ref aX), (1, .int r), (2, .int k)] := hl
  have k_1 := hts (.constant RX9 72 (-40000)) (List.mem_of_getElem? (i := 2) rfl)
  have k_2 := hts (.fieldLink RX9 31 "ZRoutinesModel" "users" "[I") (List.mem_of_getElem? (i := 1) rfl)
  have k_3 := hts (.fieldLink RX9 34 "ZRoutinesModel" "user" "[I") (List.mem_of_getElem? (i := 3) rfl)
  have i_X9 : ∀ w ∈ u_ws RX9 TX9 35, w ∈ wsX9_user := fun _ h => List.mem_cons_of_mem _ (List.mem_append_right _ h)
  refine lv_iload_n hx hb dX9_user_0 rfl (lv_at hl 1 rfl) ?_
  refine lv_iconst (v := 0) hx hb dX9_user_1 (by decide) ?_
  refine lv_iconst (v := 3) hx hb dX9_user_2 (by decide) ?_
  refine k_rs (As := [.int r, .int 0, .int 3]) (rest := []) ⟨hx, hb, hml, hown, hts⟩ (c_X9_in l dC dI cI r 0 3 ) (va_cwS 3 hts gX9_user_X9_in rfl rfl rfl (by decide +kernel) ⟨Nat.le_of_ble_eq_true rfl, Nat.le_of_ble_eq_true rfl⟩) hK hP [] rfl rfl hl.1 rfl (Nat.le_of_ble_eq_true rfl) dX9_user_3 ⟨Nat.zero_le _, Nat.zero_le _⟩ (fun r_1 hr_1 => ?_)
  have hr_1 : r_1 = if (0 : Int32) ≤ r ∧ r ≤ (3 : Int32) then 1 else 0 := hr_1
  refine lv_if_eq (tgt := 25) hx hb dX9_user_6 (by decide) (fun c_2 => ?_) (fun c_2 => ?_)
  · skip
    refine lv_ldc (v := (-40000)) hx hb hown k_1 dX9_user_25 ?_
    exact e_rdi hx hb hr hlocks dX9_user_27 (q_X9_user_3 huc1 huc3 hr_1 c_2)
  · skip
    refine lv_iload_n hx hb dX9_user_9 rfl (lv_at hl 2 rfl) ?_
    refine lv_iconst (v := (-1)) hx hb dX9_user_10 (by decide) ?_
    refine lv_aload_n hx hb dX9_user_11 rfl (lv_at hl 0 rfl) ?_
    refine va_get (D := (dC, dI)) (ci := 6) (v := .ref m7) (C := RX9) (T := TX9) (N := 35) hx hb hts i_X9 hown hK hP 0 rfl rfl 8 (by decide) k_2 (fun _ h9 => h9) rfl dX9_user_12 ?_
    refine lv_iload_n hx hb dX9_user_15 rfl (lv_at hl 1 rfl) ?_
    refine va_iald hx hb hK hP 1 0 rfl rfl (q_X9_user_4 huc1 huc3 hr_1 c_2) dX9_user_16 ?_
    refine lv_iconst (v := 1) hx hb dX9_user_17 (by decide) ?_
    refine lv_isub hx hb dX9_user_18 ?_
    refine k_rs (As := [.int k, .int (-1), .int ((uc r.toNatClampNeg) - 1)]) (rest := []) ⟨hx, hb, hml, hown, hts⟩ (c_X9_in l dC dI cI k (-1) ((uc r.toNatClampNeg) - 1) ) (va_cwS 3 hts gX9_user_X9_in rfl rfl rfl (by decide +kernel) ⟨Nat.le_of_ble_eq_true rfl, Nat.le_of_ble_eq_true rfl⟩) hK hP [] rfl rfl hl.1 rfl (Nat.le_of_ble_eq_true rfl) dX9_user_19 ⟨Nat.zero_le _, Nat.zero_le _⟩ (fun r_5 hr_5 => ?_)
    have hr_5 : r_5 = if (-1 : Int32) ≤ k ∧ k ≤ ((uc r.toNatClampNeg) - 1) then 1 else 0 := hr_5
    have hr_5 : r_5 = if (-1) ≤ k ∧ k < (uc r.toNatClampNeg) then 1 else 0 := hr_5.trans (in_sub (q_X9_user_6 huc1 huc3 hr_1 c_2))
    refine lv_if_ne (tgt := 28) hx hb dX9_user_22 (by decide) (fun c_7 => ?_) (fun c_7 => ?_)
    · skip
      refine lv_iload_n hx hb dX9_user_28 rfl (lv_at hl 2 rfl) ?_
      refine lv_if_ge (tgt := 41) hx hb dX9_user_29 (by decide) (fun c_8 => ?_) (fun c_8 => ?_)
      · skip
        refine lv_aload_n hx hb dX9_user_41 rfl (lv_at hl 0 rfl) ?_
        refine va_get (D := (dC, dI)) (ci := 6) (v := .ref m8) (C := RX9) (T := TX9) (N := 35) hx hb hts i_X9 hown hK hP 0 rfl rfl 9 (by decide) k_3 (fun _ h9 => h9) rfl dX9_user_42 ?_
        refine lv_bipush (v := 10) hx hb dX9_user_45 (by decide) ?_
        refine lv_iload_n hx hb dX9_user_47 rfl (lv_at hl 1 rfl) ?_
        refine lv_imul hx hb dX9_user_48 ?_
        refine lv_aload_n hx hb dX9_user_49 rfl (lv_at hl 0 rfl) ?_
        refine va_get (D := (dC, dI)) (ci := 6) (v := .ref m7) (C := RX9) (T := TX9) (N := 35) hx hb hts i_X9 hown hK hP 0 rfl rfl 8 (by decide) k_2 (fun _ h9 => h9) rfl dX9_user_50 ?_
        refine lv_iload_n hx hb dX9_user_53 rfl (lv_at hl 1 rfl) ?_
        refine va_iald hx hb hK hP 1 0 rfl rfl (q_X9_user_9 huc1 huc3 hr_1 c_2 hr_5 c_7 c_8) dX9_user_54 ?_
        refine lv_iadd hx hb dX9_user_55 ?_
        refine lv_iconst (v := 1) hx hb dX9_user_56 (by decide) ?_
        refine lv_isub hx hb dX9_user_57 ?_
        refine lv_iload_n hx hb dX9_user_58 rfl (lv_at hl 2 rfl) ?_
        refine lv_isub hx hb dX9_user_59 ?_
        refine va_iald hx hb hK hP 2 0 rfl rfl (q_X9_user_10 huc1 huc3 hr_1 c_2 hr_5 c_7 c_8) dX9_user_60 ?_
        exact e_rdi hx hb hr hlocks dX9_user_61 (q_X9_user_11 huc1 huc3 hr_1 c_2 hr_5 c_7 c_8)
      · skip
        refine lv_aload_n hx hb dX9_user_32 rfl (lv_at hl 0 rfl) ?_
        refine va_get (D := (dC, dI)) (ci := 6) (v := .ref m7) (C := RX9) (T := TX9) (N := 35) hx hb hts i_X9 hown hK hP 0 rfl rfl 8 (by decide) k_2 (fun _ h9 => h9) rfl dX9_user_33 ?_
        refine lv_iload_n hx hb dX9_user_36 rfl (lv_at hl 1 rfl) ?_
        refine va_iald hx hb hK hP 1 0 rfl rfl (q_X9_user_12 huc1 huc3 hr_1 c_2 hr_5 c_7 c_8) dX9_user_37 ?_
        refine lv_goto (tgt := 61) hx hb dX9_user_38 (by decide) ?_
        exact e_rdi hx hb hr hlocks dX9_user_61 (q_X9_user_13 huc1 huc3 hr_1 c_2 hr_5 c_7 c_8)
    · skip
      refine lv_ldc (v := (-40000)) hx hb hown k_1 dX9_user_25 ?_
      exact e_rdi hx hb hr hlocks dX9_user_27 (q_X9_user_14 huc1 huc3 hr_1 c_2 hr_5 c_7)

theorem q_X9_interrupt_2 {cn : Int32} {r : Int32} (hcn : 0 ≤ cn) (c_1 : ¬ r = (-1)) : 0 ≤ cn := by
  grind
theorem q_X9_interrupt_5 {cn : Int32} {mi : Int32} {me : Int32} {r : Int32} {k : Int32} {r_3 : Int32} (hcn : 0 ≤ cn) (c_1 : ¬ r = (-1)) (hr_3 : r_3 = if 0 ≤ r ∧ r < cn then 1 else 0) (c_4 : r_3 = 0) : ((-40000 : Int32) = if r = -1 then 1 else if ¬ (0 ≤ r ∧ r < cn) ∨ k < 1 ∨ 1000 < k then -40000 else 1) ∧ (mi = if r = -1 then -1 else if ¬ (0 ≤ r ∧ r < cn) ∨ k < 1 ∨ 1000 < k then mi else r) ∧ (me = if r = -1 then me else if ¬ (0 ≤ r ∧ r < cn) ∨ k < 1 ∨ 1000 < k then me else k) := by
  grind
theorem q_X9_interrupt_8 {cn : Int32} {mi : Int32} {me : Int32} {r : Int32} {k : Int32} {r_3 : Int32} {r_6 : Int32} (hcn : 0 ≤ cn) (c_1 : ¬ r = (-1)) (hr_3 : r_3 = if 0 ≤ r ∧ r < cn then 1 else 0) (c_4 : ¬ r_3 = 0) (hr_6 : r_6 = if (1 : Int32) ≤ k ∧ k ≤ (1000 : Int32) then 1 else 0) (c_7 : ¬ r_6 = 0) : ((1 : Int32) = if r = -1 then 1 else if ¬ (0 ≤ r ∧ r < cn) ∨ k < 1 ∨ 1000 < k then -40000 else 1) ∧ (r = if r = -1 then -1 else if ¬ (0 ≤ r ∧ r < cn) ∨ k < 1 ∨ 1000 < k then mi else r) ∧ (k = if r = -1 then me else if ¬ (0 ≤ r ∧ r < cn) ∨ k < 1 ∨ 1000 < k then me else k) := by
  grind
theorem q_X9_interrupt_9 {cn : Int32} {mi : Int32} {me : Int32} {r : Int32} {k : Int32} {r_3 : Int32} {r_6 : Int32} (hcn : 0 ≤ cn) (c_1 : ¬ r = (-1)) (hr_3 : r_3 = if 0 ≤ r ∧ r < cn then 1 else 0) (c_4 : ¬ r_3 = 0) (hr_6 : r_6 = if (1 : Int32) ≤ k ∧ k ≤ (1000 : Int32) then 1 else 0) (c_7 : r_6 = 0) : ((-40000 : Int32) = if r = -1 then 1 else if ¬ (0 ≤ r ∧ r < cn) ∨ k < 1 ∨ 1000 < k then -40000 else 1) ∧ (mi = if r = -1 then -1 else if ¬ (0 ≤ r ∧ r < cn) ∨ k < 1 ∨ 1000 < k then mi else r) ∧ (me = if r = -1 then me else if ¬ (0 ≤ r ∧ r < cn) ∨ k < 1 ∨ 1000 < k then me else k) := by
  grind
theorem q_X9_interrupt_10 {cn : Int32} {mi : Int32} {me : Int32} {r : Int32} {k : Int32} (hcn : 0 ≤ cn) (c_1 : r = (-1)) : ((1 : Int32) = if r = -1 then 1 else if ¬ (0 ≤ r ∧ r < cn) ∨ k < 1 ∨ 1000 < k then -40000 else 1) ∧ ((-1 : Int32) = if r = -1 then -1 else if ¬ (0 ≤ r ∧ r < cn) ∨ k < 1 ∨ 1000 < k then mi else r) ∧ (me = if r = -1 then me else if ¬ (0 ≤ r ∧ r < cn) ∨ k < 1 ∨ 1000 < k then me else k) := by
  grind
set_option maxHeartbeats 4000000 in
set_option maxRecDepth 100000 in
theorem c_X9_interrupt (l : Launch) (dC : Nat → ClassId) (dI : Nat → Nat → Nat) (cI : ClassId) (sz : Nat) (aX : Nat) (m0 : Nat) (m1 : Nat) (m2 : Nat) (m3 : Nat) (m4 : Nat) (m5 : Nat) (m6 : Nat) (m7 : Nat) (m8 : Nat) (m9 : Nat) (m10 : Nat) (m11 : Nat) (m12 : Nat) (m13 : Nat) (m14 : Nat) (m15 : Nat) (cn : Int32) (op : Int32) (mx : Int32) (tp : Int32) (fa : Int32) (ro : Int32) (pp : Int32) (fm : Int32) (sp : Int32) (it : Int32) (gn : Int32) (mi : Int32) (me : Int32) (mb : Int32) (mv : Int32) (mr : Int32) (mf : Int32) (md : Int32) (mw : Int32) (r : Int32) (k : Int32) (hcn : 0 ≤ cn) : mWi l yX9_interrupt wsX9_interrupt ({ frames := 2, cells := 0, slots := 0, locals := 43 }) [.ref aX, .int r, .int k] (dC, dI) [(cI, .int)] [(aX, .inr (6, [.int cn, .ref m0, .ref m1, .ref m2, .ref m3, .ref m4, .ref m5, .ref m6, .ref m7, .ref m8, .int mi, .int me, .ref m9, .int gn, .ref m10, .ref m11, .ref m12, .ref m13, .ref m14, .int op, .ref m15, .int tp, .int mb, .int mv, .int mr, .int mf, .int md, .int sp, .int mw, .int it, .int mx, .int fa, .int ro, .int pp, .int fm]))] sz (fun (v : Int32) (u : (Int32) × (Int32)) => (v = if r = -1 then 1 else if ¬ (0 ≤ r ∧ r < cn) ∨ k < 1 ∨ 1000 < k then -40000 else 1) ∧ (u.1 = if r = -1 then -1 else if ¬ (0 ≤ r ∧ r < cn) ∨ k < 1 ∨ 1000 < k then mi else r) ∧ (u.2 = if r = -1 then me else if ¬ (0 ≤ r ∧ r < cn) ∨ k < 1 ∨ 1000 < k then me else k)) (fun u : (Int32) × (Int32) => [(aX, .inr (6, [.int cn, .ref m0, .ref m1, .ref m2, .ref m3, .ref m4, .ref m5, .ref m6, .ref m7, .ref m8, .int u.1, .int u.2, .ref m9, .int gn, .ref m10, .ref m11, .ref m12, .ref m13, .ref m14, .int op, .ref m15, .int tp, .int mb, .int mv, .int mr, .int mf, .int md, .int sp, .int mw, .int it, .int mx, .int fa, .int ro, .int pp, .int fm]))]) := by
  refine o_wi (cc := cX9_interrupt) (maxL := 3) (ret := (some .int)) (by decide) rfl (Nat.le_of_ble_eq_true rfl) ?_
  intro p e s m below meth c ls A hx hb hr hml hts hown hlocks hP hK hD hS hA hl
  have hown : s.vm.findClass RX9 = some m.cls := hown
  have hl : lv_has ls 3 [(0, .ref aX), (1, .int r), (2, .int k)] := hl
  have k_1 := hts (.constant RX9 72 (-40000)) (List.mem_of_getElem? (i := 2) rfl)
  have k_2 := hts (.fieldLink RX9 37 "ZRoutinesModel" "interruptRoutine" "I") (List.mem_of_getElem? (i := 1) rfl)
  have k_3 := hts (.fieldLink RX9 41 "ZRoutinesModel" "every" "I") (List.mem_of_getElem? (i := 3) rfl)
  have i_X9 : ∀ w ∈ u_ws RX9 TX9 35, w ∈ wsX9_interrupt := fun _ h => List.mem_cons_of_mem _ (List.mem_append_right _ h)
  refine lv_iload_n hx hb dX9_interrupt_0 rfl (lv_at hl 1 rfl) ?_
  refine lv_iconst (v := (-1)) hx hb dX9_interrupt_1 (by decide) ?_
  refine lv_icmp_ne (tgt := 12) hx hb dX9_interrupt_2 (by decide) (fun c_1 => ?_) (fun c_1 => ?_)
  · skip
    refine lv_aload_n hx hb dX9_interrupt_12 rfl (lv_at hl 0 rfl) ?_
    refine lv_iload_n hx hb dX9_interrupt_13 rfl (lv_at hl 1 rfl) ?_
    refine k_rd (ci := 6) (q0 := 0) (q := (RX9, TX9, 35)) (As := [.int r]) (rest := []) ⟨hx, hb, hml, hown, hts⟩ (c_X9_isRoutine l dC dI cI aX m0 m1 m2 m3 m4 m5 m6 m7 m8 m9 m10 m11 m12 m13 m14 m15 cn op mx tp fa ro pp fm sp it gn mi me mb mv mr mf md mw r (q_X9_interrupt_2 hcn c_1)) (cwV 1 hts gX9_interrupt_X9_isRoutine rfl rfl rfl (by decide +kernel) ⟨Nat.le_of_ble_eq_true rfl, Nat.le_of_ble_eq_true rfl⟩) hK hP [0] rfl rfl rfl rfl hl.1 rfl (Nat.le_of_ble_eq_true rfl) dX9_interrupt_14 ⟨Nat.zero_le _, Nat.zero_le _⟩ (fun r_3 hr_3 => ?_)
    have hr_3 : r_3 = if 0 ≤ r ∧ r < cn then 1 else 0 := hr_3
    refine lv_if_eq (tgt := 31) hx hb dX9_interrupt_17 (by decide) (fun c_4 => ?_) (fun c_4 => ?_)
    · skip
      refine lv_ldc (v := (-40000)) hx hb hown k_1 dX9_interrupt_31 ?_
      exact e_wi hx hb hr hlocks dX9_interrupt_33 hK hS (mi, me) hP hD (q_X9_interrupt_5 hcn c_1 hr_3 c_4)
    · skip
      refine lv_iload_n hx hb dX9_interrupt_20 rfl (lv_at hl 2 rfl) ?_
      refine lv_iconst (v := 1) hx hb dX9_interrupt_21 (by decide) ?_
      refine lv_sipush (v := 1000) hx hb dX9_interrupt_22 (by decide) ?_
      refine k_rs (As := [.int k, .int 1, .int 1000]) (rest := []) ⟨hx, hb, hml, hown, hts⟩ (c_X9_in l dC dI cI k 1 1000 ) (va_cwS 3 hts gX9_interrupt_X9_in rfl rfl rfl (by decide +kernel) ⟨Nat.le_of_ble_eq_true rfl, Nat.le_of_ble_eq_true rfl⟩) hK hP [] rfl rfl hl.1 rfl (Nat.le_of_ble_eq_true rfl) dX9_interrupt_25 ⟨Nat.zero_le _, Nat.zero_le _⟩ (fun r_6 hr_6 => ?_)
      have hr_6 : r_6 = if (1 : Int32) ≤ k ∧ k ≤ (1000 : Int32) then 1 else 0 := hr_6
      refine lv_if_ne (tgt := 34) hx hb dX9_interrupt_28 (by decide) (fun c_7 => ?_) (fun c_7 => ?_)
      · skip
        refine lv_aload_n hx hb dX9_interrupt_34 rfl (lv_at hl 0 rfl) ?_
        refine lv_iload_n hx hb dX9_interrupt_35 rfl (lv_at hl 1 rfl) ?_
        refine va_put (D := (dC, dI)) (ci := 6) (v := .int r) (ty := .int) (C := RX9) (T := TX9) (N := 35) hx hb hts i_X9 tyX9 tyX9_ok nmX9 hown hK hP hD hS 0 rfl rfl 10 (by decide) k_2 (fun _ h9 => h9) rfl (by decide +kernel) rfl rfl (Nat.le_of_ble_eq_true rfl) dX9_interrupt_36 (fun H locs hP hD hS => ?_)
        have hP : va_P (dC, dI) vwCl [(aX, .inr (6, [.int cn, .ref m0, .ref m1, .ref m2, .ref m3, .ref m4, .ref m5, .ref m6, .ref m7, .ref m8, .int r, .int me, .ref m9, .int gn, .ref m10, .ref m11, .ref m12, .ref m13, .ref m14, .int op, .ref m15, .int tp, .int mb, .int mv, .int mr, .int mf, .int md, .int sp, .int mw, .int it, .int mx, .int fa, .int ro, .int pp, .int fm]))] H := hP
        have hD : va_D A [(aX, .inr (6, [.int cn, .ref m0, .ref m1, .ref m2, .ref m3, .ref m4, .ref m5, .ref m6, .ref m7, .ref m8, .int r, .int me, .ref m9, .int gn, .ref m10, .ref m11, .ref m12, .ref m13, .ref m14, .int op, .ref m15, .int tp, .int mb, .int mv, .int mr, .int mf, .int md, .int sp, .int mw, .int it, .int mx, .int fa, .int ro, .int pp, .int fm]))] := hD
        refine lv_aload_n hx hb dX9_interrupt_39 rfl (lv_at hl 0 rfl) ?_
        refine lv_iload_n hx hb dX9_interrupt_40 rfl (lv_at hl 2 rfl) ?_
        refine va_put (D := (dC, dI)) (ci := 6) (v := .int k) (ty := .int) (C := RX9) (T := TX9) (N := 35) hx hb hts i_X9 tyX9 tyX9_ok nmX9 hown hK hP hD hS 0 rfl rfl 11 (by decide) k_3 (fun _ h9 => h9) rfl (by decide +kernel) rfl rfl (Nat.le_of_ble_eq_true rfl) dX9_interrupt_41 (fun H locs hP hD hS => ?_)
        have hP : va_P (dC, dI) vwCl [(aX, .inr (6, [.int cn, .ref m0, .ref m1, .ref m2, .ref m3, .ref m4, .ref m5, .ref m6, .ref m7, .ref m8, .int r, .int k, .ref m9, .int gn, .ref m10, .ref m11, .ref m12, .ref m13, .ref m14, .int op, .ref m15, .int tp, .int mb, .int mv, .int mr, .int mf, .int md, .int sp, .int mw, .int it, .int mx, .int fa, .int ro, .int pp, .int fm]))] H := hP
        have hD : va_D A [(aX, .inr (6, [.int cn, .ref m0, .ref m1, .ref m2, .ref m3, .ref m4, .ref m5, .ref m6, .ref m7, .ref m8, .int r, .int k, .ref m9, .int gn, .ref m10, .ref m11, .ref m12, .ref m13, .ref m14, .int op, .ref m15, .int tp, .int mb, .int mv, .int mr, .int mf, .int md, .int sp, .int mw, .int it, .int mx, .int fa, .int ro, .int pp, .int fm]))] := hD
        refine lv_iconst (v := 1) hx hb dX9_interrupt_44 (by decide) ?_
        exact e_wi hx hb hr hlocks dX9_interrupt_45 hK hS (r, k) hP hD (q_X9_interrupt_8 hcn c_1 hr_3 c_4 hr_6 c_7)
      · skip
        refine lv_ldc (v := (-40000)) hx hb hown k_1 dX9_interrupt_31 ?_
        exact e_wi hx hb hr hlocks dX9_interrupt_33 hK hS (mi, me) hP hD (q_X9_interrupt_9 hcn c_1 hr_3 c_4 hr_6 c_7)
  · skip
    refine lv_aload_n hx hb dX9_interrupt_5 rfl (lv_at hl 0 rfl) ?_
    refine lv_iconst (v := (-1)) hx hb dX9_interrupt_6 (by decide) ?_
    refine va_put (D := (dC, dI)) (ci := 6) (v := .int (-1)) (ty := .int) (C := RX9) (T := TX9) (N := 35) hx hb hts i_X9 tyX9 tyX9_ok nmX9 hown hK hP hD hS 0 rfl rfl 10 (by decide) k_2 (fun _ h9 => h9) rfl (by decide +kernel) rfl rfl (Nat.le_of_ble_eq_true rfl) dX9_interrupt_7 (fun H locs hP hD hS => ?_)
    have hP : va_P (dC, dI) vwCl [(aX, .inr (6, [.int cn, .ref m0, .ref m1, .ref m2, .ref m3, .ref m4, .ref m5, .ref m6, .ref m7, .ref m8, .int (-1), .int me, .ref m9, .int gn, .ref m10, .ref m11, .ref m12, .ref m13, .ref m14, .int op, .ref m15, .int tp, .int mb, .int mv, .int mr, .int mf, .int md, .int sp, .int mw, .int it, .int mx, .int fa, .int ro, .int pp, .int fm]))] H := hP
    have hD : va_D A [(aX, .inr (6, [.int cn, .ref m0, .ref m1, .ref m2, .ref m3, .ref m4, .ref m5, .ref m6, .ref m7, .ref m8, .int (-1), .int me, .ref m9, .int gn, .ref m10, .ref m11, .ref m12, .ref m13, .ref m14, .int op, .ref m15, .int tp, .int mb, .int mv, .int mr, .int mf, .int md, .int sp, .int mw, .int it, .int mx, .int fa, .int ro, .int pp, .int fm]))] := hD
    refine lv_iconst (v := 1) hx hb dX9_interrupt_10 (by decide) ?_
    exact e_wi hx hb hr hlocks dX9_interrupt_11 hK hS ((-1), me) hP hD (q_X9_interrupt_10 hcn c_1)

theorem q_X9_give_2 {gn : Int32} (hg1 : 0 ≤ gn) (hg2 : gn ≤ 15) (c_1 : ¬ gn = 15) : vp_in gn 15 := by
  exact in_of (c := 15) (by decide) (by grind) (by grind)
theorem q_X9_give_3 {gv : Nat → Int32} {gn : Int32} {w : Int32} (hg1 : 0 ≤ gn) (hg2 : gn ≤ 15) (c_1 : ¬ gn = 15) : (((gn + 1), (upd gv gn.toNatClampNeg (sx w)), (gn + 1)) = t_give w gn gv) := by
  (try subst_vars) <;> (try simp only [upd_s, upd_upd, sb1p, as1] at *) <;> simp only [t_give] <;> grind
theorem q_X9_give_4 {gv : Nat → Int32} {gn : Int32} {w : Int32} (hg1 : 0 ≤ gn) (hg2 : gn ≤ 15) (c_1 : gn = 15) : (((-40001 : Int32), gv, gn) = t_give w gn gv) := by
  (try subst_vars) <;> (try simp only [upd_s, upd_upd, sb1p, as1] at *) <;> simp only [t_give] <;> grind
set_option maxHeartbeats 4000000 in
set_option maxRecDepth 100000 in
theorem c_X9_give (l : Launch) (dC : Nat → ClassId) (dI : Nat → Nat → Nat) (cI : ClassId) (sz : Nat) (aX : Nat) (m0 : Nat) (m1 : Nat) (m2 : Nat) (m3 : Nat) (m4 : Nat) (m5 : Nat) (m6 : Nat) (m7 : Nat) (m8 : Nat) (m9 : Nat) (m10 : Nat) (m11 : Nat) (m12 : Nat) (m13 : Nat) (m14 : Nat) (m15 : Nat) (gv : Nat → Int32) (cn : Int32) (op : Int32) (mx : Int32) (tp : Int32) (fa : Int32) (ro : Int32) (pp : Int32) (fm : Int32) (sp : Int32) (it : Int32) (gn : Int32) (mi : Int32) (me : Int32) (mb : Int32) (mv : Int32) (mr : Int32) (mf : Int32) (md : Int32) (mw : Int32) (w : Int32) (hg1 : 0 ≤ gn) (hg2 : gn ≤ 15) : mWi l yX9_give wsX9_give ({ frames := 0, cells := 0, slots := 0, locals := 0 }) [.ref aX, .int w] (dC, dI) [(cI, .int)] [(aX, .inr (6, [.int cn, .ref m0, .ref m1, .ref m2, .ref m3, .ref m4, .ref m5, .ref m6, .ref m7, .ref m8, .int mi, .int me, .ref m9, .int gn, .ref m10, .ref m11, .ref m12, .ref m13, .ref m14, .int op, .ref m15, .int tp, .int mb, .int mv, .int mr, .int mf, .int md, .int sp, .int mw, .int it, .int mx, .int fa, .int ro, .int pp, .int fm])), (m9, .inl (cI, 15, .inl gv))] sz (fun (v : Int32) (u : (Nat → Int32) × (Int32)) => ((v, u.1, u.2) = t_give w gn gv)) (fun u : (Nat → Int32) × (Int32) => [(aX, .inr (6, [.int cn, .ref m0, .ref m1, .ref m2, .ref m3, .ref m4, .ref m5, .ref m6, .ref m7, .ref m8, .int mi, .int me, .ref m9, .int u.2, .ref m10, .ref m11, .ref m12, .ref m13, .ref m14, .int op, .ref m15, .int tp, .int mb, .int mv, .int mr, .int mf, .int md, .int sp, .int mw, .int it, .int mx, .int fa, .int ro, .int pp, .int fm])), (m9, .inl (cI, 15, .inl u.1))]) := by
  refine o_wi (cc := cX9_give) (maxL := 2) (ret := (some .int)) (by decide) rfl (Nat.le_of_ble_eq_true rfl) ?_
  intro p e s m below meth c ls A hx hb hr hml hts hown hlocks hP hK hD hS hA hl
  have hown : s.vm.findClass RX9 = some m.cls := hown
  have hl : lv_has ls 2 [(0, .ref aX), (1, .int w)] := hl
  have k_1 := hts (.fieldLink RX9 78 "ZRoutinesModel" "givenMany" "I") (List.mem_of_getElem? (i := 1) rfl)
  have k_2 := hts (.fieldLink RX9 44 "ZRoutinesModel" "given" "[I") (List.mem_of_getElem? (i := 3) rfl)
  have k_3 := hts (.constant RX9 73 (-40001)) (List.mem_of_getElem? (i := 2) rfl)
  have i_X9 : ∀ w ∈ u_ws RX9 TX9 35, w ∈ wsX9_give := fun _ h => List.mem_cons_of_mem _ (List.mem_append_right _ h)
  refine lv_aload_n hx hb dX9_give_0 rfl (lv_at hl 0 rfl) ?_
  refine va_get (D := (dC, dI)) (ci := 6) (v := .int gn) (C := RX9) (T := TX9) (N := 35) hx hb hts i_X9 hown hK hP 0 rfl rfl 13 (by decide) k_1 (fun _ h9 => h9) rfl dX9_give_1 ?_
  refine lv_bipush (v := 15) hx hb dX9_give_4 (by decide) ?_
  refine lv_icmp_ne (tgt := 12) hx hb dX9_give_6 (by decide) (fun c_1 => ?_) (fun c_1 => ?_)
  · skip
    refine lv_aload_n hx hb dX9_give_12 rfl (lv_at hl 0 rfl) ?_
    refine va_get (D := (dC, dI)) (ci := 6) (v := .ref m9) (C := RX9) (T := TX9) (N := 35) hx hb hts i_X9 hown hK hP 0 rfl rfl 12 (by decide) k_2 (fun _ h9 => h9) rfl dX9_give_13 ?_
    refine lv_aload_n hx hb dX9_give_16 rfl (lv_at hl 0 rfl) ?_
    refine va_get (D := (dC, dI)) (ci := 6) (v := .int gn) (C := RX9) (T := TX9) (N := 35) hx hb hts i_X9 hown hK hP 0 rfl rfl 13 (by decide) k_1 (fun _ h9 => h9) rfl dX9_give_17 ?_
    refine lv_iload_n hx hb dX9_give_20 rfl (lv_at hl 1 rfl) ?_
    refine lv_i2s (v := sx w) hx hb dX9_give_21 rfl ?_
    refine va_iast hx hb hK hP hD hS 1 0 rfl rfl (q_X9_give_2 hg1 hg2 c_1) dX9_give_22 (fun H locs hP hD hS => ?_)
    have hP : va_P (dC, dI) vwCl [(aX, .inr (6, [.int cn, .ref m0, .ref m1, .ref m2, .ref m3, .ref m4, .ref m5, .ref m6, .ref m7, .ref m8, .int mi, .int me, .ref m9, .int gn, .ref m10, .ref m11, .ref m12, .ref m13, .ref m14, .int op, .ref m15, .int tp, .int mb, .int mv, .int mr, .int mf, .int md, .int sp, .int mw, .int it, .int mx, .int fa, .int ro, .int pp, .int fm])), (m9, .inl (cI, 15, .inl (upd gv gn.toNatClampNeg (sx w))))] H := hP
    have hD : va_D A [(aX, .inr (6, [.int cn, .ref m0, .ref m1, .ref m2, .ref m3, .ref m4, .ref m5, .ref m6, .ref m7, .ref m8, .int mi, .int me, .ref m9, .int gn, .ref m10, .ref m11, .ref m12, .ref m13, .ref m14, .int op, .ref m15, .int tp, .int mb, .int mv, .int mr, .int mf, .int md, .int sp, .int mw, .int it, .int mx, .int fa, .int ro, .int pp, .int fm])), (m9, .inl (cI, 15, .inl (upd gv gn.toNatClampNeg (sx w))))] := hD
    refine lv_aload_n hx hb dX9_give_23 rfl (lv_at hl 0 rfl) ?_
    refine lv_dup hx hb dX9_give_24 rfl ?_
    refine va_get (D := (dC, dI)) (ci := 6) (v := .int gn) (C := RX9) (T := TX9) (N := 35) hx hb hts i_X9 hown hK hP 0 rfl rfl 13 (by decide) k_1 (fun _ h9 => h9) rfl dX9_give_25 ?_
    refine lv_iconst (v := 1) hx hb dX9_give_28 (by decide) ?_
    refine lv_iadd hx hb dX9_give_29 ?_
    refine va_put (D := (dC, dI)) (ci := 6) (v := .int (gn + 1)) (ty := .int) (C := RX9) (T := TX9) (N := 35) hx hb hts i_X9 tyX9 tyX9_ok nmX9 hown hK hP hD hS 0 rfl rfl 13 (by decide) k_1 (fun _ h9 => h9) rfl (by decide +kernel) rfl rfl (Nat.le_of_ble_eq_true rfl) dX9_give_30 (fun H locs hP hD hS => ?_)
    have hP : va_P (dC, dI) vwCl [(aX, .inr (6, [.int cn, .ref m0, .ref m1, .ref m2, .ref m3, .ref m4, .ref m5, .ref m6, .ref m7, .ref m8, .int mi, .int me, .ref m9, .int (gn + 1), .ref m10, .ref m11, .ref m12, .ref m13, .ref m14, .int op, .ref m15, .int tp, .int mb, .int mv, .int mr, .int mf, .int md, .int sp, .int mw, .int it, .int mx, .int fa, .int ro, .int pp, .int fm])), (m9, .inl (cI, 15, .inl (upd gv gn.toNatClampNeg (sx w))))] H := hP
    have hD : va_D A [(aX, .inr (6, [.int cn, .ref m0, .ref m1, .ref m2, .ref m3, .ref m4, .ref m5, .ref m6, .ref m7, .ref m8, .int mi, .int me, .ref m9, .int (gn + 1), .ref m10, .ref m11, .ref m12, .ref m13, .ref m14, .int op, .ref m15, .int tp, .int mb, .int mv, .int mr, .int mf, .int md, .int sp, .int mw, .int it, .int mx, .int fa, .int ro, .int pp, .int fm])), (m9, .inl (cI, 15, .inl (upd gv gn.toNatClampNeg (sx w))))] := hD
    refine lv_aload_n hx hb dX9_give_33 rfl (lv_at hl 0 rfl) ?_
    refine va_get (D := (dC, dI)) (ci := 6) (v := .int (gn + 1)) (C := RX9) (T := TX9) (N := 35) hx hb hts i_X9 hown hK hP 0 rfl rfl 13 (by decide) k_1 (fun _ h9 => h9) rfl dX9_give_34 ?_
    exact e_wi hx hb hr hlocks dX9_give_37 hK hS (upd gv gn.toNatClampNeg (sx w), (gn + 1)) hP hD (q_X9_give_3 hg1 hg2 c_1)
  · skip
    refine lv_ldc (v := (-40001)) hx hb hown k_3 dX9_give_9 ?_
    exact e_wi hx hb hr hlocks dX9_give_11 hK hS (gv, gn) hP hD (q_X9_give_4 hg1 hg2 c_1)

theorem q_X9_told_2 {mx : Int32} {fa : Int32} {ro : Int32} {pp : Int32} {fm : Int32} {sp : Int32} {it : Int32} {md : Int32} {k : Int32} (c_1o : k < 0 ∨ 7 < k) : ((-40000 : Int32) = t_told k md fa ro pp fm sp it mx) := by
  simp only [t_told]; grind
theorem q_X9_told_3 {mx : Int32} {fa : Int32} {ro : Int32} {pp : Int32} {fm : Int32} {sp : Int32} {it : Int32} {md : Int32} {k : Int32} (c_1_0 : k = 0) : (md = t_told k md fa ro pp fm sp it mx) := by
  simp only [t_told]; grind
theorem q_X9_told_4 {mx : Int32} {fa : Int32} {ro : Int32} {pp : Int32} {fm : Int32} {sp : Int32} {it : Int32} {md : Int32} {k : Int32} (c_1_1 : k = 1) : (fa = t_told k md fa ro pp fm sp it mx) := by
  simp only [t_told]; grind
theorem q_X9_told_5 {mx : Int32} {fa : Int32} {ro : Int32} {pp : Int32} {fm : Int32} {sp : Int32} {it : Int32} {md : Int32} {k : Int32} (c_1_2 : k = 2) : (ro = t_told k md fa ro pp fm sp it mx) := by
  simp only [t_told]; grind
theorem q_X9_told_6 {mx : Int32} {fa : Int32} {ro : Int32} {pp : Int32} {fm : Int32} {sp : Int32} {it : Int32} {md : Int32} {k : Int32} (c_1_3 : k = 3) : (pp = t_told k md fa ro pp fm sp it mx) := by
  simp only [t_told]; grind
theorem q_X9_told_7 {mx : Int32} {fa : Int32} {ro : Int32} {pp : Int32} {fm : Int32} {sp : Int32} {it : Int32} {md : Int32} {k : Int32} (c_1_4 : k = 4) : (fm = t_told k md fa ro pp fm sp it mx) := by
  simp only [t_told]; grind
theorem q_X9_told_8 {mx : Int32} {fa : Int32} {ro : Int32} {pp : Int32} {fm : Int32} {sp : Int32} {it : Int32} {md : Int32} {k : Int32} (c_1_5 : k = 5) : (sp = t_told k md fa ro pp fm sp it mx) := by
  simp only [t_told]; grind
theorem q_X9_told_9 {mx : Int32} {fa : Int32} {ro : Int32} {pp : Int32} {fm : Int32} {sp : Int32} {it : Int32} {md : Int32} {k : Int32} (c_1_6 : k = 6) : (it = t_told k md fa ro pp fm sp it mx) := by
  simp only [t_told]; grind
theorem q_X9_told_10 {k : Int32} (c_1o : ¬ (k < 0 ∨ 7 < k)) (c_1_0 : ¬ k = 0) (c_1_1 : ¬ k = 1) (c_1_2 : ¬ k = 2) (c_1_3 : ¬ k = 3) (c_1_4 : ¬ k = 4) (c_1_5 : ¬ k = 5) (c_1_6 : ¬ k = 6) : k = 7 := by
  grind
theorem q_X9_told_11 {mx : Int32} {fa : Int32} {ro : Int32} {pp : Int32} {fm : Int32} {sp : Int32} {it : Int32} {md : Int32} {k : Int32} (c_1_7 : k = 7) : (mx = t_told k md fa ro pp fm sp it mx) := by
  simp only [t_told]; grind
set_option maxHeartbeats 4000000 in
set_option maxRecDepth 100000 in
theorem c_X9_told (l : Launch) (dC : Nat → ClassId) (dI : Nat → Nat → Nat) (cI : ClassId) (aX : Nat) (m0 : Nat) (m1 : Nat) (m2 : Nat) (m3 : Nat) (m4 : Nat) (m5 : Nat) (m6 : Nat) (m7 : Nat) (m8 : Nat) (m9 : Nat) (m10 : Nat) (m11 : Nat) (m12 : Nat) (m13 : Nat) (m14 : Nat) (m15 : Nat) (cn : Int32) (op : Int32) (mx : Int32) (tp : Int32) (fa : Int32) (ro : Int32) (pp : Int32) (fm : Int32) (sp : Int32) (it : Int32) (gn : Int32) (mi : Int32) (me : Int32) (mb : Int32) (mv : Int32) (mr : Int32) (mf : Int32) (md : Int32) (mw : Int32) (k : Int32)  : mRd l yX9_told wsX9_told ({ frames := 0, cells := 0, slots := 0, locals := 0 }) [.ref aX, .int k] (dC, dI) [(cI, .int)] [(aX, .inr (6, [.int cn, .ref m0, .ref m1, .ref m2, .ref m3, .ref m4, .ref m5, .ref m6, .ref m7, .ref m8, .int mi, .int me, .ref m9, .int gn, .ref m10, .ref m11, .ref m12, .ref m13, .ref m14, .int op, .ref m15, .int tp, .int mb, .int mv, .int mr, .int mf, .int md, .int sp, .int mw, .int it, .int mx, .int fa, .int ro, .int pp, .int fm]))] (fun v => (v = t_told k md fa ro pp fm sp it mx)) := by
  refine o_rd (cc := cX9_told) (maxL := 2) (ret := (some .int)) (by decide) rfl (Nat.le_of_ble_eq_true rfl) ?_
  intro p e s m below meth c ls hx hb hr hml hts hown hlocks hP hK hl
  have hown : s.vm.findClass RX9 = some m.cls := hown
  have hl : lv_has ls 2 [(0, .ref aX), (1, .int k)] := hl
  have k_1 := hts (.constant RX9 72 (-40000)) (List.mem_of_getElem? (i := 9) rfl)
  have k_2 := hts (.fieldLink RX9 97 "ZRoutinesModel" "ended" "I") (List.mem_of_getElem? (i := 1) rfl)
  have k_3 := hts (.fieldLink RX9 141 "ZRoutinesModel" "toldFault" "I") (List.mem_of_getElem? (i := 2) rfl)
  have k_4 := hts (.fieldLink RX9 144 "ZRoutinesModel" "toldRoutine" "I") (List.mem_of_getElem? (i := 3) rfl)
  have k_5 := hts (.fieldLink RX9 147 "ZRoutinesModel" "toldPlace" "I") (List.mem_of_getElem? (i := 4) rfl)
  have k_6 := hts (.fieldLink RX9 150 "ZRoutinesModel" "toldFrames" "I") (List.mem_of_getElem? (i := 5) rfl)
  have k_7 := hts (.fieldLink RX9 153 "ZRoutinesModel" "steps" "I") (List.mem_of_getElem? (i := 6) rfl)
  have k_8 := hts (.fieldLink RX9 166 "ZRoutinesModel" "interrupts" "I") (List.mem_of_getElem? (i := 7) rfl)
  have k_9 := hts (.fieldLink RX9 87 "ZRoutinesModel" "most" "I") (List.mem_of_getElem? (i := 8) rfl)
  have i_X9 : ∀ w ∈ u_ws RX9 TX9 35, w ∈ wsX9_told := fun _ h => List.mem_cons_of_mem _ (List.mem_append_right _ h)
  refine lv_iload_n hx hb dX9_told_0 rfl (lv_at hl 1 rfl) ?_
  by_cases c_1o : k < 0 ∨ 7 < k
  · refine lv_tableOut (tgt := 88) hx hb dX9_told_1 (sw_out (by decide) (by decide) c_1o) (by decide) ?_
    refine lv_ldc (v := (-40000)) hx hb hown k_1 dX9_told_88 ?_
    exact e_rdi hx hb hr hlocks dX9_told_90 (q_X9_told_2 c_1o)
  by_cases c_1_0 : k = 0
  · refine lv_tableIn (off := 47) (tgt := 48) hx hb dX9_told_1 (by rw [c_1_0]; decide) (by rw [c_1_0]; decide) (by rw [c_1_0]; rfl) (by decide) ?_
    refine lv_aload_n hx hb dX9_told_48 rfl (lv_at hl 0 rfl) ?_
    refine va_get (D := (dC, dI)) (ci := 6) (v := .int md) (C := RX9) (T := TX9) (N := 35) hx hb hts i_X9 hown hK hP 0 rfl rfl 26 (by decide) k_2 (fun _ h9 => h9) rfl dX9_told_49 ?_
    exact e_rdi hx hb hr hlocks dX9_told_52 (q_X9_told_3 c_1_0)
  by_cases c_1_1 : k = 1
  · refine lv_tableIn (off := 52) (tgt := 53) hx hb dX9_told_1 (by rw [c_1_1]; decide) (by rw [c_1_1]; decide) (by rw [c_1_1]; rfl) (by decide) ?_
    refine lv_aload_n hx hb dX9_told_53 rfl (lv_at hl 0 rfl) ?_
    refine va_get (D := (dC, dI)) (ci := 6) (v := .int fa) (C := RX9) (T := TX9) (N := 35) hx hb hts i_X9 hown hK hP 0 rfl rfl 31 (by decide) k_3 (fun _ h9 => h9) rfl dX9_told_54 ?_
    exact e_rdi hx hb hr hlocks dX9_told_57 (q_X9_told_4 c_1_1)
  by_cases c_1_2 : k = 2
  · refine lv_tableIn (off := 57) (tgt := 58) hx hb dX9_told_1 (by rw [c_1_2]; decide) (by rw [c_1_2]; decide) (by rw [c_1_2]; rfl) (by decide) ?_
    refine lv_aload_n hx hb dX9_told_58 rfl (lv_at hl 0 rfl) ?_
    refine va_get (D := (dC, dI)) (ci := 6) (v := .int ro) (C := RX9) (T := TX9) (N := 35) hx hb hts i_X9 hown hK hP 0 rfl rfl 32 (by decide) k_4 (fun _ h9 => h9) rfl dX9_told_59 ?_
    exact e_rdi hx hb hr hlocks dX9_told_62 (q_X9_told_5 c_1_2)
  by_cases c_1_3 : k = 3
  · refine lv_tableIn (off := 62) (tgt := 63) hx hb dX9_told_1 (by rw [c_1_3]; decide) (by rw [c_1_3]; decide) (by rw [c_1_3]; rfl) (by decide) ?_
    refine lv_aload_n hx hb dX9_told_63 rfl (lv_at hl 0 rfl) ?_
    refine va_get (D := (dC, dI)) (ci := 6) (v := .int pp) (C := RX9) (T := TX9) (N := 35) hx hb hts i_X9 hown hK hP 0 rfl rfl 33 (by decide) k_5 (fun _ h9 => h9) rfl dX9_told_64 ?_
    exact e_rdi hx hb hr hlocks dX9_told_67 (q_X9_told_6 c_1_3)
  by_cases c_1_4 : k = 4
  · refine lv_tableIn (off := 67) (tgt := 68) hx hb dX9_told_1 (by rw [c_1_4]; decide) (by rw [c_1_4]; decide) (by rw [c_1_4]; rfl) (by decide) ?_
    refine lv_aload_n hx hb dX9_told_68 rfl (lv_at hl 0 rfl) ?_
    refine va_get (D := (dC, dI)) (ci := 6) (v := .int fm) (C := RX9) (T := TX9) (N := 35) hx hb hts i_X9 hown hK hP 0 rfl rfl 34 (by decide) k_6 (fun _ h9 => h9) rfl dX9_told_69 ?_
    exact e_rdi hx hb hr hlocks dX9_told_72 (q_X9_told_7 c_1_4)
  by_cases c_1_5 : k = 5
  · refine lv_tableIn (off := 72) (tgt := 73) hx hb dX9_told_1 (by rw [c_1_5]; decide) (by rw [c_1_5]; decide) (by rw [c_1_5]; rfl) (by decide) ?_
    refine lv_aload_n hx hb dX9_told_73 rfl (lv_at hl 0 rfl) ?_
    refine va_get (D := (dC, dI)) (ci := 6) (v := .int sp) (C := RX9) (T := TX9) (N := 35) hx hb hts i_X9 hown hK hP 0 rfl rfl 27 (by decide) k_7 (fun _ h9 => h9) rfl dX9_told_74 ?_
    exact e_rdi hx hb hr hlocks dX9_told_77 (q_X9_told_8 c_1_5)
  by_cases c_1_6 : k = 6
  · refine lv_tableIn (off := 77) (tgt := 78) hx hb dX9_told_1 (by rw [c_1_6]; decide) (by rw [c_1_6]; decide) (by rw [c_1_6]; rfl) (by decide) ?_
    refine lv_aload_n hx hb dX9_told_78 rfl (lv_at hl 0 rfl) ?_
    refine va_get (D := (dC, dI)) (ci := 6) (v := .int it) (C := RX9) (T := TX9) (N := 35) hx hb hts i_X9 hown hK hP 0 rfl rfl 29 (by decide) k_8 (fun _ h9 => h9) rfl dX9_told_79 ?_
    exact e_rdi hx hb hr hlocks dX9_told_82 (q_X9_told_9 c_1_6)
  have c_1_7 : k = 7 := (q_X9_told_10 c_1o c_1_0 c_1_1 c_1_2 c_1_3 c_1_4 c_1_5 c_1_6)
  refine lv_tableIn (off := 82) (tgt := 83) hx hb dX9_told_1 (by rw [c_1_7]; decide) (by rw [c_1_7]; decide) (by rw [c_1_7]; rfl) (by decide) ?_
  refine lv_aload_n hx hb dX9_told_83 rfl (lv_at hl 0 rfl) ?_
  refine va_get (D := (dC, dI)) (ci := 6) (v := .int mx) (C := RX9) (T := TX9) (N := 35) hx hb hts i_X9 hown hK hP 0 rfl rfl 30 (by decide) k_9 (fun _ h9 => h9) rfl dX9_told_84 ?_
  exact e_rdi hx hb hr hlocks dX9_told_87 (q_X9_told_11 c_1_7)

theorem q_X9_size_4 {ln : Nat → Int32} {cn : Int32} {k : Int32} {r_2 : Int32} (hcn : 0 ≤ cn) (hcn2 : cn ≤ 20) (c_1 : ¬ k = 0) (hr_2 : r_2 = if (1 : Int32) ≤ k ∧ k ≤ cn then 1 else 0) (c_3 : r_2 = 0) : ((-40000 : Int32) = t_size k cn ln) := by
  (try subst_vars) <;> (try simp only [upd_s, upd_upd, sb1p, as1] at *) <;> simp only [t_size] <;> grind
theorem q_X9_size_5 {cn : Int32} {k : Int32} {r_2 : Int32} (hcn : 0 ≤ cn) (hcn2 : cn ≤ 20) (c_1 : ¬ k = 0) (hr_2 : r_2 = if (1 : Int32) ≤ k ∧ k ≤ cn then 1 else 0) (c_3 : ¬ r_2 = 0) : vp_in (k - 1) 20 := by
  exact in_of (c := 20) (by decide) (by grind) (by grind)
theorem q_X9_size_6 {ln : Nat → Int32} {cn : Int32} {k : Int32} {r_2 : Int32} (hcn : 0 ≤ cn) (hcn2 : cn ≤ 20) (c_1 : ¬ k = 0) (hr_2 : r_2 = if (1 : Int32) ≤ k ∧ k ≤ cn then 1 else 0) (c_3 : ¬ r_2 = 0) : ((ln (k - 1).toNatClampNeg) = t_size k cn ln) := by
  (try subst_vars) <;> (try simp only [upd_s, upd_upd, sb1p, as1] at *) <;> simp only [t_size] <;> grind
theorem q_X9_size_7 {ln : Nat → Int32} {cn : Int32} {k : Int32} (hcn : 0 ≤ cn) (hcn2 : cn ≤ 20) (c_1 : k = 0) : (cn = t_size k cn ln) := by
  (try subst_vars) <;> (try simp only [upd_s, upd_upd, sb1p, as1] at *) <;> simp only [t_size] <;> grind
set_option maxHeartbeats 4000000 in
set_option maxRecDepth 100000 in
theorem c_X9_size (l : Launch) (dC : Nat → ClassId) (dI : Nat → Nat → Nat) (cI : ClassId) (aX : Nat) (m0 : Nat) (m1 : Nat) (m2 : Nat) (m3 : Nat) (m4 : Nat) (m5 : Nat) (m6 : Nat) (m7 : Nat) (m8 : Nat) (m9 : Nat) (m10 : Nat) (m11 : Nat) (m12 : Nat) (m13 : Nat) (m14 : Nat) (m15 : Nat) (ln : Nat → Int32) (cn : Int32) (op : Int32) (mx : Int32) (tp : Int32) (fa : Int32) (ro : Int32) (pp : Int32) (fm : Int32) (sp : Int32) (it : Int32) (gn : Int32) (mi : Int32) (me : Int32) (mb : Int32) (mv : Int32) (mr : Int32) (mf : Int32) (md : Int32) (mw : Int32) (k : Int32) (hcn : 0 ≤ cn) (hcn2 : cn ≤ 20) : mRd l yX9_size wsX9_size ({ frames := 1, cells := 0, slots := 0, locals := 22 }) [.ref aX, .int k] (dC, dI) [(cI, .int)] [(aX, .inr (6, [.int cn, .ref m0, .ref m1, .ref m2, .ref m3, .ref m4, .ref m5, .ref m6, .ref m7, .ref m8, .int mi, .int me, .ref m9, .int gn, .ref m10, .ref m11, .ref m12, .ref m13, .ref m14, .int op, .ref m15, .int tp, .int mb, .int mv, .int mr, .int mf, .int md, .int sp, .int mw, .int it, .int mx, .int fa, .int ro, .int pp, .int fm])), (m2, .inl (cI, 20, .inl ln))] (fun v => (v = t_size k cn ln)) := by
  refine o_rd (cc := cX9_size) (maxL := 2) (ret := (some .int)) (by decide) rfl (Nat.le_of_ble_eq_true rfl) ?_
  intro p e s m below meth c ls hx hb hr hml hts hown hlocks hP hK hl
  have hown : s.vm.findClass RX9 = some m.cls := hown
  have hl : lv_has ls 2 [(0, .ref aX), (1, .int k)] := hl
  have k_1 := hts (.fieldLink RX9 65 "ZRoutinesModel" "routines" "I") (List.mem_of_getElem? (i := 1) rfl)
  have k_2 := hts (.constant RX9 72 (-40000)) (List.mem_of_getElem? (i := 3) rfl)
  have k_3 := hts (.fieldLink RX9 16 "ZRoutinesModel" "sizes" "[I") (List.mem_of_getElem? (i := 2) rfl)
  have i_X9 : ∀ w ∈ u_ws RX9 TX9 35, w ∈ wsX9_size := fun _ h => List.mem_cons_of_mem _ (List.mem_append_right _ h)
  refine lv_iload_n hx hb dX9_size_0 rfl (lv_at hl 1 rfl) ?_
  refine lv_if_ne (tgt := 11) hx hb dX9_size_1 (by decide) (fun c_1 => ?_) (fun c_1 => ?_)
  · skip
    refine lv_iload_n hx hb dX9_size_11 rfl (lv_at hl 1 rfl) ?_
    refine lv_iconst (v := 1) hx hb dX9_size_12 (by decide) ?_
    refine lv_aload_n hx hb dX9_size_13 rfl (lv_at hl 0 rfl) ?_
    refine va_get (D := (dC, dI)) (ci := 6) (v := .int cn) (C := RX9) (T := TX9) (N := 35) hx hb hts i_X9 hown hK hP 0 rfl rfl 0 (by decide) k_1 (fun _ h9 => h9) rfl dX9_size_14 ?_
    refine k_rs (As := [.int k, .int 1, .int cn]) (rest := []) ⟨hx, hb, hml, hown, hts⟩ (c_X9_in l dC dI cI k 1 cn ) (va_cwS 3 hts gX9_size_X9_in rfl rfl rfl (by decide +kernel) ⟨Nat.le_of_ble_eq_true rfl, Nat.le_of_ble_eq_true rfl⟩) hK hP [] rfl rfl hl.1 rfl (Nat.le_of_ble_eq_true rfl) dX9_size_17 ⟨Nat.zero_le _, Nat.zero_le _⟩ (fun r_2 hr_2 => ?_)
    have hr_2 : r_2 = if (1 : Int32) ≤ k ∧ k ≤ cn then 1 else 0 := hr_2
    refine lv_if_eq (tgt := 34) hx hb dX9_size_20 (by decide) (fun c_3 => ?_) (fun c_3 => ?_)
    · skip
      refine lv_ldc (v := (-40000)) hx hb hown k_2 dX9_size_34 ?_
      exact e_rdi hx hb hr hlocks dX9_size_36 (q_X9_size_4 hcn hcn2 c_1 hr_2 c_3)
    · skip
      refine lv_aload_n hx hb dX9_size_23 rfl (lv_at hl 0 rfl) ?_
      refine va_get (D := (dC, dI)) (ci := 6) (v := .ref m2) (C := RX9) (T := TX9) (N := 35) hx hb hts i_X9 hown hK hP 0 rfl rfl 3 (by decide) k_3 (fun _ h9 => h9) rfl dX9_size_24 ?_
      refine lv_iload_n hx hb dX9_size_27 rfl (lv_at hl 1 rfl) ?_
      refine lv_iconst (v := 1) hx hb dX9_size_28 (by decide) ?_
      refine lv_isub hx hb dX9_size_29 ?_
      refine va_iald hx hb hK hP 1 0 rfl rfl (q_X9_size_5 hcn hcn2 c_1 hr_2 c_3) dX9_size_30 ?_
      refine lv_goto (tgt := 36) hx hb dX9_size_31 (by decide) ?_
      exact e_rdi hx hb hr hlocks dX9_size_36 (q_X9_size_6 hcn hcn2 c_1 hr_2 c_3)
  · skip
    refine lv_aload_n hx hb dX9_size_4 rfl (lv_at hl 0 rfl) ?_
    refine va_get (D := (dC, dI)) (ci := 6) (v := .int cn) (C := RX9) (T := TX9) (N := 35) hx hb hts i_X9 hown hK hP 0 rfl rfl 0 (by decide) k_1 (fun _ h9 => h9) rfl dX9_size_5 ?_
    refine lv_goto (tgt := 36) hx hb dX9_size_8 (by decide) ?_
    exact e_rdi hx hb hr hlocks dX9_size_36 (q_X9_size_7 hcn hcn2 c_1)

theorem q_X9_has_1 {op : Int32} (ho1 : 1 ≤ op) (ho2 : op ≤ 25) : vp_in (op - 1) 25 := by
  exact in_of (c := 25) (by decide) (by grind) (by grind)
theorem q_X9_has_2 {ba : Nat → Int32} {op : Int32} {tp : Int32} (ho1 : 1 ≤ op) (ho2 : op ≤ 25) : ((tp - (ba (op - 1).toNatClampNeg)) = tp - ba (op - 1).toNatClampNeg) := by
  grind
set_option maxHeartbeats 4000000 in
set_option maxRecDepth 100000 in
theorem c_X9_has (l : Launch) (dC : Nat → ClassId) (dI : Nat → Nat → Nat) (cI : ClassId) (aX : Nat) (m0 : Nat) (m1 : Nat) (m2 : Nat) (m3 : Nat) (m4 : Nat) (m5 : Nat) (m6 : Nat) (m7 : Nat) (m8 : Nat) (m9 : Nat) (m10 : Nat) (m11 : Nat) (m12 : Nat) (m13 : Nat) (m14 : Nat) (m15 : Nat) (ba : Nat → Int32) (cn : Int32) (op : Int32) (mx : Int32) (tp : Int32) (fa : Int32) (ro : Int32) (pp : Int32) (fm : Int32) (sp : Int32) (it : Int32) (gn : Int32) (mi : Int32) (me : Int32) (mb : Int32) (mv : Int32) (mr : Int32) (mf : Int32) (md : Int32) (mw : Int32) (ho1 : 1 ≤ op) (ho2 : op ≤ 25) : mRd l yX9_has wsX9_has ({ frames := 0, cells := 0, slots := 0, locals := 0 }) [.ref aX] (dC, dI) [(cI, .int)] [(aX, .inr (6, [.int cn, .ref m0, .ref m1, .ref m2, .ref m3, .ref m4, .ref m5, .ref m6, .ref m7, .ref m8, .int mi, .int me, .ref m9, .int gn, .ref m10, .ref m11, .ref m12, .ref m13, .ref m14, .int op, .ref m15, .int tp, .int mb, .int mv, .int mr, .int mf, .int md, .int sp, .int mw, .int it, .int mx, .int fa, .int ro, .int pp, .int fm])), (m12, .inl (cI, 25, .inl ba))] (fun v => (v = tp - ba (op - 1).toNatClampNeg)) := by
  refine o_rd (cc := cX9_has) (maxL := 1) (ret := (some .int)) (by decide) rfl (Nat.le_of_ble_eq_true rfl) ?_
  intro p e s m below meth c ls hx hb hr hml hts hown hlocks hP hK hl
  have hown : s.vm.findClass RX9 = some m.cls := hown
  have hl : lv_has ls 1 [(0, .ref aX)] := hl
  have k_1 := hts (.fieldLink RX9 84 "ZRoutinesModel" "top" "I") (List.mem_of_getElem? (i := 1) rfl)
  have k_2 := hts (.fieldLink RX9 53 "ZRoutinesModel" "begins" "[I") (List.mem_of_getElem? (i := 2) rfl)
  have k_3 := hts (.fieldLink RX9 81 "ZRoutinesModel" "frames" "I") (List.mem_of_getElem? (i := 3) rfl)
  have i_X9 : ∀ w ∈ u_ws RX9 TX9 35, w ∈ wsX9_has := fun _ h => List.mem_cons_of_mem _ (List.mem_append_right _ h)
  refine lv_aload_n hx hb dX9_has_0 rfl (lv_at hl 0 rfl) ?_
  refine va_get (D := (dC, dI)) (ci := 6) (v := .int tp) (C := RX9) (T := TX9) (N := 35) hx hb hts i_X9 hown hK hP 0 rfl rfl 21 (by decide) k_1 (fun _ h9 => h9) rfl dX9_has_1 ?_
  refine lv_aload_n hx hb dX9_has_4 rfl (lv_at hl 0 rfl) ?_
  refine va_get (D := (dC, dI)) (ci := 6) (v := .ref m12) (C := RX9) (T := TX9) (N := 35) hx hb hts i_X9 hown hK hP 0 rfl rfl 16 (by decide) k_2 (fun _ h9 => h9) rfl dX9_has_5 ?_
  refine lv_aload_n hx hb dX9_has_8 rfl (lv_at hl 0 rfl) ?_
  refine va_get (D := (dC, dI)) (ci := 6) (v := .int op) (C := RX9) (T := TX9) (N := 35) hx hb hts i_X9 hown hK hP 0 rfl rfl 19 (by decide) k_3 (fun _ h9 => h9) rfl dX9_has_9 ?_
  refine lv_iconst (v := 1) hx hb dX9_has_12 (by decide) ?_
  refine lv_isub hx hb dX9_has_13 ?_
  refine va_iald hx hb hK hP 1 0 rfl rfl (q_X9_has_1 ho1 ho2) dX9_has_14 ?_
  refine lv_isub hx hb dX9_has_15 ?_
  exact e_rdi hx hb hr hlocks dX9_has_16 (q_X9_has_2 ho1 ho2)

theorem q_X9_push_2 {tp : Int32} (ht1 : 0 ≤ tp) (ht2 : tp ≤ 60) (c_1 : ¬ tp = 60) : vp_in tp 61 := by
  exact in_of (c := 61) (by decide) (by grind) (by grind)
theorem q_X9_push_3 {st : Nat → Int32} {tp : Int32} {k : Int32} (ht1 : 0 ≤ tp) (ht2 : tp ≤ 60) (c_1 : ¬ tp = 60) : ((0 : Int32) = if tp = 60 then 8 else 0) ∧ ((upd st tp.toNatClampNeg (sx k)) = if tp = 60 then st else upd st tp.toNatClampNeg (sx k)) ∧ ((tp + 1) = if tp = 60 then tp else tp + 1) := by
  grind
theorem q_X9_push_4 {st : Nat → Int32} {tp : Int32} {k : Int32} (ht1 : 0 ≤ tp) (ht2 : tp ≤ 60) (c_1 : tp = 60) : ((8 : Int32) = if tp = 60 then 8 else 0) ∧ (st = if tp = 60 then st else upd st tp.toNatClampNeg (sx k)) ∧ (tp = if tp = 60 then tp else tp + 1) := by
  grind
set_option maxHeartbeats 4000000 in
set_option maxRecDepth 100000 in
theorem c_X9_push (l : Launch) (dC : Nat → ClassId) (dI : Nat → Nat → Nat) (cI : ClassId) (sz : Nat) (aX : Nat) (m0 : Nat) (m1 : Nat) (m2 : Nat) (m3 : Nat) (m4 : Nat) (m5 : Nat) (m6 : Nat) (m7 : Nat) (m8 : Nat) (m9 : Nat) (m10 : Nat) (m11 : Nat) (m12 : Nat) (m13 : Nat) (m14 : Nat) (m15 : Nat) (st : Nat → Int32) (cn : Int32) (op : Int32) (mx : Int32) (tp : Int32) (fa : Int32) (ro : Int32) (pp : Int32) (fm : Int32) (sp : Int32) (it : Int32) (gn : Int32) (mi : Int32) (me : Int32) (mb : Int32) (mv : Int32) (mr : Int32) (mf : Int32) (md : Int32) (mw : Int32) (k : Int32) (ht1 : 0 ≤ tp) (ht2 : tp ≤ 60) : mWi l yX9_push wsX9_push ({ frames := 0, cells := 0, slots := 0, locals := 0 }) [.ref aX, .int k] (dC, dI) [(cI, .int)] [(aX, .inr (6, [.int cn, .ref m0, .ref m1, .ref m2, .ref m3, .ref m4, .ref m5, .ref m6, .ref m7, .ref m8, .int mi, .int me, .ref m9, .int gn, .ref m10, .ref m11, .ref m12, .ref m13, .ref m14, .int op, .ref m15, .int tp, .int mb, .int mv, .int mr, .int mf, .int md, .int sp, .int mw, .int it, .int mx, .int fa, .int ro, .int pp, .int fm])), (m15, .inl (cI, 61, .inl st))] sz (fun (v : Int32) (u : (Nat → Int32) × (Int32)) => (v = if tp = 60 then 8 else 0) ∧ (u.1 = if tp = 60 then st else upd st tp.toNatClampNeg (sx k)) ∧ (u.2 = if tp = 60 then tp else tp + 1)) (fun u : (Nat → Int32) × (Int32) => [(aX, .inr (6, [.int cn, .ref m0, .ref m1, .ref m2, .ref m3, .ref m4, .ref m5, .ref m6, .ref m7, .ref m8, .int mi, .int me, .ref m9, .int gn, .ref m10, .ref m11, .ref m12, .ref m13, .ref m14, .int op, .ref m15, .int u.2, .int mb, .int mv, .int mr, .int mf, .int md, .int sp, .int mw, .int it, .int mx, .int fa, .int ro, .int pp, .int fm])), (m15, .inl (cI, 61, .inl u.1))]) := by
  refine o_wi (cc := cX9_push) (maxL := 2) (ret := (some .int)) (by decide) rfl (Nat.le_of_ble_eq_true rfl) ?_
  intro p e s m below meth c ls A hx hb hr hml hts hown hlocks hP hK hD hS hA hl
  have hown : s.vm.findClass RX9 = some m.cls := hown
  have hl : lv_has ls 2 [(0, .ref aX), (1, .int k)] := hl
  have k_1 := hts (.fieldLink RX9 84 "ZRoutinesModel" "top" "I") (List.mem_of_getElem? (i := 1) rfl)
  have k_2 := hts (.fieldLink RX9 62 "ZRoutinesModel" "stack" "[I") (List.mem_of_getElem? (i := 2) rfl)
  have i_X9 : ∀ w ∈ u_ws RX9 TX9 35, w ∈ wsX9_push := fun _ h => List.mem_cons_of_mem _ (List.mem_append_right _ h)
  refine lv_aload_n hx hb dX9_push_0 rfl (lv_at hl 0 rfl) ?_
  refine va_get (D := (dC, dI)) (ci := 6) (v := .int tp) (C := RX9) (T := TX9) (N := 35) hx hb hts i_X9 hown hK hP 0 rfl rfl 21 (by decide) k_1 (fun _ h9 => h9) rfl dX9_push_1 ?_
  refine lv_bipush (v := 60) hx hb dX9_push_4 (by decide) ?_
  refine lv_icmp_ne (tgt := 12) hx hb dX9_push_6 (by decide) (fun c_1 => ?_) (fun c_1 => ?_)
  · skip
    refine lv_aload_n hx hb dX9_push_12 rfl (lv_at hl 0 rfl) ?_
    refine va_get (D := (dC, dI)) (ci := 6) (v := .ref m15) (C := RX9) (T := TX9) (N := 35) hx hb hts i_X9 hown hK hP 0 rfl rfl 20 (by decide) k_2 (fun _ h9 => h9) rfl dX9_push_13 ?_
    refine lv_aload_n hx hb dX9_push_16 rfl (lv_at hl 0 rfl) ?_
    refine va_get (D := (dC, dI)) (ci := 6) (v := .int tp) (C := RX9) (T := TX9) (N := 35) hx hb hts i_X9 hown hK hP 0 rfl rfl 21 (by decide) k_1 (fun _ h9 => h9) rfl dX9_push_17 ?_
    refine lv_iload_n hx hb dX9_push_20 rfl (lv_at hl 1 rfl) ?_
    refine lv_i2s (v := sx k) hx hb dX9_push_21 rfl ?_
    refine va_iast hx hb hK hP hD hS 1 0 rfl rfl (q_X9_push_2 ht1 ht2 c_1) dX9_push_22 (fun H locs hP hD hS => ?_)
    have hP : va_P (dC, dI) vwCl [(aX, .inr (6, [.int cn, .ref m0, .ref m1, .ref m2, .ref m3, .ref m4, .ref m5, .ref m6, .ref m7, .ref m8, .int mi, .int me, .ref m9, .int gn, .ref m10, .ref m11, .ref m12, .ref m13, .ref m14, .int op, .ref m15, .int tp, .int mb, .int mv, .int mr, .int mf, .int md, .int sp, .int mw, .int it, .int mx, .int fa, .int ro, .int pp, .int fm])), (m15, .inl (cI, 61, .inl (upd st tp.toNatClampNeg (sx k))))] H := hP
    have hD : va_D A [(aX, .inr (6, [.int cn, .ref m0, .ref m1, .ref m2, .ref m3, .ref m4, .ref m5, .ref m6, .ref m7, .ref m8, .int mi, .int me, .ref m9, .int gn, .ref m10, .ref m11, .ref m12, .ref m13, .ref m14, .int op, .ref m15, .int tp, .int mb, .int mv, .int mr, .int mf, .int md, .int sp, .int mw, .int it, .int mx, .int fa, .int ro, .int pp, .int fm])), (m15, .inl (cI, 61, .inl (upd st tp.toNatClampNeg (sx k))))] := hD
    refine lv_aload_n hx hb dX9_push_23 rfl (lv_at hl 0 rfl) ?_
    refine lv_dup hx hb dX9_push_24 rfl ?_
    refine va_get (D := (dC, dI)) (ci := 6) (v := .int tp) (C := RX9) (T := TX9) (N := 35) hx hb hts i_X9 hown hK hP 0 rfl rfl 21 (by decide) k_1 (fun _ h9 => h9) rfl dX9_push_25 ?_
    refine lv_iconst (v := 1) hx hb dX9_push_28 (by decide) ?_
    refine lv_iadd hx hb dX9_push_29 ?_
    refine va_put (D := (dC, dI)) (ci := 6) (v := .int (tp + 1)) (ty := .int) (C := RX9) (T := TX9) (N := 35) hx hb hts i_X9 tyX9 tyX9_ok nmX9 hown hK hP hD hS 0 rfl rfl 21 (by decide) k_1 (fun _ h9 => h9) rfl (by decide +kernel) rfl rfl (Nat.le_of_ble_eq_true rfl) dX9_push_30 (fun H locs hP hD hS => ?_)
    have hP : va_P (dC, dI) vwCl [(aX, .inr (6, [.int cn, .ref m0, .ref m1, .ref m2, .ref m3, .ref m4, .ref m5, .ref m6, .ref m7, .ref m8, .int mi, .int me, .ref m9, .int gn, .ref m10, .ref m11, .ref m12, .ref m13, .ref m14, .int op, .ref m15, .int (tp + 1), .int mb, .int mv, .int mr, .int mf, .int md, .int sp, .int mw, .int it, .int mx, .int fa, .int ro, .int pp, .int fm])), (m15, .inl (cI, 61, .inl (upd st tp.toNatClampNeg (sx k))))] H := hP
    have hD : va_D A [(aX, .inr (6, [.int cn, .ref m0, .ref m1, .ref m2, .ref m3, .ref m4, .ref m5, .ref m6, .ref m7, .ref m8, .int mi, .int me, .ref m9, .int gn, .ref m10, .ref m11, .ref m12, .ref m13, .ref m14, .int op, .ref m15, .int (tp + 1), .int mb, .int mv, .int mr, .int mf, .int md, .int sp, .int mw, .int it, .int mx, .int fa, .int ro, .int pp, .int fm])), (m15, .inl (cI, 61, .inl (upd st tp.toNatClampNeg (sx k))))] := hD
    refine lv_iconst (v := 0) hx hb dX9_push_33 (by decide) ?_
    exact e_wi hx hb hr hlocks dX9_push_34 hK hS (upd st tp.toNatClampNeg (sx k), (tp + 1)) hP hD (q_X9_push_3 ht1 ht2 c_1)
  · skip
    refine lv_bipush (v := 8) hx hb dX9_push_9 (by decide) ?_
    exact e_wi hx hb hr hlocks dX9_push_11 hK hS (st, tp) hP hD (q_X9_push_4 ht1 ht2 c_1)

theorem q_X9_reckon_1 {ba : Nat → Int32} {op : Int32} {tp : Int32} (ho1 : 1 ≤ op) (ho2 : op ≤ 25) (hb1 : 0 ≤ ba (op - 1).toNatClampNeg) (hb2 : ba (op - 1).toNatClampNeg ≤ tp) (ht2 : tp ≤ 60) : 1 ≤ op := by
  (try subst_vars) <;> grind
theorem q_X9_reckon_2 {ba : Nat → Int32} {op : Int32} {tp : Int32} (ho1 : 1 ≤ op) (ho2 : op ≤ 25) (hb1 : 0 ≤ ba (op - 1).toNatClampNeg) (hb2 : ba (op - 1).toNatClampNeg ≤ tp) (ht2 : tp ≤ 60) : op ≤ 25 := by
  (try subst_vars) <;> grind
theorem q_X9_reckon_5 {ba : Nat → Int32} {op : Int32} {tp : Int32} {r_3 : Int32} (ho1 : 1 ≤ op) (ho2 : op ≤ 25) (hb1 : 0 ≤ ba (op - 1).toNatClampNeg) (hb2 : ba (op - 1).toNatClampNeg ≤ tp) (ht2 : tp ≤ 60) (hr_3 : r_3 = tp - ba (op - 1).toNatClampNeg) (c_4 : 2 ≤ r_3) : vp_in (tp - 1) 61 := by
  exact in_of (c := 61) (by decide) (by (try subst_vars) <;> grind) (by (try subst_vars) <;> grind)
theorem q_X9_reckon_7 {ba : Nat → Int32} {st : Nat → Int32} {op : Int32} {tp : Int32} {r_3 : Int32} {x_6 : Int32} (ho1 : 1 ≤ op) (ho2 : op ≤ 25) (hb1 : 0 ≤ ba (op - 1).toNatClampNeg) (hb2 : ba (op - 1).toNatClampNeg ≤ tp) (ht2 : tp ≤ 60) (hr_3 : r_3 = tp - ba (op - 1).toNatClampNeg) (c_4 : 2 ≤ r_3) (ex_6 : x_6 = (st (tp - 1).toNatClampNeg)) : vp_in (tp - 2) 61 := by
  exact in_of (c := 61) (by decide) (by (try subst_vars) <;> grind) (by (try subst_vars) <;> grind)
theorem q_X9_reckon_17 {ba : Nat → Int32} {st : Nat → Int32} {op : Int32} {tp : Int32} {k : Int32} {r_3 : Int32} {x_6 : Int32} {x_8 : Int32} (ho1 : 1 ≤ op) (ho2 : op ≤ 25) (hb1 : 0 ≤ ba (op - 1).toNatClampNeg) (hb2 : ba (op - 1).toNatClampNeg ≤ tp) (ht2 : tp ≤ 60) (hr_3 : r_3 = tp - ba (op - 1).toNatClampNeg) (c_4 : 2 ≤ r_3) (ex_6 : x_6 = (st (tp - 1).toNatClampNeg)) (ex_8 : x_8 = (st (tp - 2).toNatClampNeg)) (c_9 : k = 6) (c_10 : ¬ x_6 = 0) (c_11 : ¬ k = 3) (c_12 : ¬ k = 4) (c_13 : ¬ k = 5) (c_14 : ¬ k = 6) (c_15 : ¬ k = 7) (c_16 : x_6 ≤ x_8) : 0 ≤ (tp - 2) := by
  (try subst_vars) <;> grind
theorem q_X9_reckon_18 {ba : Nat → Int32} {st : Nat → Int32} {op : Int32} {tp : Int32} {k : Int32} {r_3 : Int32} {x_6 : Int32} {x_8 : Int32} (ho1 : 1 ≤ op) (ho2 : op ≤ 25) (hb1 : 0 ≤ ba (op - 1).toNatClampNeg) (hb2 : ba (op - 1).toNatClampNeg ≤ tp) (ht2 : tp ≤ 60) (hr_3 : r_3 = tp - ba (op - 1).toNatClampNeg) (c_4 : 2 ≤ r_3) (ex_6 : x_6 = (st (tp - 1).toNatClampNeg)) (ex_8 : x_8 = (st (tp - 2).toNatClampNeg)) (c_9 : k = 6) (c_10 : ¬ x_6 = 0) (c_11 : ¬ k = 3) (c_12 : ¬ k = 4) (c_13 : ¬ k = 5) (c_14 : ¬ k = 6) (c_15 : ¬ k = 7) (c_16 : x_6 ≤ x_8) : (tp - 2) ≤ 60 := by
  (try subst_vars) <;> grind
theorem q_X9_reckon_23 {ba : Nat → Int32} {st : Nat → Int32} {op : Int32} {tp : Int32} {k : Int32} {r_3 : Int32} {x_6 : Int32} {x_8 : Int32} {st_21 : Nat → Int32} {tp_22 : Int32} {r_19 : Int32} (ho1 : 1 ≤ op) (ho2 : op ≤ 25) (hb1 : 0 ≤ ba (op - 1).toNatClampNeg) (hb2 : ba (op - 1).toNatClampNeg ≤ tp) (ht2 : tp ≤ 60) (hr_3 : r_3 = tp - ba (op - 1).toNatClampNeg) (c_4 : 2 ≤ r_3) (ex_6 : x_6 = (st (tp - 1).toNatClampNeg)) (ex_8 : x_8 = (st (tp - 2).toNatClampNeg)) (c_9 : k = 6) (c_10 : ¬ x_6 = 0) (c_11 : ¬ k = 3) (c_12 : ¬ k = 4) (c_13 : ¬ k = 5) (c_14 : ¬ k = 6) (c_15 : ¬ k = 7) (c_16 : x_6 ≤ x_8) (hr_19_0 : r_19 = if (tp - 2) = 60 then 8 else 0) (hr_19_1 : st_21 = if (tp - 2) = 60 then st else upd st (tp - 2).toNatClampNeg (sx (0 : Int32))) (hr_19_2 : tp_22 = if (tp - 2) = 60 then (tp - 2) else (tp - 2) + 1) : ((r_19, st_21, tp_22) = f_reckon k op tp ba st) := by
  (try subst_vars) <;> (try simp only [upd_s, upd_upd, sb1p, as1] at *) <;> simp only [f_reckon, f_ar, sb21] <;> grind
theorem q_X9_reckon_24 {ba : Nat → Int32} {st : Nat → Int32} {op : Int32} {tp : Int32} {k : Int32} {r_3 : Int32} {x_6 : Int32} {x_8 : Int32} (ho1 : 1 ≤ op) (ho2 : op ≤ 25) (hb1 : 0 ≤ ba (op - 1).toNatClampNeg) (hb2 : ba (op - 1).toNatClampNeg ≤ tp) (ht2 : tp ≤ 60) (hr_3 : r_3 = tp - ba (op - 1).toNatClampNeg) (c_4 : 2 ≤ r_3) (ex_6 : x_6 = (st (tp - 1).toNatClampNeg)) (ex_8 : x_8 = (st (tp - 2).toNatClampNeg)) (c_9 : k = 6) (c_10 : ¬ x_6 = 0) (c_11 : ¬ k = 3) (c_12 : ¬ k = 4) (c_13 : ¬ k = 5) (c_14 : ¬ k = 6) (c_15 : ¬ k = 7) (c_16 : ¬ x_6 ≤ x_8) : 0 ≤ (tp - 2) := by
  (try subst_vars) <;> grind
theorem q_X9_reckon_25 {ba : Nat → Int32} {st : Nat → Int32} {op : Int32} {tp : Int32} {k : Int32} {r_3 : Int32} {x_6 : Int32} {x_8 : Int32} (ho1 : 1 ≤ op) (ho2 : op ≤ 25) (hb1 : 0 ≤ ba (op - 1).toNatClampNeg) (hb2 : ba (op - 1).toNatClampNeg ≤ tp) (ht2 : tp ≤ 60) (hr_3 : r_3 = tp - ba (op - 1).toNatClampNeg) (c_4 : 2 ≤ r_3) (ex_6 : x_6 = (st (tp - 1).toNatClampNeg)) (ex_8 : x_8 = (st (tp - 2).toNatClampNeg)) (c_9 : k = 6) (c_10 : ¬ x_6 = 0) (c_11 : ¬ k = 3) (c_12 : ¬ k = 4) (c_13 : ¬ k = 5) (c_14 : ¬ k = 6) (c_15 : ¬ k = 7) (c_16 : ¬ x_6 ≤ x_8) : (tp - 2) ≤ 60 := by
  (try subst_vars) <;> grind
theorem q_X9_reckon_30 {ba : Nat → Int32} {st : Nat → Int32} {op : Int32} {tp : Int32} {k : Int32} {r_3 : Int32} {x_6 : Int32} {x_8 : Int32} {st_28 : Nat → Int32} {tp_29 : Int32} {r_26 : Int32} (ho1 : 1 ≤ op) (ho2 : op ≤ 25) (hb1 : 0 ≤ ba (op - 1).toNatClampNeg) (hb2 : ba (op - 1).toNatClampNeg ≤ tp) (ht2 : tp ≤ 60) (hr_3 : r_3 = tp - ba (op - 1).toNatClampNeg) (c_4 : 2 ≤ r_3) (ex_6 : x_6 = (st (tp - 1).toNatClampNeg)) (ex_8 : x_8 = (st (tp - 2).toNatClampNeg)) (c_9 : k = 6) (c_10 : ¬ x_6 = 0) (c_11 : ¬ k = 3) (c_12 : ¬ k = 4) (c_13 : ¬ k = 5) (c_14 : ¬ k = 6) (c_15 : ¬ k = 7) (c_16 : ¬ x_6 ≤ x_8) (hr_26_0 : r_26 = if (tp - 2) = 60 then 8 else 0) (hr_26_1 : st_28 = if (tp - 2) = 60 then st else upd st (tp - 2).toNatClampNeg (sx (1 : Int32))) (hr_26_2 : tp_29 = if (tp - 2) = 60 then (tp - 2) else (tp - 2) + 1) : ((r_26, st_28, tp_29) = f_reckon k op tp ba st) := by
  (try subst_vars) <;> (try simp only [upd_s, upd_upd, sb1p, as1] at *) <;> simp only [f_reckon, f_ar, sb21] <;> grind
theorem q_X9_reckon_31 {ba : Nat → Int32} {st : Nat → Int32} {op : Int32} {tp : Int32} {k : Int32} {r_3 : Int32} {x_6 : Int32} {x_8 : Int32} (ho1 : 1 ≤ op) (ho2 : op ≤ 25) (hb1 : 0 ≤ ba (op - 1).toNatClampNeg) (hb2 : ba (op - 1).toNatClampNeg ≤ tp) (ht2 : tp ≤ 60) (hr_3 : r_3 = tp - ba (op - 1).toNatClampNeg) (c_4 : 2 ≤ r_3) (ex_6 : x_6 = (st (tp - 1).toNatClampNeg)) (ex_8 : x_8 = (st (tp - 2).toNatClampNeg)) (c_9 : k = 6) (c_10 : ¬ x_6 = 0) (c_11 : ¬ k = 3) (c_12 : ¬ k = 4) (c_13 : ¬ k = 5) (c_14 : ¬ k = 6) (c_15 : k = 7) : ¬ x_6 = 0 := by
  (try subst_vars) <;> grind
theorem q_X9_reckon_33 {ba : Nat → Int32} {st : Nat → Int32} {op : Int32} {tp : Int32} {k : Int32} {r_3 : Int32} {x_6 : Int32} {x_8 : Int32} {x_32 : Int32} (ho1 : 1 ≤ op) (ho2 : op ≤ 25) (hb1 : 0 ≤ ba (op - 1).toNatClampNeg) (hb2 : ba (op - 1).toNatClampNeg ≤ tp) (ht2 : tp ≤ 60) (hr_3 : r_3 = tp - ba (op - 1).toNatClampNeg) (c_4 : 2 ≤ r_3) (ex_6 : x_6 = (st (tp - 1).toNatClampNeg)) (ex_8 : x_8 = (st (tp - 2).toNatClampNeg)) (c_9 : k = 6) (c_10 : ¬ x_6 = 0) (c_11 : ¬ k = 3) (c_12 : ¬ k = 4) (c_13 : ¬ k = 5) (c_14 : ¬ k = 6) (c_15 : k = 7) (ex_32 : x_32 = (x_8 - x_8 / x_6 * x_6)) : 0 ≤ (tp - 2) := by
  (try subst_vars) <;> grind
theorem q_X9_reckon_34 {ba : Nat → Int32} {st : Nat → Int32} {op : Int32} {tp : Int32} {k : Int32} {r_3 : Int32} {x_6 : Int32} {x_8 : Int32} {x_32 : Int32} (ho1 : 1 ≤ op) (ho2 : op ≤ 25) (hb1 : 0 ≤ ba (op - 1).toNatClampNeg) (hb2 : ba (op - 1).toNatClampNeg ≤ tp) (ht2 : tp ≤ 60) (hr_3 : r_3 = tp - ba (op - 1).toNatClampNeg) (c_4 : 2 ≤ r_3) (ex_6 : x_6 = (st (tp - 1).toNatClampNeg)) (ex_8 : x_8 = (st (tp - 2).toNatClampNeg)) (c_9 : k = 6) (c_10 : ¬ x_6 = 0) (c_11 : ¬ k = 3) (c_12 : ¬ k = 4) (c_13 : ¬ k = 5) (c_14 : ¬ k = 6) (c_15 : k = 7) (ex_32 : x_32 = (x_8 - x_8 / x_6 * x_6)) : (tp - 2) ≤ 60 := by
  (try subst_vars) <;> grind
theorem q_X9_reckon_39 {ba : Nat → Int32} {st : Nat → Int32} {op : Int32} {tp : Int32} {k : Int32} {r_3 : Int32} {x_6 : Int32} {x_8 : Int32} {x_32 : Int32} {st_37 : Nat → Int32} {tp_38 : Int32} {r_35 : Int32} (ho1 : 1 ≤ op) (ho2 : op ≤ 25) (hb1 : 0 ≤ ba (op - 1).toNatClampNeg) (hb2 : ba (op - 1).toNatClampNeg ≤ tp) (ht2 : tp ≤ 60) (hr_3 : r_3 = tp - ba (op - 1).toNatClampNeg) (c_4 : 2 ≤ r_3) (ex_6 : x_6 = (st (tp - 1).toNatClampNeg)) (ex_8 : x_8 = (st (tp - 2).toNatClampNeg)) (c_9 : k = 6) (c_10 : ¬ x_6 = 0) (c_11 : ¬ k = 3) (c_12 : ¬ k = 4) (c_13 : ¬ k = 5) (c_14 : ¬ k = 6) (c_15 : k = 7) (ex_32 : x_32 = (x_8 - x_8 / x_6 * x_6)) (hr_35_0 : r_35 = if (tp - 2) = 60 then 8 else 0) (hr_35_1 : st_37 = if (tp - 2) = 60 then st else upd st (tp - 2).toNatClampNeg (sx x_32)) (hr_35_2 : tp_38 = if (tp - 2) = 60 then (tp - 2) else (tp - 2) + 1) : ((r_35, st_37, tp_38) = f_reckon k op tp ba st) := by
  (try subst_vars) <;> (try simp only [upd_s, upd_upd, sb1p, as1] at *) <;> simp only [f_reckon, f_ar, sb21] <;> grind
theorem q_X9_reckon_40 {ba : Nat → Int32} {st : Nat → Int32} {op : Int32} {tp : Int32} {k : Int32} {r_3 : Int32} {x_6 : Int32} {x_8 : Int32} (ho1 : 1 ≤ op) (ho2 : op ≤ 25) (hb1 : 0 ≤ ba (op - 1).toNatClampNeg) (hb2 : ba (op - 1).toNatClampNeg ≤ tp) (ht2 : tp ≤ 60) (hr_3 : r_3 = tp - ba (op - 1).toNatClampNeg) (c_4 : 2 ≤ r_3) (ex_6 : x_6 = (st (tp - 1).toNatClampNeg)) (ex_8 : x_8 = (st (tp - 2).toNatClampNeg)) (c_9 : k = 6) (c_10 : ¬ x_6 = 0) (c_11 : ¬ k = 3) (c_12 : ¬ k = 4) (c_13 : ¬ k = 5) (c_14 : k = 6) : ¬ x_6 = 0 := by
  (try subst_vars) <;> grind
theorem q_X9_reckon_42 {ba : Nat → Int32} {st : Nat → Int32} {op : Int32} {tp : Int32} {k : Int32} {r_3 : Int32} {x_6 : Int32} {x_8 : Int32} {x_41 : Int32} (ho1 : 1 ≤ op) (ho2 : op ≤ 25) (hb1 : 0 ≤ ba (op - 1).toNatClampNeg) (hb2 : ba (op - 1).toNatClampNeg ≤ tp) (ht2 : tp ≤ 60) (hr_3 : r_3 = tp - ba (op - 1).toNatClampNeg) (c_4 : 2 ≤ r_3) (ex_6 : x_6 = (st (tp - 1).toNatClampNeg)) (ex_8 : x_8 = (st (tp - 2).toNatClampNeg)) (c_9 : k = 6) (c_10 : ¬ x_6 = 0) (c_11 : ¬ k = 3) (c_12 : ¬ k = 4) (c_13 : ¬ k = 5) (c_14 : k = 6) (ex_41 : x_41 = (x_8 / x_6)) : 0 ≤ (tp - 2) := by
  (try subst_vars) <;> grind
theorem q_X9_reckon_43 {ba : Nat → Int32} {st : Nat → Int32} {op : Int32} {tp : Int32} {k : Int32} {r_3 : Int32} {x_6 : Int32} {x_8 : Int32} {x_41 : Int32} (ho1 : 1 ≤ op) (ho2 : op ≤ 25) (hb1 : 0 ≤ ba (op - 1).toNatClampNeg) (hb2 : ba (op - 1).toNatClampNeg ≤ tp) (ht2 : tp ≤ 60) (hr_3 : r_3 = tp - ba (op - 1).toNatClampNeg) (c_4 : 2 ≤ r_3) (ex_6 : x_6 = (st (tp - 1).toNatClampNeg)) (ex_8 : x_8 = (st (tp - 2).toNatClampNeg)) (c_9 : k = 6) (c_10 : ¬ x_6 = 0) (c_11 : ¬ k = 3) (c_12 : ¬ k = 4) (c_13 : ¬ k = 5) (c_14 : k = 6) (ex_41 : x_41 = (x_8 / x_6)) : (tp - 2) ≤ 60 := by
  (try subst_vars) <;> grind
theorem q_X9_reckon_48 {ba : Nat → Int32} {st : Nat → Int32} {op : Int32} {tp : Int32} {k : Int32} {r_3 : Int32} {x_6 : Int32} {x_8 : Int32} {x_41 : Int32} {st_46 : Nat → Int32} {tp_47 : Int32} {r_44 : Int32} (ho1 : 1 ≤ op) (ho2 : op ≤ 25) (hb1 : 0 ≤ ba (op - 1).toNatClampNeg) (hb2 : ba (op - 1).toNatClampNeg ≤ tp) (ht2 : tp ≤ 60) (hr_3 : r_3 = tp - ba (op - 1).toNatClampNeg) (c_4 : 2 ≤ r_3) (ex_6 : x_6 = (st (tp - 1).toNatClampNeg)) (ex_8 : x_8 = (st (tp - 2).toNatClampNeg)) (c_9 : k = 6) (c_10 : ¬ x_6 = 0) (c_11 : ¬ k = 3) (c_12 : ¬ k = 4) (c_13 : ¬ k = 5) (c_14 : k = 6) (ex_41 : x_41 = (x_8 / x_6)) (hr_44_0 : r_44 = if (tp - 2) = 60 then 8 else 0) (hr_44_1 : st_46 = if (tp - 2) = 60 then st else upd st (tp - 2).toNatClampNeg (sx x_41)) (hr_44_2 : tp_47 = if (tp - 2) = 60 then (tp - 2) else (tp - 2) + 1) : ((r_44, st_46, tp_47) = f_reckon k op tp ba st) := by
  (try subst_vars) <;> (try simp only [upd_s, upd_upd, sb1p, as1] at *) <;> simp only [f_reckon, f_ar, sb21] <;> grind
theorem q_X9_reckon_50 {ba : Nat → Int32} {st : Nat → Int32} {op : Int32} {tp : Int32} {k : Int32} {r_3 : Int32} {x_6 : Int32} {x_8 : Int32} {x_49 : Int32} (ho1 : 1 ≤ op) (ho2 : op ≤ 25) (hb1 : 0 ≤ ba (op - 1).toNatClampNeg) (hb2 : ba (op - 1).toNatClampNeg ≤ tp) (ht2 : tp ≤ 60) (hr_3 : r_3 = tp - ba (op - 1).toNatClampNeg) (c_4 : 2 ≤ r_3) (ex_6 : x_6 = (st (tp - 1).toNatClampNeg)) (ex_8 : x_8 = (st (tp - 2).toNatClampNeg)) (c_9 : k = 6) (c_10 : ¬ x_6 = 0) (c_11 : ¬ k = 3) (c_12 : ¬ k = 4) (c_13 : k = 5) (ex_49 : x_49 = (x_8 * x_6)) : 0 ≤ (tp - 2) := by
  (try subst_vars) <;> grind
theorem q_X9_reckon_51 {ba : Nat → Int32} {st : Nat → Int32} {op : Int32} {tp : Int32} {k : Int32} {r_3 : Int32} {x_6 : Int32} {x_8 : Int32} {x_49 : Int32} (ho1 : 1 ≤ op) (ho2 : op ≤ 25) (hb1 : 0 ≤ ba (op - 1).toNatClampNeg) (hb2 : ba (op - 1).toNatClampNeg ≤ tp) (ht2 : tp ≤ 60) (hr_3 : r_3 = tp - ba (op - 1).toNatClampNeg) (c_4 : 2 ≤ r_3) (ex_6 : x_6 = (st (tp - 1).toNatClampNeg)) (ex_8 : x_8 = (st (tp - 2).toNatClampNeg)) (c_9 : k = 6) (c_10 : ¬ x_6 = 0) (c_11 : ¬ k = 3) (c_12 : ¬ k = 4) (c_13 : k = 5) (ex_49 : x_49 = (x_8 * x_6)) : (tp - 2) ≤ 60 := by
  (try subst_vars) <;> grind
theorem q_X9_reckon_56 {ba : Nat → Int32} {st : Nat → Int32} {op : Int32} {tp : Int32} {k : Int32} {r_3 : Int32} {x_6 : Int32} {x_8 : Int32} {x_49 : Int32} {st_54 : Nat → Int32} {tp_55 : Int32} {r_52 : Int32} (ho1 : 1 ≤ op) (ho2 : op ≤ 25) (hb1 : 0 ≤ ba (op - 1).toNatClampNeg) (hb2 : ba (op - 1).toNatClampNeg ≤ tp) (ht2 : tp ≤ 60) (hr_3 : r_3 = tp - ba (op - 1).toNatClampNeg) (c_4 : 2 ≤ r_3) (ex_6 : x_6 = (st (tp - 1).toNatClampNeg)) (ex_8 : x_8 = (st (tp - 2).toNatClampNeg)) (c_9 : k = 6) (c_10 : ¬ x_6 = 0) (c_11 : ¬ k = 3) (c_12 : ¬ k = 4) (c_13 : k = 5) (ex_49 : x_49 = (x_8 * x_6)) (hr_52_0 : r_52 = if (tp - 2) = 60 then 8 else 0) (hr_52_1 : st_54 = if (tp - 2) = 60 then st else upd st (tp - 2).toNatClampNeg (sx x_49)) (hr_52_2 : tp_55 = if (tp - 2) = 60 then (tp - 2) else (tp - 2) + 1) : ((r_52, st_54, tp_55) = f_reckon k op tp ba st) := by
  (try subst_vars) <;> (try simp only [upd_s, upd_upd, sb1p, as1] at *) <;> simp only [f_reckon, f_ar, sb21] <;> grind
theorem q_X9_reckon_58 {ba : Nat → Int32} {st : Nat → Int32} {op : Int32} {tp : Int32} {k : Int32} {r_3 : Int32} {x_6 : Int32} {x_8 : Int32} {x_57 : Int32} (ho1 : 1 ≤ op) (ho2 : op ≤ 25) (hb1 : 0 ≤ ba (op - 1).toNatClampNeg) (hb2 : ba (op - 1).toNatClampNeg ≤ tp) (ht2 : tp ≤ 60) (hr_3 : r_3 = tp - ba (op - 1).toNatClampNeg) (c_4 : 2 ≤ r_3) (ex_6 : x_6 = (st (tp - 1).toNatClampNeg)) (ex_8 : x_8 = (st (tp - 2).toNatClampNeg)) (c_9 : k = 6) (c_10 : ¬ x_6 = 0) (c_11 : ¬ k = 3) (c_12 : k = 4) (ex_57 : x_57 = (x_8 - x_6)) : 0 ≤ (tp - 2) := by
  (try subst_vars) <;> grind
theorem q_X9_reckon_59 {ba : Nat → Int32} {st : Nat → Int32} {op : Int32} {tp : Int32} {k : Int32} {r_3 : Int32} {x_6 : Int32} {x_8 : Int32} {x_57 : Int32} (ho1 : 1 ≤ op) (ho2 : op ≤ 25) (hb1 : 0 ≤ ba (op - 1).toNatClampNeg) (hb2 : ba (op - 1).toNatClampNeg ≤ tp) (ht2 : tp ≤ 60) (hr_3 : r_3 = tp - ba (op - 1).toNatClampNeg) (c_4 : 2 ≤ r_3) (ex_6 : x_6 = (st (tp - 1).toNatClampNeg)) (ex_8 : x_8 = (st (tp - 2).toNatClampNeg)) (c_9 : k = 6) (c_10 : ¬ x_6 = 0) (c_11 : ¬ k = 3) (c_12 : k = 4) (ex_57 : x_57 = (x_8 - x_6)) : (tp - 2) ≤ 60 := by
  (try subst_vars) <;> grind
theorem q_X9_reckon_64 {ba : Nat → Int32} {st : Nat → Int32} {op : Int32} {tp : Int32} {k : Int32} {r_3 : Int32} {x_6 : Int32} {x_8 : Int32} {x_57 : Int32} {st_62 : Nat → Int32} {tp_63 : Int32} {r_60 : Int32} (ho1 : 1 ≤ op) (ho2 : op ≤ 25) (hb1 : 0 ≤ ba (op - 1).toNatClampNeg) (hb2 : ba (op - 1).toNatClampNeg ≤ tp) (ht2 : tp ≤ 60) (hr_3 : r_3 = tp - ba (op - 1).toNatClampNeg) (c_4 : 2 ≤ r_3) (ex_6 : x_6 = (st (tp - 1).toNatClampNeg)) (ex_8 : x_8 = (st (tp - 2).toNatClampNeg)) (c_9 : k = 6) (c_10 : ¬ x_6 = 0) (c_11 : ¬ k = 3) (c_12 : k = 4) (ex_57 : x_57 = (x_8 - x_6)) (hr_60_0 : r_60 = if (tp - 2) = 60 then 8 else 0) (hr_60_1 : st_62 = if (tp - 2) = 60 then st else upd st (tp - 2).toNatClampNeg (sx x_57)) (hr_60_2 : tp_63 = if (tp - 2) = 60 then (tp - 2) else (tp - 2) + 1) : ((r_60, st_62, tp_63) = f_reckon k op tp ba st) := by
  (try subst_vars) <;> (try simp only [upd_s, upd_upd, sb1p, as1] at *) <;> simp only [f_reckon, f_ar, sb21] <;> grind
theorem q_X9_reckon_66 {ba : Nat → Int32} {st : Nat → Int32} {op : Int32} {tp : Int32} {k : Int32} {r_3 : Int32} {x_6 : Int32} {x_8 : Int32} {x_65 : Int32} (ho1 : 1 ≤ op) (ho2 : op ≤ 25) (hb1 : 0 ≤ ba (op - 1).toNatClampNeg) (hb2 : ba (op - 1).toNatClampNeg ≤ tp) (ht2 : tp ≤ 60) (hr_3 : r_3 = tp - ba (op - 1).toNatClampNeg) (c_4 : 2 ≤ r_3) (ex_6 : x_6 = (st (tp - 1).toNatClampNeg)) (ex_8 : x_8 = (st (tp - 2).toNatClampNeg)) (c_9 : k = 6) (c_10 : ¬ x_6 = 0) (c_11 : k = 3) (ex_65 : x_65 = (x_8 + x_6)) : 0 ≤ (tp - 2) := by
  (try subst_vars) <;> grind
theorem q_X9_reckon_67 {ba : Nat → Int32} {st : Nat → Int32} {op : Int32} {tp : Int32} {k : Int32} {r_3 : Int32} {x_6 : Int32} {x_8 : Int32} {x_65 : Int32} (ho1 : 1 ≤ op) (ho2 : op ≤ 25) (hb1 : 0 ≤ ba (op - 1).toNatClampNeg) (hb2 : ba (op - 1).toNatClampNeg ≤ tp) (ht2 : tp ≤ 60) (hr_3 : r_3 = tp - ba (op - 1).toNatClampNeg) (c_4 : 2 ≤ r_3) (ex_6 : x_6 = (st (tp - 1).toNatClampNeg)) (ex_8 : x_8 = (st (tp - 2).toNatClampNeg)) (c_9 : k = 6) (c_10 : ¬ x_6 = 0) (c_11 : k = 3) (ex_65 : x_65 = (x_8 + x_6)) : (tp - 2) ≤ 60 := by
  (try subst_vars) <;> grind
theorem q_X9_reckon_72 {ba : Nat → Int32} {st : Nat → Int32} {op : Int32} {tp : Int32} {k : Int32} {r_3 : Int32} {x_6 : Int32} {x_8 : Int32} {x_65 : Int32} {st_70 : Nat → Int32} {tp_71 : Int32} {r_68 : Int32} (ho1 : 1 ≤ op) (ho2 : op ≤ 25) (hb1 : 0 ≤ ba (op - 1).toNatClampNeg) (hb2 : ba (op - 1).toNatClampNeg ≤ tp) (ht2 : tp ≤ 60) (hr_3 : r_3 = tp - ba (op - 1).toNatClampNeg) (c_4 : 2 ≤ r_3) (ex_6 : x_6 = (st (tp - 1).toNatClampNeg)) (ex_8 : x_8 = (st (tp - 2).toNatClampNeg)) (c_9 : k = 6) (c_10 : ¬ x_6 = 0) (c_11 : k = 3) (ex_65 : x_65 = (x_8 + x_6)) (hr_68_0 : r_68 = if (tp - 2) = 60 then 8 else 0) (hr_68_1 : st_70 = if (tp - 2) = 60 then st else upd st (tp - 2).toNatClampNeg (sx x_65)) (hr_68_2 : tp_71 = if (tp - 2) = 60 then (tp - 2) else (tp - 2) + 1) : ((r_68, st_70, tp_71) = f_reckon k op tp ba st) := by
  (try subst_vars) <;> (try simp only [upd_s, upd_upd, sb1p, as1] at *) <;> simp only [f_reckon, f_ar, sb21] <;> grind
theorem q_X9_reckon_73 {ba : Nat → Int32} {st : Nat → Int32} {op : Int32} {tp : Int32} {k : Int32} {r_3 : Int32} {x_6 : Int32} {x_8 : Int32} (ho1 : 1 ≤ op) (ho2 : op ≤ 25) (hb1 : 0 ≤ ba (op - 1).toNatClampNeg) (hb2 : ba (op - 1).toNatClampNeg ≤ tp) (ht2 : tp ≤ 60) (hr_3 : r_3 = tp - ba (op - 1).toNatClampNeg) (c_4 : 2 ≤ r_3) (ex_6 : x_6 = (st (tp - 1).toNatClampNeg)) (ex_8 : x_8 = (st (tp - 2).toNatClampNeg)) (c_9 : k = 6) (c_10 : x_6 = 0) : (((3 : Int32), st, tp) = f_reckon k op tp ba st) := by
  (try subst_vars) <;> (try simp only [upd_s, upd_upd, sb1p, as1] at *) <;> simp only [f_reckon, f_ar, sb21] <;> grind
theorem q_X9_reckon_81 {ba : Nat → Int32} {st : Nat → Int32} {op : Int32} {tp : Int32} {k : Int32} {r_3 : Int32} {x_6 : Int32} {x_8 : Int32} (ho1 : 1 ≤ op) (ho2 : op ≤ 25) (hb1 : 0 ≤ ba (op - 1).toNatClampNeg) (hb2 : ba (op - 1).toNatClampNeg ≤ tp) (ht2 : tp ≤ 60) (hr_3 : r_3 = tp - ba (op - 1).toNatClampNeg) (c_4 : 2 ≤ r_3) (ex_6 : x_6 = (st (tp - 1).toNatClampNeg)) (ex_8 : x_8 = (st (tp - 2).toNatClampNeg)) (c_9 : ¬ k = 6) (c_74 : ¬ k = 7) (c_75 : ¬ k = 3) (c_76 : ¬ k = 4) (c_77 : ¬ k = 5) (c_78 : ¬ k = 6) (c_79 : ¬ k = 7) (c_80 : x_6 ≤ x_8) : 0 ≤ (tp - 2) := by
  (try subst_vars) <;> grind
theorem q_X9_reckon_82 {ba : Nat → Int32} {st : Nat → Int32} {op : Int32} {tp : Int32} {k : Int32} {r_3 : Int32} {x_6 : Int32} {x_8 : Int32} (ho1 : 1 ≤ op) (ho2 : op ≤ 25) (hb1 : 0 ≤ ba (op - 1).toNatClampNeg) (hb2 : ba (op - 1).toNatClampNeg ≤ tp) (ht2 : tp ≤ 60) (hr_3 : r_3 = tp - ba (op - 1).toNatClampNeg) (c_4 : 2 ≤ r_3) (ex_6 : x_6 = (st (tp - 1).toNatClampNeg)) (ex_8 : x_8 = (st (tp - 2).toNatClampNeg)) (c_9 : ¬ k = 6) (c_74 : ¬ k = 7) (c_75 : ¬ k = 3) (c_76 : ¬ k = 4) (c_77 : ¬ k = 5) (c_78 : ¬ k = 6) (c_79 : ¬ k = 7) (c_80 : x_6 ≤ x_8) : (tp - 2) ≤ 60 := by
  (try subst_vars) <;> grind
theorem q_X9_reckon_87 {ba : Nat → Int32} {st : Nat → Int32} {op : Int32} {tp : Int32} {k : Int32} {r_3 : Int32} {x_6 : Int32} {x_8 : Int32} {st_85 : Nat → Int32} {tp_86 : Int32} {r_83 : Int32} (ho1 : 1 ≤ op) (ho2 : op ≤ 25) (hb1 : 0 ≤ ba (op - 1).toNatClampNeg) (hb2 : ba (op - 1).toNatClampNeg ≤ tp) (ht2 : tp ≤ 60) (hr_3 : r_3 = tp - ba (op - 1).toNatClampNeg) (c_4 : 2 ≤ r_3) (ex_6 : x_6 = (st (tp - 1).toNatClampNeg)) (ex_8 : x_8 = (st (tp - 2).toNatClampNeg)) (c_9 : ¬ k = 6) (c_74 : ¬ k = 7) (c_75 : ¬ k = 3) (c_76 : ¬ k = 4) (c_77 : ¬ k = 5) (c_78 : ¬ k = 6) (c_79 : ¬ k = 7) (c_80 : x_6 ≤ x_8) (hr_83_0 : r_83 = if (tp - 2) = 60 then 8 else 0) (hr_83_1 : st_85 = if (tp - 2) = 60 then st else upd st (tp - 2).toNatClampNeg (sx (0 : Int32))) (hr_83_2 : tp_86 = if (tp - 2) = 60 then (tp - 2) else (tp - 2) + 1) : ((r_83, st_85, tp_86) = f_reckon k op tp ba st) := by
  (try subst_vars) <;> (try simp only [upd_s, upd_upd, sb1p, as1] at *) <;> simp only [f_reckon, f_ar, sb21] <;> grind
theorem q_X9_reckon_88 {ba : Nat → Int32} {st : Nat → Int32} {op : Int32} {tp : Int32} {k : Int32} {r_3 : Int32} {x_6 : Int32} {x_8 : Int32} (ho1 : 1 ≤ op) (ho2 : op ≤ 25) (hb1 : 0 ≤ ba (op - 1).toNatClampNeg) (hb2 : ba (op - 1).toNatClampNeg ≤ tp) (ht2 : tp ≤ 60) (hr_3 : r_3 = tp - ba (op - 1).toNatClampNeg) (c_4 : 2 ≤ r_3) (ex_6 : x_6 = (st (tp - 1).toNatClampNeg)) (ex_8 : x_8 = (st (tp - 2).toNatClampNeg)) (c_9 : ¬ k = 6) (c_74 : ¬ k = 7) (c_75 : ¬ k = 3) (c_76 : ¬ k = 4) (c_77 : ¬ k = 5) (c_78 : ¬ k = 6) (c_79 : ¬ k = 7) (c_80 : ¬ x_6 ≤ x_8) : 0 ≤ (tp - 2) := by
  (try subst_vars) <;> grind
theorem q_X9_reckon_89 {ba : Nat → Int32} {st : Nat → Int32} {op : Int32} {tp : Int32} {k : Int32} {r_3 : Int32} {x_6 : Int32} {x_8 : Int32} (ho1 : 1 ≤ op) (ho2 : op ≤ 25) (hb1 : 0 ≤ ba (op - 1).toNatClampNeg) (hb2 : ba (op - 1).toNatClampNeg ≤ tp) (ht2 : tp ≤ 60) (hr_3 : r_3 = tp - ba (op - 1).toNatClampNeg) (c_4 : 2 ≤ r_3) (ex_6 : x_6 = (st (tp - 1).toNatClampNeg)) (ex_8 : x_8 = (st (tp - 2).toNatClampNeg)) (c_9 : ¬ k = 6) (c_74 : ¬ k = 7) (c_75 : ¬ k = 3) (c_76 : ¬ k = 4) (c_77 : ¬ k = 5) (c_78 : ¬ k = 6) (c_79 : ¬ k = 7) (c_80 : ¬ x_6 ≤ x_8) : (tp - 2) ≤ 60 := by
  (try subst_vars) <;> grind
theorem q_X9_reckon_94 {ba : Nat → Int32} {st : Nat → Int32} {op : Int32} {tp : Int32} {k : Int32} {r_3 : Int32} {x_6 : Int32} {x_8 : Int32} {st_92 : Nat → Int32} {tp_93 : Int32} {r_90 : Int32} (ho1 : 1 ≤ op) (ho2 : op ≤ 25) (hb1 : 0 ≤ ba (op - 1).toNatClampNeg) (hb2 : ba (op - 1).toNatClampNeg ≤ tp) (ht2 : tp ≤ 60) (hr_3 : r_3 = tp - ba (op - 1).toNatClampNeg) (c_4 : 2 ≤ r_3) (ex_6 : x_6 = (st (tp - 1).toNatClampNeg)) (ex_8 : x_8 = (st (tp - 2).toNatClampNeg)) (c_9 : ¬ k = 6) (c_74 : ¬ k = 7) (c_75 : ¬ k = 3) (c_76 : ¬ k = 4) (c_77 : ¬ k = 5) (c_78 : ¬ k = 6) (c_79 : ¬ k = 7) (c_80 : ¬ x_6 ≤ x_8) (hr_90_0 : r_90 = if (tp - 2) = 60 then 8 else 0) (hr_90_1 : st_92 = if (tp - 2) = 60 then st else upd st (tp - 2).toNatClampNeg (sx (1 : Int32))) (hr_90_2 : tp_93 = if (tp - 2) = 60 then (tp - 2) else (tp - 2) + 1) : ((r_90, st_92, tp_93) = f_reckon k op tp ba st) := by
  (try subst_vars) <;> (try simp only [upd_s, upd_upd, sb1p, as1] at *) <;> simp only [f_reckon, f_ar, sb21] <;> grind
theorem q_X9_reckon_95 {ba : Nat → Int32} {st : Nat → Int32} {op : Int32} {tp : Int32} {k : Int32} {r_3 : Int32} {x_6 : Int32} {x_8 : Int32} (ho1 : 1 ≤ op) (ho2 : op ≤ 25) (hb1 : 0 ≤ ba (op - 1).toNatClampNeg) (hb2 : ba (op - 1).toNatClampNeg ≤ tp) (ht2 : tp ≤ 60) (hr_3 : r_3 = tp - ba (op - 1).toNatClampNeg) (c_4 : 2 ≤ r_3) (ex_6 : x_6 = (st (tp - 1).toNatClampNeg)) (ex_8 : x_8 = (st (tp - 2).toNatClampNeg)) (c_9 : ¬ k = 6) (c_74 : ¬ k = 7) (c_75 : ¬ k = 3) (c_76 : ¬ k = 4) (c_77 : ¬ k = 5) (c_78 : ¬ k = 6) (c_79 : k = 7) : ¬ x_6 = 0 := by
  (try subst_vars) <;> grind
theorem q_X9_reckon_97 {ba : Nat → Int32} {st : Nat → Int32} {op : Int32} {tp : Int32} {k : Int32} {r_3 : Int32} {x_6 : Int32} {x_8 : Int32} {x_96 : Int32} (ho1 : 1 ≤ op) (ho2 : op ≤ 25) (hb1 : 0 ≤ ba (op - 1).toNatClampNeg) (hb2 : ba (op - 1).toNatClampNeg ≤ tp) (ht2 : tp ≤ 60) (hr_3 : r_3 = tp - ba (op - 1).toNatClampNeg) (c_4 : 2 ≤ r_3) (ex_6 : x_6 = (st (tp - 1).toNatClampNeg)) (ex_8 : x_8 = (st (tp - 2).toNatClampNeg)) (c_9 : ¬ k = 6) (c_74 : ¬ k = 7) (c_75 : ¬ k = 3) (c_76 : ¬ k = 4) (c_77 : ¬ k = 5) (c_78 : ¬ k = 6) (c_79 : k = 7) (ex_96 : x_96 = (x_8 - x_8 / x_6 * x_6)) : 0 ≤ (tp - 2) := by
  (try subst_vars) <;> grind
theorem q_X9_reckon_98 {ba : Nat → Int32} {st : Nat → Int32} {op : Int32} {tp : Int32} {k : Int32} {r_3 : Int32} {x_6 : Int32} {x_8 : Int32} {x_96 : Int32} (ho1 : 1 ≤ op) (ho2 : op ≤ 25) (hb1 : 0 ≤ ba (op - 1).toNatClampNeg) (hb2 : ba (op - 1).toNatClampNeg ≤ tp) (ht2 : tp ≤ 60) (hr_3 : r_3 = tp - ba (op - 1).toNatClampNeg) (c_4 : 2 ≤ r_3) (ex_6 : x_6 = (st (tp - 1).toNatClampNeg)) (ex_8 : x_8 = (st (tp - 2).toNatClampNeg)) (c_9 : ¬ k = 6) (c_74 : ¬ k = 7) (c_75 : ¬ k = 3) (c_76 : ¬ k = 4) (c_77 : ¬ k = 5) (c_78 : ¬ k = 6) (c_79 : k = 7) (ex_96 : x_96 = (x_8 - x_8 / x_6 * x_6)) : (tp - 2) ≤ 60 := by
  (try subst_vars) <;> grind
theorem q_X9_reckon_103 {ba : Nat → Int32} {st : Nat → Int32} {op : Int32} {tp : Int32} {k : Int32} {r_3 : Int32} {x_6 : Int32} {x_8 : Int32} {x_96 : Int32} {st_101 : Nat → Int32} {tp_102 : Int32} {r_99 : Int32} (ho1 : 1 ≤ op) (ho2 : op ≤ 25) (hb1 : 0 ≤ ba (op - 1).toNatClampNeg) (hb2 : ba (op - 1).toNatClampNeg ≤ tp) (ht2 : tp ≤ 60) (hr_3 : r_3 = tp - ba (op - 1).toNatClampNeg) (c_4 : 2 ≤ r_3) (ex_6 : x_6 = (st (tp - 1).toNatClampNeg)) (ex_8 : x_8 = (st (tp - 2).toNatClampNeg)) (c_9 : ¬ k = 6) (c_74 : ¬ k = 7) (c_75 : ¬ k = 3) (c_76 : ¬ k = 4) (c_77 : ¬ k = 5) (c_78 : ¬ k = 6) (c_79 : k = 7) (ex_96 : x_96 = (x_8 - x_8 / x_6 * x_6)) (hr_99_0 : r_99 = if (tp - 2) = 60 then 8 else 0) (hr_99_1 : st_101 = if (tp - 2) = 60 then st else upd st (tp - 2).toNatClampNeg (sx x_96)) (hr_99_2 : tp_102 = if (tp - 2) = 60 then (tp - 2) else (tp - 2) + 1) : ((r_99, st_101, tp_102) = f_reckon k op tp ba st) := by
  (try subst_vars) <;> (try simp only [upd_s, upd_upd, sb1p, as1] at *) <;> simp only [f_reckon, f_ar, sb21] <;> grind
theorem q_X9_reckon_104 {ba : Nat → Int32} {st : Nat → Int32} {op : Int32} {tp : Int32} {k : Int32} {r_3 : Int32} {x_6 : Int32} {x_8 : Int32} (ho1 : 1 ≤ op) (ho2 : op ≤ 25) (hb1 : 0 ≤ ba (op - 1).toNatClampNeg) (hb2 : ba (op - 1).toNatClampNeg ≤ tp) (ht2 : tp ≤ 60) (hr_3 : r_3 = tp - ba (op - 1).toNatClampNeg) (c_4 : 2 ≤ r_3) (ex_6 : x_6 = (st (tp - 1).toNatClampNeg)) (ex_8 : x_8 = (st (tp - 2).toNatClampNeg)) (c_9 : ¬ k = 6) (c_74 : ¬ k = 7) (c_75 : ¬ k = 3) (c_76 : ¬ k = 4) (c_77 : ¬ k = 5) (c_78 : k = 6) : ¬ x_6 = 0 := by
  (try subst_vars) <;> grind
theorem q_X9_reckon_106 {ba : Nat → Int32} {st : Nat → Int32} {op : Int32} {tp : Int32} {k : Int32} {r_3 : Int32} {x_6 : Int32} {x_8 : Int32} {x_105 : Int32} (ho1 : 1 ≤ op) (ho2 : op ≤ 25) (hb1 : 0 ≤ ba (op - 1).toNatClampNeg) (hb2 : ba (op - 1).toNatClampNeg ≤ tp) (ht2 : tp ≤ 60) (hr_3 : r_3 = tp - ba (op - 1).toNatClampNeg) (c_4 : 2 ≤ r_3) (ex_6 : x_6 = (st (tp - 1).toNatClampNeg)) (ex_8 : x_8 = (st (tp - 2).toNatClampNeg)) (c_9 : ¬ k = 6) (c_74 : ¬ k = 7) (c_75 : ¬ k = 3) (c_76 : ¬ k = 4) (c_77 : ¬ k = 5) (c_78 : k = 6) (ex_105 : x_105 = (x_8 / x_6)) : 0 ≤ (tp - 2) := by
  (try subst_vars) <;> grind
theorem q_X9_reckon_107 {ba : Nat → Int32} {st : Nat → Int32} {op : Int32} {tp : Int32} {k : Int32} {r_3 : Int32} {x_6 : Int32} {x_8 : Int32} {x_105 : Int32} (ho1 : 1 ≤ op) (ho2 : op ≤ 25) (hb1 : 0 ≤ ba (op - 1).toNatClampNeg) (hb2 : ba (op - 1).toNatClampNeg ≤ tp) (ht2 : tp ≤ 60) (hr_3 : r_3 = tp - ba (op - 1).toNatClampNeg) (c_4 : 2 ≤ r_3) (ex_6 : x_6 = (st (tp - 1).toNatClampNeg)) (ex_8 : x_8 = (st (tp - 2).toNatClampNeg)) (c_9 : ¬ k = 6) (c_74 : ¬ k = 7) (c_75 : ¬ k = 3) (c_76 : ¬ k = 4) (c_77 : ¬ k = 5) (c_78 : k = 6) (ex_105 : x_105 = (x_8 / x_6)) : (tp - 2) ≤ 60 := by
  (try subst_vars) <;> grind
theorem q_X9_reckon_112 {ba : Nat → Int32} {st : Nat → Int32} {op : Int32} {tp : Int32} {k : Int32} {r_3 : Int32} {x_6 : Int32} {x_8 : Int32} {x_105 : Int32} {st_110 : Nat → Int32} {tp_111 : Int32} {r_108 : Int32} (ho1 : 1 ≤ op) (ho2 : op ≤ 25) (hb1 : 0 ≤ ba (op - 1).toNatClampNeg) (hb2 : ba (op - 1).toNatClampNeg ≤ tp) (ht2 : tp ≤ 60) (hr_3 : r_3 = tp - ba (op - 1).toNatClampNeg) (c_4 : 2 ≤ r_3) (ex_6 : x_6 = (st (tp - 1).toNatClampNeg)) (ex_8 : x_8 = (st (tp - 2).toNatClampNeg)) (c_9 : ¬ k = 6) (c_74 : ¬ k = 7) (c_75 : ¬ k = 3) (c_76 : ¬ k = 4) (c_77 : ¬ k = 5) (c_78 : k = 6) (ex_105 : x_105 = (x_8 / x_6)) (hr_108_0 : r_108 = if (tp - 2) = 60 then 8 else 0) (hr_108_1 : st_110 = if (tp - 2) = 60 then st else upd st (tp - 2).toNatClampNeg (sx x_105)) (hr_108_2 : tp_111 = if (tp - 2) = 60 then (tp - 2) else (tp - 2) + 1) : ((r_108, st_110, tp_111) = f_reckon k op tp ba st) := by
  (try subst_vars) <;> (try simp only [upd_s, upd_upd, sb1p, as1] at *) <;> simp only [f_reckon, f_ar, sb21] <;> grind
theorem q_X9_reckon_114 {ba : Nat → Int32} {st : Nat → Int32} {op : Int32} {tp : Int32} {k : Int32} {r_3 : Int32} {x_6 : Int32} {x_8 : Int32} {x_113 : Int32} (ho1 : 1 ≤ op) (ho2 : op ≤ 25) (hb1 : 0 ≤ ba (op - 1).toNatClampNeg) (hb2 : ba (op - 1).toNatClampNeg ≤ tp) (ht2 : tp ≤ 60) (hr_3 : r_3 = tp - ba (op - 1).toNatClampNeg) (c_4 : 2 ≤ r_3) (ex_6 : x_6 = (st (tp - 1).toNatClampNeg)) (ex_8 : x_8 = (st (tp - 2).toNatClampNeg)) (c_9 : ¬ k = 6) (c_74 : ¬ k = 7) (c_75 : ¬ k = 3) (c_76 : ¬ k = 4) (c_77 : k = 5) (ex_113 : x_113 = (x_8 * x_6)) : 0 ≤ (tp - 2) := by
  (try subst_vars) <;> grind
theorem q_X9_reckon_115 {ba : Nat → Int32} {st : Nat → Int32} {op : Int32} {tp : Int32} {k : Int32} {r_3 : Int32} {x_6 : Int32} {x_8 : Int32} {x_113 : Int32} (ho1 : 1 ≤ op) (ho2 : op ≤ 25) (hb1 : 0 ≤ ba (op - 1).toNatClampNeg) (hb2 : ba (op - 1).toNatClampNeg ≤ tp) (ht2 : tp ≤ 60) (hr_3 : r_3 = tp - ba (op - 1).toNatClampNeg) (c_4 : 2 ≤ r_3) (ex_6 : x_6 = (st (tp - 1).toNatClampNeg)) (ex_8 : x_8 = (st (tp - 2).toNatClampNeg)) (c_9 : ¬ k = 6) (c_74 : ¬ k = 7) (c_75 : ¬ k = 3) (c_76 : ¬ k = 4) (c_77 : k = 5) (ex_113 : x_113 = (x_8 * x_6)) : (tp - 2) ≤ 60 := by
  (try subst_vars) <;> grind
theorem q_X9_reckon_120 {ba : Nat → Int32} {st : Nat → Int32} {op : Int32} {tp : Int32} {k : Int32} {r_3 : Int32} {x_6 : Int32} {x_8 : Int32} {x_113 : Int32} {st_118 : Nat → Int32} {tp_119 : Int32} {r_116 : Int32} (ho1 : 1 ≤ op) (ho2 : op ≤ 25) (hb1 : 0 ≤ ba (op - 1).toNatClampNeg) (hb2 : ba (op - 1).toNatClampNeg ≤ tp) (ht2 : tp ≤ 60) (hr_3 : r_3 = tp - ba (op - 1).toNatClampNeg) (c_4 : 2 ≤ r_3) (ex_6 : x_6 = (st (tp - 1).toNatClampNeg)) (ex_8 : x_8 = (st (tp - 2).toNatClampNeg)) (c_9 : ¬ k = 6) (c_74 : ¬ k = 7) (c_75 : ¬ k = 3) (c_76 : ¬ k = 4) (c_77 : k = 5) (ex_113 : x_113 = (x_8 * x_6)) (hr_116_0 : r_116 = if (tp - 2) = 60 then 8 else 0) (hr_116_1 : st_118 = if (tp - 2) = 60 then st else upd st (tp - 2).toNatClampNeg (sx x_113)) (hr_116_2 : tp_119 = if (tp - 2) = 60 then (tp - 2) else (tp - 2) + 1) : ((r_116, st_118, tp_119) = f_reckon k op tp ba st) := by
  (try subst_vars) <;> (try simp only [upd_s, upd_upd, sb1p, as1] at *) <;> simp only [f_reckon, f_ar, sb21] <;> grind
theorem q_X9_reckon_122 {ba : Nat → Int32} {st : Nat → Int32} {op : Int32} {tp : Int32} {k : Int32} {r_3 : Int32} {x_6 : Int32} {x_8 : Int32} {x_121 : Int32} (ho1 : 1 ≤ op) (ho2 : op ≤ 25) (hb1 : 0 ≤ ba (op - 1).toNatClampNeg) (hb2 : ba (op - 1).toNatClampNeg ≤ tp) (ht2 : tp ≤ 60) (hr_3 : r_3 = tp - ba (op - 1).toNatClampNeg) (c_4 : 2 ≤ r_3) (ex_6 : x_6 = (st (tp - 1).toNatClampNeg)) (ex_8 : x_8 = (st (tp - 2).toNatClampNeg)) (c_9 : ¬ k = 6) (c_74 : ¬ k = 7) (c_75 : ¬ k = 3) (c_76 : k = 4) (ex_121 : x_121 = (x_8 - x_6)) : 0 ≤ (tp - 2) := by
  (try subst_vars) <;> grind
theorem q_X9_reckon_123 {ba : Nat → Int32} {st : Nat → Int32} {op : Int32} {tp : Int32} {k : Int32} {r_3 : Int32} {x_6 : Int32} {x_8 : Int32} {x_121 : Int32} (ho1 : 1 ≤ op) (ho2 : op ≤ 25) (hb1 : 0 ≤ ba (op - 1).toNatClampNeg) (hb2 : ba (op - 1).toNatClampNeg ≤ tp) (ht2 : tp ≤ 60) (hr_3 : r_3 = tp - ba (op - 1).toNatClampNeg) (c_4 : 2 ≤ r_3) (ex_6 : x_6 = (st (tp - 1).toNatClampNeg)) (ex_8 : x_8 = (st (tp - 2).toNatClampNeg)) (c_9 : ¬ k = 6) (c_74 : ¬ k = 7) (c_75 : ¬ k = 3) (c_76 : k = 4) (ex_121 : x_121 = (x_8 - x_6)) : (tp - 2) ≤ 60 := by
  (try subst_vars) <;> grind
theorem q_X9_reckon_128 {ba : Nat → Int32} {st : Nat → Int32} {op : Int32} {tp : Int32} {k : Int32} {r_3 : Int32} {x_6 : Int32} {x_8 : Int32} {x_121 : Int32} {st_126 : Nat → Int32} {tp_127 : Int32} {r_124 : Int32} (ho1 : 1 ≤ op) (ho2 : op ≤ 25) (hb1 : 0 ≤ ba (op - 1).toNatClampNeg) (hb2 : ba (op - 1).toNatClampNeg ≤ tp) (ht2 : tp ≤ 60) (hr_3 : r_3 = tp - ba (op - 1).toNatClampNeg) (c_4 : 2 ≤ r_3) (ex_6 : x_6 = (st (tp - 1).toNatClampNeg)) (ex_8 : x_8 = (st (tp - 2).toNatClampNeg)) (c_9 : ¬ k = 6) (c_74 : ¬ k = 7) (c_75 : ¬ k = 3) (c_76 : k = 4) (ex_121 : x_121 = (x_8 - x_6)) (hr_124_0 : r_124 = if (tp - 2) = 60 then 8 else 0) (hr_124_1 : st_126 = if (tp - 2) = 60 then st else upd st (tp - 2).toNatClampNeg (sx x_121)) (hr_124_2 : tp_127 = if (tp - 2) = 60 then (tp - 2) else (tp - 2) + 1) : ((r_124, st_126, tp_127) = f_reckon k op tp ba st) := by
  (try subst_vars) <;> (try simp only [upd_s, upd_upd, sb1p, as1] at *) <;> simp only [f_reckon, f_ar, sb21] <;> grind
theorem q_X9_reckon_130 {ba : Nat → Int32} {st : Nat → Int32} {op : Int32} {tp : Int32} {k : Int32} {r_3 : Int32} {x_6 : Int32} {x_8 : Int32} {x_129 : Int32} (ho1 : 1 ≤ op) (ho2 : op ≤ 25) (hb1 : 0 ≤ ba (op - 1).toNatClampNeg) (hb2 : ba (op - 1).toNatClampNeg ≤ tp) (ht2 : tp ≤ 60) (hr_3 : r_3 = tp - ba (op - 1).toNatClampNeg) (c_4 : 2 ≤ r_3) (ex_6 : x_6 = (st (tp - 1).toNatClampNeg)) (ex_8 : x_8 = (st (tp - 2).toNatClampNeg)) (c_9 : ¬ k = 6) (c_74 : ¬ k = 7) (c_75 : k = 3) (ex_129 : x_129 = (x_8 + x_6)) : 0 ≤ (tp - 2) := by
  (try subst_vars) <;> grind
theorem q_X9_reckon_131 {ba : Nat → Int32} {st : Nat → Int32} {op : Int32} {tp : Int32} {k : Int32} {r_3 : Int32} {x_6 : Int32} {x_8 : Int32} {x_129 : Int32} (ho1 : 1 ≤ op) (ho2 : op ≤ 25) (hb1 : 0 ≤ ba (op - 1).toNatClampNeg) (hb2 : ba (op - 1).toNatClampNeg ≤ tp) (ht2 : tp ≤ 60) (hr_3 : r_3 = tp - ba (op - 1).toNatClampNeg) (c_4 : 2 ≤ r_3) (ex_6 : x_6 = (st (tp - 1).toNatClampNeg)) (ex_8 : x_8 = (st (tp - 2).toNatClampNeg)) (c_9 : ¬ k = 6) (c_74 : ¬ k = 7) (c_75 : k = 3) (ex_129 : x_129 = (x_8 + x_6)) : (tp - 2) ≤ 60 := by
  (try subst_vars) <;> grind
theorem q_X9_reckon_136 {ba : Nat → Int32} {st : Nat → Int32} {op : Int32} {tp : Int32} {k : Int32} {r_3 : Int32} {x_6 : Int32} {x_8 : Int32} {x_129 : Int32} {st_134 : Nat → Int32} {tp_135 : Int32} {r_132 : Int32} (ho1 : 1 ≤ op) (ho2 : op ≤ 25) (hb1 : 0 ≤ ba (op - 1).toNatClampNeg) (hb2 : ba (op - 1).toNatClampNeg ≤ tp) (ht2 : tp ≤ 60) (hr_3 : r_3 = tp - ba (op - 1).toNatClampNeg) (c_4 : 2 ≤ r_3) (ex_6 : x_6 = (st (tp - 1).toNatClampNeg)) (ex_8 : x_8 = (st (tp - 2).toNatClampNeg)) (c_9 : ¬ k = 6) (c_74 : ¬ k = 7) (c_75 : k = 3) (ex_129 : x_129 = (x_8 + x_6)) (hr_132_0 : r_132 = if (tp - 2) = 60 then 8 else 0) (hr_132_1 : st_134 = if (tp - 2) = 60 then st else upd st (tp - 2).toNatClampNeg (sx x_129)) (hr_132_2 : tp_135 = if (tp - 2) = 60 then (tp - 2) else (tp - 2) + 1) : ((r_132, st_134, tp_135) = f_reckon k op tp ba st) := by
  (try subst_vars) <;> (try simp only [upd_s, upd_upd, sb1p, as1] at *) <;> simp only [f_reckon, f_ar, sb21] <;> grind
theorem q_X9_reckon_144 {ba : Nat → Int32} {st : Nat → Int32} {op : Int32} {tp : Int32} {k : Int32} {r_3 : Int32} {x_6 : Int32} {x_8 : Int32} (ho1 : 1 ≤ op) (ho2 : op ≤ 25) (hb1 : 0 ≤ ba (op - 1).toNatClampNeg) (hb2 : ba (op - 1).toNatClampNeg ≤ tp) (ht2 : tp ≤ 60) (hr_3 : r_3 = tp - ba (op - 1).toNatClampNeg) (c_4 : 2 ≤ r_3) (ex_6 : x_6 = (st (tp - 1).toNatClampNeg)) (ex_8 : x_8 = (st (tp - 2).toNatClampNeg)) (c_9 : ¬ k = 6) (c_74 : k = 7) (c_137 : ¬ x_6 = 0) (c_138 : ¬ k = 3) (c_139 : ¬ k = 4) (c_140 : ¬ k = 5) (c_141 : ¬ k = 6) (c_142 : ¬ k = 7) (c_143 : x_6 ≤ x_8) : 0 ≤ (tp - 2) := by
  (try subst_vars) <;> grind
theorem q_X9_reckon_145 {ba : Nat → Int32} {st : Nat → Int32} {op : Int32} {tp : Int32} {k : Int32} {r_3 : Int32} {x_6 : Int32} {x_8 : Int32} (ho1 : 1 ≤ op) (ho2 : op ≤ 25) (hb1 : 0 ≤ ba (op - 1).toNatClampNeg) (hb2 : ba (op - 1).toNatClampNeg ≤ tp) (ht2 : tp ≤ 60) (hr_3 : r_3 = tp - ba (op - 1).toNatClampNeg) (c_4 : 2 ≤ r_3) (ex_6 : x_6 = (st (tp - 1).toNatClampNeg)) (ex_8 : x_8 = (st (tp - 2).toNatClampNeg)) (c_9 : ¬ k = 6) (c_74 : k = 7) (c_137 : ¬ x_6 = 0) (c_138 : ¬ k = 3) (c_139 : ¬ k = 4) (c_140 : ¬ k = 5) (c_141 : ¬ k = 6) (c_142 : ¬ k = 7) (c_143 : x_6 ≤ x_8) : (tp - 2) ≤ 60 := by
  (try subst_vars) <;> grind
theorem q_X9_reckon_150 {ba : Nat → Int32} {st : Nat → Int32} {op : Int32} {tp : Int32} {k : Int32} {r_3 : Int32} {x_6 : Int32} {x_8 : Int32} {st_148 : Nat → Int32} {tp_149 : Int32} {r_146 : Int32} (ho1 : 1 ≤ op) (ho2 : op ≤ 25) (hb1 : 0 ≤ ba (op - 1).toNatClampNeg) (hb2 : ba (op - 1).toNatClampNeg ≤ tp) (ht2 : tp ≤ 60) (hr_3 : r_3 = tp - ba (op - 1).toNatClampNeg) (c_4 : 2 ≤ r_3) (ex_6 : x_6 = (st (tp - 1).toNatClampNeg)) (ex_8 : x_8 = (st (tp - 2).toNatClampNeg)) (c_9 : ¬ k = 6) (c_74 : k = 7) (c_137 : ¬ x_6 = 0) (c_138 : ¬ k = 3) (c_139 : ¬ k = 4) (c_140 : ¬ k = 5) (c_141 : ¬ k = 6) (c_142 : ¬ k = 7) (c_143 : x_6 ≤ x_8) (hr_146_0 : r_146 = if (tp - 2) = 60 then 8 else 0) (hr_146_1 : st_148 = if (tp - 2) = 60 then st else upd st (tp - 2).toNatClampNeg (sx (0 : Int32))) (hr_146_2 : tp_149 = if (tp - 2) = 60 then (tp - 2) else (tp - 2) + 1) : ((r_146, st_148, tp_149) = f_reckon k op tp ba st) := by
  (try subst_vars) <;> (try simp only [upd_s, upd_upd, sb1p, as1] at *) <;> simp only [f_reckon, f_ar, sb21] <;> grind
theorem q_X9_reckon_151 {ba : Nat → Int32} {st : Nat → Int32} {op : Int32} {tp : Int32} {k : Int32} {r_3 : Int32} {x_6 : Int32} {x_8 : Int32} (ho1 : 1 ≤ op) (ho2 : op ≤ 25) (hb1 : 0 ≤ ba (op - 1).toNatClampNeg) (hb2 : ba (op - 1).toNatClampNeg ≤ tp) (ht2 : tp ≤ 60) (hr_3 : r_3 = tp - ba (op - 1).toNatClampNeg) (c_4 : 2 ≤ r_3) (ex_6 : x_6 = (st (tp - 1).toNatClampNeg)) (ex_8 : x_8 = (st (tp - 2).toNatClampNeg)) (c_9 : ¬ k = 6) (c_74 : k = 7) (c_137 : ¬ x_6 = 0) (c_138 : ¬ k = 3) (c_139 : ¬ k = 4) (c_140 : ¬ k = 5) (c_141 : ¬ k = 6) (c_142 : ¬ k = 7) (c_143 : ¬ x_6 ≤ x_8) : 0 ≤ (tp - 2) := by
  (try subst_vars) <;> grind
theorem q_X9_reckon_152 {ba : Nat → Int32} {st : Nat → Int32} {op : Int32} {tp : Int32} {k : Int32} {r_3 : Int32} {x_6 : Int32} {x_8 : Int32} (ho1 : 1 ≤ op) (ho2 : op ≤ 25) (hb1 : 0 ≤ ba (op - 1).toNatClampNeg) (hb2 : ba (op - 1).toNatClampNeg ≤ tp) (ht2 : tp ≤ 60) (hr_3 : r_3 = tp - ba (op - 1).toNatClampNeg) (c_4 : 2 ≤ r_3) (ex_6 : x_6 = (st (tp - 1).toNatClampNeg)) (ex_8 : x_8 = (st (tp - 2).toNatClampNeg)) (c_9 : ¬ k = 6) (c_74 : k = 7) (c_137 : ¬ x_6 = 0) (c_138 : ¬ k = 3) (c_139 : ¬ k = 4) (c_140 : ¬ k = 5) (c_141 : ¬ k = 6) (c_142 : ¬ k = 7) (c_143 : ¬ x_6 ≤ x_8) : (tp - 2) ≤ 60 := by
  (try subst_vars) <;> grind
theorem q_X9_reckon_157 {ba : Nat → Int32} {st : Nat → Int32} {op : Int32} {tp : Int32} {k : Int32} {r_3 : Int32} {x_6 : Int32} {x_8 : Int32} {st_155 : Nat → Int32} {tp_156 : Int32} {r_153 : Int32} (ho1 : 1 ≤ op) (ho2 : op ≤ 25) (hb1 : 0 ≤ ba (op - 1).toNatClampNeg) (hb2 : ba (op - 1).toNatClampNeg ≤ tp) (ht2 : tp ≤ 60) (hr_3 : r_3 = tp - ba (op - 1).toNatClampNeg) (c_4 : 2 ≤ r_3) (ex_6 : x_6 = (st (tp - 1).toNatClampNeg)) (ex_8 : x_8 = (st (tp - 2).toNatClampNeg)) (c_9 : ¬ k = 6) (c_74 : k = 7) (c_137 : ¬ x_6 = 0) (c_138 : ¬ k = 3) (c_139 : ¬ k = 4) (c_140 : ¬ k = 5) (c_141 : ¬ k = 6) (c_142 : ¬ k = 7) (c_143 : ¬ x_6 ≤ x_8) (hr_153_0 : r_153 = if (tp - 2) = 60 then 8 else 0) (hr_153_1 : st_155 = if (tp - 2) = 60 then st else upd st (tp - 2).toNatClampNeg (sx (1 : Int32))) (hr_153_2 : tp_156 = if (tp - 2) = 60 then (tp - 2) else (tp - 2) + 1) : ((r_153, st_155, tp_156) = f_reckon k op tp ba st) := by
  (try subst_vars) <;> (try simp only [upd_s, upd_upd, sb1p, as1] at *) <;> simp only [f_reckon, f_ar, sb21] <;> grind
theorem q_X9_reckon_158 {ba : Nat → Int32} {st : Nat → Int32} {op : Int32} {tp : Int32} {k : Int32} {r_3 : Int32} {x_6 : Int32} {x_8 : Int32} (ho1 : 1 ≤ op) (ho2 : op ≤ 25) (hb1 : 0 ≤ ba (op - 1).toNatClampNeg) (hb2 : ba (op - 1).toNatClampNeg ≤ tp) (ht2 : tp ≤ 60) (hr_3 : r_3 = tp - ba (op - 1).toNatClampNeg) (c_4 : 2 ≤ r_3) (ex_6 : x_6 = (st (tp - 1).toNatClampNeg)) (ex_8 : x_8 = (st (tp - 2).toNatClampNeg)) (c_9 : ¬ k = 6) (c_74 : k = 7) (c_137 : ¬ x_6 = 0) (c_138 : ¬ k = 3) (c_139 : ¬ k = 4) (c_140 : ¬ k = 5) (c_141 : ¬ k = 6) (c_142 : k = 7) : ¬ x_6 = 0 := by
  (try subst_vars) <;> grind
theorem q_X9_reckon_160 {ba : Nat → Int32} {st : Nat → Int32} {op : Int32} {tp : Int32} {k : Int32} {r_3 : Int32} {x_6 : Int32} {x_8 : Int32} {x_159 : Int32} (ho1 : 1 ≤ op) (ho2 : op ≤ 25) (hb1 : 0 ≤ ba (op - 1).toNatClampNeg) (hb2 : ba (op - 1).toNatClampNeg ≤ tp) (ht2 : tp ≤ 60) (hr_3 : r_3 = tp - ba (op - 1).toNatClampNeg) (c_4 : 2 ≤ r_3) (ex_6 : x_6 = (st (tp - 1).toNatClampNeg)) (ex_8 : x_8 = (st (tp - 2).toNatClampNeg)) (c_9 : ¬ k = 6) (c_74 : k = 7) (c_137 : ¬ x_6 = 0) (c_138 : ¬ k = 3) (c_139 : ¬ k = 4) (c_140 : ¬ k = 5) (c_141 : ¬ k = 6) (c_142 : k = 7) (ex_159 : x_159 = (x_8 - x_8 / x_6 * x_6)) : 0 ≤ (tp - 2) := by
  (try subst_vars) <;> grind
theorem q_X9_reckon_161 {ba : Nat → Int32} {st : Nat → Int32} {op : Int32} {tp : Int32} {k : Int32} {r_3 : Int32} {x_6 : Int32} {x_8 : Int32} {x_159 : Int32} (ho1 : 1 ≤ op) (ho2 : op ≤ 25) (hb1 : 0 ≤ ba (op - 1).toNatClampNeg) (hb2 : ba (op - 1).toNatClampNeg ≤ tp) (ht2 : tp ≤ 60) (hr_3 : r_3 = tp - ba (op - 1).toNatClampNeg) (c_4 : 2 ≤ r_3) (ex_6 : x_6 = (st (tp - 1).toNatClampNeg)) (ex_8 : x_8 = (st (tp - 2).toNatClampNeg)) (c_9 : ¬ k = 6) (c_74 : k = 7) (c_137 : ¬ x_6 = 0) (c_138 : ¬ k = 3) (c_139 : ¬ k = 4) (c_140 : ¬ k = 5) (c_141 : ¬ k = 6) (c_142 : k = 7) (ex_159 : x_159 = (x_8 - x_8 / x_6 * x_6)) : (tp - 2) ≤ 60 := by
  (try subst_vars) <;> grind
theorem q_X9_reckon_166 {ba : Nat → Int32} {st : Nat → Int32} {op : Int32} {tp : Int32} {k : Int32} {r_3 : Int32} {x_6 : Int32} {x_8 : Int32} {x_159 : Int32} {st_164 : Nat → Int32} {tp_165 : Int32} {r_162 : Int32} (ho1 : 1 ≤ op) (ho2 : op ≤ 25) (hb1 : 0 ≤ ba (op - 1).toNatClampNeg) (hb2 : ba (op - 1).toNatClampNeg ≤ tp) (ht2 : tp ≤ 60) (hr_3 : r_3 = tp - ba (op - 1).toNatClampNeg) (c_4 : 2 ≤ r_3) (ex_6 : x_6 = (st (tp - 1).toNatClampNeg)) (ex_8 : x_8 = (st (tp - 2).toNatClampNeg)) (c_9 : ¬ k = 6) (c_74 : k = 7) (c_137 : ¬ x_6 = 0) (c_138 : ¬ k = 3) (c_139 : ¬ k = 4) (c_140 : ¬ k = 5) (c_141 : ¬ k = 6) (c_142 : k = 7) (ex_159 : x_159 = (x_8 - x_8 / x_6 * x_6)) (hr_162_0 : r_162 = if (tp - 2) = 60 then 8 else 0) (hr_162_1 : st_164 = if (tp - 2) = 60 then st else upd st (tp - 2).toNatClampNeg (sx x_159)) (hr_162_2 : tp_165 = if (tp - 2) = 60 then (tp - 2) else (tp - 2) + 1) : ((r_162, st_164, tp_165) = f_reckon k op tp ba st) := by
  (try subst_vars) <;> (try simp only [upd_s, upd_upd, sb1p, as1] at *) <;> simp only [f_reckon, f_ar, sb21] <;> grind
theorem q_X9_reckon_167 {ba : Nat → Int32} {st : Nat → Int32} {op : Int32} {tp : Int32} {k : Int32} {r_3 : Int32} {x_6 : Int32} {x_8 : Int32} (ho1 : 1 ≤ op) (ho2 : op ≤ 25) (hb1 : 0 ≤ ba (op - 1).toNatClampNeg) (hb2 : ba (op - 1).toNatClampNeg ≤ tp) (ht2 : tp ≤ 60) (hr_3 : r_3 = tp - ba (op - 1).toNatClampNeg) (c_4 : 2 ≤ r_3) (ex_6 : x_6 = (st (tp - 1).toNatClampNeg)) (ex_8 : x_8 = (st (tp - 2).toNatClampNeg)) (c_9 : ¬ k = 6) (c_74 : k = 7) (c_137 : ¬ x_6 = 0) (c_138 : ¬ k = 3) (c_139 : ¬ k = 4) (c_140 : ¬ k = 5) (c_141 : k = 6) : ¬ x_6 = 0 := by
  (try subst_vars) <;> grind
theorem q_X9_reckon_169 {ba : Nat → Int32} {st : Nat → Int32} {op : Int32} {tp : Int32} {k : Int32} {r_3 : Int32} {x_6 : Int32} {x_8 : Int32} {x_168 : Int32} (ho1 : 1 ≤ op) (ho2 : op ≤ 25) (hb1 : 0 ≤ ba (op - 1).toNatClampNeg) (hb2 : ba (op - 1).toNatClampNeg ≤ tp) (ht2 : tp ≤ 60) (hr_3 : r_3 = tp - ba (op - 1).toNatClampNeg) (c_4 : 2 ≤ r_3) (ex_6 : x_6 = (st (tp - 1).toNatClampNeg)) (ex_8 : x_8 = (st (tp - 2).toNatClampNeg)) (c_9 : ¬ k = 6) (c_74 : k = 7) (c_137 : ¬ x_6 = 0) (c_138 : ¬ k = 3) (c_139 : ¬ k = 4) (c_140 : ¬ k = 5) (c_141 : k = 6) (ex_168 : x_168 = (x_8 / x_6)) : 0 ≤ (tp - 2) := by
  (try subst_vars) <;> grind
theorem q_X9_reckon_170 {ba : Nat → Int32} {st : Nat → Int32} {op : Int32} {tp : Int32} {k : Int32} {r_3 : Int32} {x_6 : Int32} {x_8 : Int32} {x_168 : Int32} (ho1 : 1 ≤ op) (ho2 : op ≤ 25) (hb1 : 0 ≤ ba (op - 1).toNatClampNeg) (hb2 : ba (op - 1).toNatClampNeg ≤ tp) (ht2 : tp ≤ 60) (hr_3 : r_3 = tp - ba (op - 1).toNatClampNeg) (c_4 : 2 ≤ r_3) (ex_6 : x_6 = (st (tp - 1).toNatClampNeg)) (ex_8 : x_8 = (st (tp - 2).toNatClampNeg)) (c_9 : ¬ k = 6) (c_74 : k = 7) (c_137 : ¬ x_6 = 0) (c_138 : ¬ k = 3) (c_139 : ¬ k = 4) (c_140 : ¬ k = 5) (c_141 : k = 6) (ex_168 : x_168 = (x_8 / x_6)) : (tp - 2) ≤ 60 := by
  (try subst_vars) <;> grind
theorem q_X9_reckon_175 {ba : Nat → Int32} {st : Nat → Int32} {op : Int32} {tp : Int32} {k : Int32} {r_3 : Int32} {x_6 : Int32} {x_8 : Int32} {x_168 : Int32} {st_173 : Nat → Int32} {tp_174 : Int32} {r_171 : Int32} (ho1 : 1 ≤ op) (ho2 : op ≤ 25) (hb1 : 0 ≤ ba (op - 1).toNatClampNeg) (hb2 : ba (op - 1).toNatClampNeg ≤ tp) (ht2 : tp ≤ 60) (hr_3 : r_3 = tp - ba (op - 1).toNatClampNeg) (c_4 : 2 ≤ r_3) (ex_6 : x_6 = (st (tp - 1).toNatClampNeg)) (ex_8 : x_8 = (st (tp - 2).toNatClampNeg)) (c_9 : ¬ k = 6) (c_74 : k = 7) (c_137 : ¬ x_6 = 0) (c_138 : ¬ k = 3) (c_139 : ¬ k = 4) (c_140 : ¬ k = 5) (c_141 : k = 6) (ex_168 : x_168 = (x_8 / x_6)) (hr_171_0 : r_171 = if (tp - 2) = 60 then 8 else 0) (hr_171_1 : st_173 = if (tp - 2) = 60 then st else upd st (tp - 2).toNatClampNeg (sx x_168)) (hr_171_2 : tp_174 = if (tp - 2) = 60 then (tp - 2) else (tp - 2) + 1) : ((r_171, st_173, tp_174) = f_reckon k op tp ba st) := by
  (try subst_vars) <;> (try simp only [upd_s, upd_upd, sb1p, as1] at *) <;> simp only [f_reckon, f_ar, sb21] <;> grind
theorem q_X9_reckon_177 {ba : Nat → Int32} {st : Nat → Int32} {op : Int32} {tp : Int32} {k : Int32} {r_3 : Int32} {x_6 : Int32} {x_8 : Int32} {x_176 : Int32} (ho1 : 1 ≤ op) (ho2 : op ≤ 25) (hb1 : 0 ≤ ba (op - 1).toNatClampNeg) (hb2 : ba (op - 1).toNatClampNeg ≤ tp) (ht2 : tp ≤ 60) (hr_3 : r_3 = tp - ba (op - 1).toNatClampNeg) (c_4 : 2 ≤ r_3) (ex_6 : x_6 = (st (tp - 1).toNatClampNeg)) (ex_8 : x_8 = (st (tp - 2).toNatClampNeg)) (c_9 : ¬ k = 6) (c_74 : k = 7) (c_137 : ¬ x_6 = 0) (c_138 : ¬ k = 3) (c_139 : ¬ k = 4) (c_140 : k = 5) (ex_176 : x_176 = (x_8 * x_6)) : 0 ≤ (tp - 2) := by
  (try subst_vars) <;> grind
theorem q_X9_reckon_178 {ba : Nat → Int32} {st : Nat → Int32} {op : Int32} {tp : Int32} {k : Int32} {r_3 : Int32} {x_6 : Int32} {x_8 : Int32} {x_176 : Int32} (ho1 : 1 ≤ op) (ho2 : op ≤ 25) (hb1 : 0 ≤ ba (op - 1).toNatClampNeg) (hb2 : ba (op - 1).toNatClampNeg ≤ tp) (ht2 : tp ≤ 60) (hr_3 : r_3 = tp - ba (op - 1).toNatClampNeg) (c_4 : 2 ≤ r_3) (ex_6 : x_6 = (st (tp - 1).toNatClampNeg)) (ex_8 : x_8 = (st (tp - 2).toNatClampNeg)) (c_9 : ¬ k = 6) (c_74 : k = 7) (c_137 : ¬ x_6 = 0) (c_138 : ¬ k = 3) (c_139 : ¬ k = 4) (c_140 : k = 5) (ex_176 : x_176 = (x_8 * x_6)) : (tp - 2) ≤ 60 := by
  (try subst_vars) <;> grind
theorem q_X9_reckon_183 {ba : Nat → Int32} {st : Nat → Int32} {op : Int32} {tp : Int32} {k : Int32} {r_3 : Int32} {x_6 : Int32} {x_8 : Int32} {x_176 : Int32} {st_181 : Nat → Int32} {tp_182 : Int32} {r_179 : Int32} (ho1 : 1 ≤ op) (ho2 : op ≤ 25) (hb1 : 0 ≤ ba (op - 1).toNatClampNeg) (hb2 : ba (op - 1).toNatClampNeg ≤ tp) (ht2 : tp ≤ 60) (hr_3 : r_3 = tp - ba (op - 1).toNatClampNeg) (c_4 : 2 ≤ r_3) (ex_6 : x_6 = (st (tp - 1).toNatClampNeg)) (ex_8 : x_8 = (st (tp - 2).toNatClampNeg)) (c_9 : ¬ k = 6) (c_74 : k = 7) (c_137 : ¬ x_6 = 0) (c_138 : ¬ k = 3) (c_139 : ¬ k = 4) (c_140 : k = 5) (ex_176 : x_176 = (x_8 * x_6)) (hr_179_0 : r_179 = if (tp - 2) = 60 then 8 else 0) (hr_179_1 : st_181 = if (tp - 2) = 60 then st else upd st (tp - 2).toNatClampNeg (sx x_176)) (hr_179_2 : tp_182 = if (tp - 2) = 60 then (tp - 2) else (tp - 2) + 1) : ((r_179, st_181, tp_182) = f_reckon k op tp ba st) := by
  (try subst_vars) <;> (try simp only [upd_s, upd_upd, sb1p, as1] at *) <;> simp only [f_reckon, f_ar, sb21] <;> grind
theorem q_X9_reckon_185 {ba : Nat → Int32} {st : Nat → Int32} {op : Int32} {tp : Int32} {k : Int32} {r_3 : Int32} {x_6 : Int32} {x_8 : Int32} {x_184 : Int32} (ho1 : 1 ≤ op) (ho2 : op ≤ 25) (hb1 : 0 ≤ ba (op - 1).toNatClampNeg) (hb2 : ba (op - 1).toNatClampNeg ≤ tp) (ht2 : tp ≤ 60) (hr_3 : r_3 = tp - ba (op - 1).toNatClampNeg) (c_4 : 2 ≤ r_3) (ex_6 : x_6 = (st (tp - 1).toNatClampNeg)) (ex_8 : x_8 = (st (tp - 2).toNatClampNeg)) (c_9 : ¬ k = 6) (c_74 : k = 7) (c_137 : ¬ x_6 = 0) (c_138 : ¬ k = 3) (c_139 : k = 4) (ex_184 : x_184 = (x_8 - x_6)) : 0 ≤ (tp - 2) := by
  (try subst_vars) <;> grind
theorem q_X9_reckon_186 {ba : Nat → Int32} {st : Nat → Int32} {op : Int32} {tp : Int32} {k : Int32} {r_3 : Int32} {x_6 : Int32} {x_8 : Int32} {x_184 : Int32} (ho1 : 1 ≤ op) (ho2 : op ≤ 25) (hb1 : 0 ≤ ba (op - 1).toNatClampNeg) (hb2 : ba (op - 1).toNatClampNeg ≤ tp) (ht2 : tp ≤ 60) (hr_3 : r_3 = tp - ba (op - 1).toNatClampNeg) (c_4 : 2 ≤ r_3) (ex_6 : x_6 = (st (tp - 1).toNatClampNeg)) (ex_8 : x_8 = (st (tp - 2).toNatClampNeg)) (c_9 : ¬ k = 6) (c_74 : k = 7) (c_137 : ¬ x_6 = 0) (c_138 : ¬ k = 3) (c_139 : k = 4) (ex_184 : x_184 = (x_8 - x_6)) : (tp - 2) ≤ 60 := by
  (try subst_vars) <;> grind
theorem q_X9_reckon_191 {ba : Nat → Int32} {st : Nat → Int32} {op : Int32} {tp : Int32} {k : Int32} {r_3 : Int32} {x_6 : Int32} {x_8 : Int32} {x_184 : Int32} {st_189 : Nat → Int32} {tp_190 : Int32} {r_187 : Int32} (ho1 : 1 ≤ op) (ho2 : op ≤ 25) (hb1 : 0 ≤ ba (op - 1).toNatClampNeg) (hb2 : ba (op - 1).toNatClampNeg ≤ tp) (ht2 : tp ≤ 60) (hr_3 : r_3 = tp - ba (op - 1).toNatClampNeg) (c_4 : 2 ≤ r_3) (ex_6 : x_6 = (st (tp - 1).toNatClampNeg)) (ex_8 : x_8 = (st (tp - 2).toNatClampNeg)) (c_9 : ¬ k = 6) (c_74 : k = 7) (c_137 : ¬ x_6 = 0) (c_138 : ¬ k = 3) (c_139 : k = 4) (ex_184 : x_184 = (x_8 - x_6)) (hr_187_0 : r_187 = if (tp - 2) = 60 then 8 else 0) (hr_187_1 : st_189 = if (tp - 2) = 60 then st else upd st (tp - 2).toNatClampNeg (sx x_184)) (hr_187_2 : tp_190 = if (tp - 2) = 60 then (tp - 2) else (tp - 2) + 1) : ((r_187, st_189, tp_190) = f_reckon k op tp ba st) := by
  (try subst_vars) <;> (try simp only [upd_s, upd_upd, sb1p, as1] at *) <;> simp only [f_reckon, f_ar, sb21] <;> grind
theorem q_X9_reckon_193 {ba : Nat → Int32} {st : Nat → Int32} {op : Int32} {tp : Int32} {k : Int32} {r_3 : Int32} {x_6 : Int32} {x_8 : Int32} {x_192 : Int32} (ho1 : 1 ≤ op) (ho2 : op ≤ 25) (hb1 : 0 ≤ ba (op - 1).toNatClampNeg) (hb2 : ba (op - 1).toNatClampNeg ≤ tp) (ht2 : tp ≤ 60) (hr_3 : r_3 = tp - ba (op - 1).toNatClampNeg) (c_4 : 2 ≤ r_3) (ex_6 : x_6 = (st (tp - 1).toNatClampNeg)) (ex_8 : x_8 = (st (tp - 2).toNatClampNeg)) (c_9 : ¬ k = 6) (c_74 : k = 7) (c_137 : ¬ x_6 = 0) (c_138 : k = 3) (ex_192 : x_192 = (x_8 + x_6)) : 0 ≤ (tp - 2) := by
  (try subst_vars) <;> grind
theorem q_X9_reckon_194 {ba : Nat → Int32} {st : Nat → Int32} {op : Int32} {tp : Int32} {k : Int32} {r_3 : Int32} {x_6 : Int32} {x_8 : Int32} {x_192 : Int32} (ho1 : 1 ≤ op) (ho2 : op ≤ 25) (hb1 : 0 ≤ ba (op - 1).toNatClampNeg) (hb2 : ba (op - 1).toNatClampNeg ≤ tp) (ht2 : tp ≤ 60) (hr_3 : r_3 = tp - ba (op - 1).toNatClampNeg) (c_4 : 2 ≤ r_3) (ex_6 : x_6 = (st (tp - 1).toNatClampNeg)) (ex_8 : x_8 = (st (tp - 2).toNatClampNeg)) (c_9 : ¬ k = 6) (c_74 : k = 7) (c_137 : ¬ x_6 = 0) (c_138 : k = 3) (ex_192 : x_192 = (x_8 + x_6)) : (tp - 2) ≤ 60 := by
  (try subst_vars) <;> grind
theorem q_X9_reckon_199 {ba : Nat → Int32} {st : Nat → Int32} {op : Int32} {tp : Int32} {k : Int32} {r_3 : Int32} {x_6 : Int32} {x_8 : Int32} {x_192 : Int32} {st_197 : Nat → Int32} {tp_198 : Int32} {r_195 : Int32} (ho1 : 1 ≤ op) (ho2 : op ≤ 25) (hb1 : 0 ≤ ba (op - 1).toNatClampNeg) (hb2 : ba (op - 1).toNatClampNeg ≤ tp) (ht2 : tp ≤ 60) (hr_3 : r_3 = tp - ba (op - 1).toNatClampNeg) (c_4 : 2 ≤ r_3) (ex_6 : x_6 = (st (tp - 1).toNatClampNeg)) (ex_8 : x_8 = (st (tp - 2).toNatClampNeg)) (c_9 : ¬ k = 6) (c_74 : k = 7) (c_137 : ¬ x_6 = 0) (c_138 : k = 3) (ex_192 : x_192 = (x_8 + x_6)) (hr_195_0 : r_195 = if (tp - 2) = 60 then 8 else 0) (hr_195_1 : st_197 = if (tp - 2) = 60 then st else upd st (tp - 2).toNatClampNeg (sx x_192)) (hr_195_2 : tp_198 = if (tp - 2) = 60 then (tp - 2) else (tp - 2) + 1) : ((r_195, st_197, tp_198) = f_reckon k op tp ba st) := by
  (try subst_vars) <;> (try simp only [upd_s, upd_upd, sb1p, as1] at *) <;> simp only [f_reckon, f_ar, sb21] <;> grind
theorem q_X9_reckon_200 {ba : Nat → Int32} {st : Nat → Int32} {op : Int32} {tp : Int32} {k : Int32} {r_3 : Int32} {x_6 : Int32} {x_8 : Int32} (ho1 : 1 ≤ op) (ho2 : op ≤ 25) (hb1 : 0 ≤ ba (op - 1).toNatClampNeg) (hb2 : ba (op - 1).toNatClampNeg ≤ tp) (ht2 : tp ≤ 60) (hr_3 : r_3 = tp - ba (op - 1).toNatClampNeg) (c_4 : 2 ≤ r_3) (ex_6 : x_6 = (st (tp - 1).toNatClampNeg)) (ex_8 : x_8 = (st (tp - 2).toNatClampNeg)) (c_9 : ¬ k = 6) (c_74 : k = 7) (c_137 : x_6 = 0) : (((3 : Int32), st, tp) = f_reckon k op tp ba st) := by
  (try subst_vars) <;> (try simp only [upd_s, upd_upd, sb1p, as1] at *) <;> simp only [f_reckon, f_ar, sb21] <;> grind
theorem q_X9_reckon_201 {ba : Nat → Int32} {st : Nat → Int32} {op : Int32} {tp : Int32} {k : Int32} {r_3 : Int32} (ho1 : 1 ≤ op) (ho2 : op ≤ 25) (hb1 : 0 ≤ ba (op - 1).toNatClampNeg) (hb2 : ba (op - 1).toNatClampNeg ≤ tp) (ht2 : tp ≤ 60) (hr_3 : r_3 = tp - ba (op - 1).toNatClampNeg) (c_4 : ¬ 2 ≤ r_3) : (((1 : Int32), st, tp) = f_reckon k op tp ba st) := by
  (try subst_vars) <;> (try simp only [upd_s, upd_upd, sb1p, as1] at *) <;> simp only [f_reckon, f_ar, sb21] <;> grind
set_option maxHeartbeats 4000000 in
set_option maxRecDepth 100000 in
theorem c_X9_reckon (l : Launch) (dC : Nat → ClassId) (dI : Nat → Nat → Nat) (cI : ClassId) (sz : Nat) (aX : Nat) (m0 : Nat) (m1 : Nat) (m2 : Nat) (m3 : Nat) (m4 : Nat) (m5 : Nat) (m6 : Nat) (m7 : Nat) (m8 : Nat) (m9 : Nat) (m10 : Nat) (m11 : Nat) (m12 : Nat) (m13 : Nat) (m14 : Nat) (m15 : Nat) (ba : Nat → Int32) (st : Nat → Int32) (cn : Int32) (op : Int32) (mx : Int32) (tp : Int32) (fa : Int32) (ro : Int32) (pp : Int32) (fm : Int32) (sp : Int32) (it : Int32) (gn : Int32) (mi : Int32) (me : Int32) (mb : Int32) (mv : Int32) (mr : Int32) (mf : Int32) (md : Int32) (mw : Int32) (k : Int32) (ho1 : 1 ≤ op) (ho2 : op ≤ 25) (hb1 : 0 ≤ ba (op - 1).toNatClampNeg) (hb2 : ba (op - 1).toNatClampNeg ≤ tp) (ht2 : tp ≤ 60) : mWi l yX9_reckon wsX9_reckon ({ frames := 1, cells := 0, slots := 0, locals := 21 }) [.ref aX, .int k] (dC, dI) [(cI, .int)] [(aX, .inr (6, [.int cn, .ref m0, .ref m1, .ref m2, .ref m3, .ref m4, .ref m5, .ref m6, .ref m7, .ref m8, .int mi, .int me, .ref m9, .int gn, .ref m10, .ref m11, .ref m12, .ref m13, .ref m14, .int op, .ref m15, .int tp, .int mb, .int mv, .int mr, .int mf, .int md, .int sp, .int mw, .int it, .int mx, .int fa, .int ro, .int pp, .int fm])), (m12, .inl (cI, 25, .inl ba)), (m15, .inl (cI, 61, .inl st))] sz (fun (v : Int32) (u : (Nat → Int32) × (Int32)) => ((v, u.1, u.2) = f_reckon k op tp ba st)) (fun u : (Nat → Int32) × (Int32) => [(aX, .inr (6, [.int cn, .ref m0, .ref m1, .ref m2, .ref m3, .ref m4, .ref m5, .ref m6, .ref m7, .ref m8, .int mi, .int me, .ref m9, .int gn, .ref m10, .ref m11, .ref m12, .ref m13, .ref m14, .int op, .ref m15, .int u.2, .int mb, .int mv, .int mr, .int mf, .int md, .int sp, .int mw, .int it, .int mx, .int fa, .int ro, .int pp, .int fm])), (m12, .inl (cI, 25, .inl ba)), (m15, .inl (cI, 61, .inl u.1))]) := by
  refine o_wi (cc := cX9_reckon) (maxL := 5) (ret := (some .int)) (by decide) rfl (Nat.le_of_ble_eq_true rfl) ?_
  intro p e s m below meth c ls A hx hb hr hml hts hown hlocks hP hK hD hS hA hl
  have hown : s.vm.findClass RX9 = some m.cls := hown
  have hl : lv_has ls 5 [(0, .ref aX), (1, .int k)] := hl
  have k_1 := hts (.fieldLink RX9 62 "ZRoutinesModel" "stack" "[I") (List.mem_of_getElem? (i := 1) rfl)
  have k_2 := hts (.fieldLink RX9 84 "ZRoutinesModel" "top" "I") (List.mem_of_getElem? (i := 2) rfl)
  have i_X9 : ∀ w ∈ u_ws RX9 TX9 35, w ∈ wsX9_reckon := fun _ h => List.mem_cons_of_mem _ (List.mem_append_right _ h)
  refine lv_aload_n hx hb dX9_reckon_0 rfl (lv_at hl 0 rfl) ?_
  refine k_rd (ci := 6) (q0 := 0) (q := (RX9, TX9, 35)) (As := []) (rest := []) ⟨hx, hb, hml, hown, hts⟩ (c_X9_has l dC dI cI aX m0 m1 m2 m3 m4 m5 m6 m7 m8 m9 m10 m11 m12 m13 m14 m15 ba cn op mx tp fa ro pp fm sp it gn mi me mb mv mr mf md mw (q_X9_reckon_1 ho1 ho2 hb1 hb2 ht2) (q_X9_reckon_2 ho1 ho2 hb1 hb2 ht2)) (cwV 0 hts gX9_reckon_X9_has rfl rfl rfl (by decide +kernel) ⟨Nat.le_of_ble_eq_true rfl, Nat.le_of_ble_eq_true rfl⟩) hK hP [0, 1] rfl rfl rfl rfl hl.1 rfl (Nat.le_of_ble_eq_true rfl) dX9_reckon_1 ⟨Nat.zero_le _, Nat.zero_le _⟩ (fun r_3 hr_3 => ?_)
  have hr_3 : r_3 = tp - ba (op - 1).toNatClampNeg := hr_3
  refine lv_iconst (v := 2) hx hb dX9_reckon_4 (by decide) ?_
  refine lv_icmp_ge (tgt := 10) hx hb dX9_reckon_5 (by decide) (fun c_4 => ?_) (fun c_4 => ?_)
  · skip
    refine lv_aload_n hx hb dX9_reckon_10 rfl (lv_at hl 0 rfl) ?_
    refine va_get (D := (dC, dI)) (ci := 6) (v := .ref m15) (C := RX9) (T := TX9) (N := 35) hx hb hts i_X9 hown hK hP 0 rfl rfl 20 (by decide) k_1 (fun _ h9 => h9) rfl dX9_reckon_11 ?_
    refine lv_aload_n hx hb dX9_reckon_14 rfl (lv_at hl 0 rfl) ?_
    refine va_get (D := (dC, dI)) (ci := 6) (v := .int tp) (C := RX9) (T := TX9) (N := 35) hx hb hts i_X9 hown hK hP 0 rfl rfl 21 (by decide) k_2 (fun _ h9 => h9) rfl dX9_reckon_15 ?_
    refine lv_iconst (v := 1) hx hb dX9_reckon_18 (by decide) ?_
    refine lv_isub hx hb dX9_reckon_19 ?_
    refine va_iald hx hb hK hP 2 0 rfl rfl (q_X9_reckon_5 ho1 ho2 hb1 hb2 ht2 hr_3 c_4) dX9_reckon_20 ?_
    refine lv_topi (fun x_6 ex_6 => ?_)
    refine lv_istore_n (lv' := [(2, .int x_6), (0, .ref aX), (1, .int k)]) hx hb dX9_reckon_21 rfl hl (by decide) rfl (fun ls hl => ?_)
    refine lv_aload_n hx hb dX9_reckon_22 rfl (lv_at hl 1 rfl) ?_
    refine va_get (D := (dC, dI)) (ci := 6) (v := .ref m15) (C := RX9) (T := TX9) (N := 35) hx hb hts i_X9 hown hK hP 0 rfl rfl 20 (by decide) k_1 (fun _ h9 => h9) rfl dX9_reckon_23 ?_
    refine lv_aload_n hx hb dX9_reckon_26 rfl (lv_at hl 1 rfl) ?_
    refine va_get (D := (dC, dI)) (ci := 6) (v := .int tp) (C := RX9) (T := TX9) (N := 35) hx hb hts i_X9 hown hK hP 0 rfl rfl 21 (by decide) k_2 (fun _ h9 => h9) rfl dX9_reckon_27 ?_
    refine lv_iconst (v := 2) hx hb dX9_reckon_30 (by decide) ?_
    refine lv_isub hx hb dX9_reckon_31 ?_
    refine va_iald hx hb hK hP 2 0 rfl rfl (q_X9_reckon_7 ho1 ho2 hb1 hb2 ht2 hr_3 c_4 ex_6) dX9_reckon_32 ?_
    refine lv_topi (fun x_8 ex_8 => ?_)
    refine lv_istore_n (lv' := [(3, .int x_8), (2, .int x_6), (0, .ref aX), (1, .int k)]) hx hb dX9_reckon_33 rfl hl (by decide) rfl (fun ls hl => ?_)
    refine lv_iload_n hx hb dX9_reckon_34 rfl (lv_at hl 3 rfl) ?_
    refine lv_bipush (v := 6) hx hb dX9_reckon_35 (by decide) ?_
    refine lv_icmp_eq (tgt := 46) hx hb dX9_reckon_37 (by decide) (fun c_9 => ?_) (fun c_9 => ?_)
    · skip
      refine lv_iload_n hx hb dX9_reckon_46 rfl (lv_at hl 1 rfl) ?_
      refine lv_if_ne (tgt := 52) hx hb dX9_reckon_47 (by decide) (fun c_10 => ?_) (fun c_10 => ?_)
      · skip
        refine lv_aload_n hx hb dX9_reckon_52 rfl (lv_at hl 2 rfl) ?_
        refine lv_dup hx hb dX9_reckon_53 rfl ?_
        refine va_get (D := (dC, dI)) (ci := 6) (v := .int tp) (C := RX9) (T := TX9) (N := 35) hx hb hts i_X9 hown hK hP 0 rfl rfl 21 (by decide) k_2 (fun _ h9 => h9) rfl dX9_reckon_54 ?_
        refine lv_iconst (v := 2) hx hb dX9_reckon_57 (by decide) ?_
        refine lv_isub hx hb dX9_reckon_58 ?_
        refine va_put (D := (dC, dI)) (ci := 6) (v := .int (tp - 2)) (ty := .int) (C := RX9) (T := TX9) (N := 35) hx hb hts i_X9 tyX9 tyX9_ok nmX9 hown hK hP hD hS 0 rfl rfl 21 (by decide) k_2 (fun _ h9 => h9) rfl (by decide +kernel) rfl rfl (Nat.le_of_ble_eq_true rfl) dX9_reckon_59 (fun H locs hP hD hS => ?_)
        have hP : va_P (dC, dI) vwCl [(aX, .inr (6, [.int cn, .ref m0, .ref m1, .ref m2, .ref m3, .ref m4, .ref m5, .ref m6, .ref m7, .ref m8, .int mi, .int me, .ref m9, .int gn, .ref m10, .ref m11, .ref m12, .ref m13, .ref m14, .int op, .ref m15, .int (tp - 2), .int mb, .int mv, .int mr, .int mf, .int md, .int sp, .int mw, .int it, .int mx, .int fa, .int ro, .int pp, .int fm])), (m12, .inl (cI, 25, .inl ba)), (m15, .inl (cI, 61, .inl st))] H := hP
        have hD : va_D A [(aX, .inr (6, [.int cn, .ref m0, .ref m1, .ref m2, .ref m3, .ref m4, .ref m5, .ref m6, .ref m7, .ref m8, .int mi, .int me, .ref m9, .int gn, .ref m10, .ref m11, .ref m12, .ref m13, .ref m14, .int op, .ref m15, .int (tp - 2), .int mb, .int mv, .int mr, .int mf, .int md, .int sp, .int mw, .int it, .int mx, .int fa, .int ro, .int pp, .int fm])), (m12, .inl (cI, 25, .inl ba)), (m15, .inl (cI, 61, .inl st))] := hD
        refine lv_iload_n hx hb dX9_reckon_62 rfl (lv_at hl 3 rfl) ?_
        refine lv_iconst (v := 3) hx hb dX9_reckon_63 (by decide) ?_
        refine lv_icmp_ne (tgt := 73) hx hb dX9_reckon_64 (by decide) (fun c_11 => ?_) (fun c_11 => ?_)
        · skip
          refine lv_iload_n hx hb dX9_reckon_73 rfl (lv_at hl 3 rfl) ?_
          refine lv_iconst (v := 4) hx hb dX9_reckon_74 (by decide) ?_
          refine lv_icmp_ne (tgt := 84) hx hb dX9_reckon_75 (by decide) (fun c_12 => ?_) (fun c_12 => ?_)
          · skip
            refine lv_iload_n hx hb dX9_reckon_84 rfl (lv_at hl 3 rfl) ?_
            refine lv_iconst (v := 5) hx hb dX9_reckon_85 (by decide) ?_
            refine lv_icmp_ne (tgt := 95) hx hb dX9_reckon_86 (by decide) (fun c_13 => ?_) (fun c_13 => ?_)
            · skip
              refine lv_iload_n hx hb dX9_reckon_95 rfl (lv_at hl 3 rfl) ?_
              refine lv_bipush (v := 6) hx hb dX9_reckon_96 (by decide) ?_
              refine lv_icmp_ne (tgt := 107) hx hb dX9_reckon_98 (by decide) (fun c_14 => ?_) (fun c_14 => ?_)
              · skip
                refine lv_iload_n hx hb dX9_reckon_107 rfl (lv_at hl 3 rfl) ?_
                refine lv_bipush (v := 7) hx hb dX9_reckon_108 (by decide) ?_
                refine lv_icmp_ne (tgt := 119) hx hb dX9_reckon_110 (by decide) (fun c_15 => ?_) (fun c_15 => ?_)
                · skip
                  refine lv_iload_n hx hb dX9_reckon_119 rfl (lv_at hl 0 rfl) ?_
                  refine lv_iload_n hx hb dX9_reckon_120 rfl (lv_at hl 1 rfl) ?_
                  refine lv_icmp_ge (tgt := 128) hx hb dX9_reckon_121 (by decide) (fun c_16 => ?_) (fun c_16 => ?_)
                  · skip
                    refine lv_iconst (v := 0) hx hb dX9_reckon_128 (by decide) ?_
                    refine lv_istore (lv' := [(4, .int 0), (3, .int x_8), (2, .int x_6), (0, .ref aX), (1, .int k)]) hx hb dX9_reckon_129 hl (by decide) rfl (fun ls hl => ?_)
                    refine lv_aload_n hx hb dX9_reckon_131 rfl (lv_at hl 3 rfl) ?_
                    refine lv_iload hx hb dX9_reckon_132 (lv_at hl 0 rfl) ?_
                    refine k_wi (w2 := (fun u_20 : (Nat → Int32) × (Int32) => [(aX, .inr (6, [.int cn, .ref m0, .ref m1, .ref m2, .ref m3, .ref m4, .ref m5, .ref m6, .ref m7, .ref m8, .int mi, .int me, .ref m9, .int gn, .ref m10, .ref m11, .ref m12, .ref m13, .ref m14, .int op, .ref m15, .int u_20.2, .int mb, .int mv, .int mr, .int mf, .int md, .int sp, .int mw, .int it, .int mx, .int fa, .int ro, .int pp, .int fm])), (m12, .inl (cI, 25, .inl ba)), (m15, .inl (cI, 61, .inl u_20.1))])) (wr := [(m12, .inl (cI, 25, .inl ba))]) (ci := 6) (q0 := 0) (q := (RX9, TX9, 35)) (As := [.int 0]) (rest := []) ⟨hx, hb, hml, hown, hts⟩ (c_X9_push l dC dI cI _ aX m0 m1 m2 m3 m4 m5 m6 m7 m8 m9 m10 m11 m12 m13 m14 m15 st cn op mx (tp - 2) fa ro pp fm sp it gn mi me mb mv mr mf md mw 0 (q_X9_reckon_17 ho1 ho2 hb1 hb2 ht2 hr_3 c_4 ex_6 ex_8 c_9 c_10 c_11 c_12 c_13 c_14 c_15 c_16) (q_X9_reckon_18 ho1 ho2 hb1 hb2 ht2 hr_3 c_4 ex_6 ex_8 c_9 c_10 c_11 c_12 c_13 c_14 c_15 c_16)) (cwV 1 hts gX9_reckon_X9_push rfl rfl rfl (by decide +kernel) ⟨Nat.le_of_ble_eq_true rfl, Nat.le_of_ble_eq_true rfl⟩) hK hP hD hS hA [0, 2] [1] [1, 0, 2] rfl rfl (by decide) (fun _ => rfl) rfl rfl rfl hl.1 rfl (Nat.le_of_ble_eq_true rfl) dX9_reckon_134 ⟨Nat.zero_le _, Nat.zero_le _⟩ (fun r_19 u_20 H locs hr_19 hP hD hS => ?_)
                    obtain ⟨st_21, tp_22⟩ := u_20
                    have hP : va_P (dC, dI) vwCl [(aX, .inr (6, [.int cn, .ref m0, .ref m1, .ref m2, .ref m3, .ref m4, .ref m5, .ref m6, .ref m7, .ref m8, .int mi, .int me, .ref m9, .int gn, .ref m10, .ref m11, .ref m12, .ref m13, .ref m14, .int op, .ref m15, .int tp_22, .int mb, .int mv, .int mr, .int mf, .int md, .int sp, .int mw, .int it, .int mx, .int fa, .int ro, .int pp, .int fm])), (m12, .inl (cI, 25, .inl ba)), (m15, .inl (cI, 61, .inl st_21))] H := hP
                    have hD : va_D A [(aX, .inr (6, [.int cn, .ref m0, .ref m1, .ref m2, .ref m3, .ref m4, .ref m5, .ref m6, .ref m7, .ref m8, .int mi, .int me, .ref m9, .int gn, .ref m10, .ref m11, .ref m12, .ref m13, .ref m14, .int op, .ref m15, .int tp_22, .int mb, .int mv, .int mr, .int mf, .int md, .int sp, .int mw, .int it, .int mx, .int fa, .int ro, .int pp, .int fm])), (m12, .inl (cI, 25, .inl ba)), (m15, .inl (cI, 61, .inl st_21))] := hD
                    obtain ⟨hr_19_0, hr_19_1, hr_19_2⟩ := hr_19
                    have hr_19_0 : r_19 = if (tp - 2) = 60 then 8 else 0 := hr_19_0
                    have hr_19_1 : st_21 = if (tp - 2) = 60 then st else upd st (tp - 2).toNatClampNeg (sx (0 : Int32)) := hr_19_1
                    have hr_19_2 : tp_22 = if (tp - 2) = 60 then (tp - 2) else (tp - 2) + 1 := hr_19_2
                    exact e_wi hx hb hr hlocks dX9_reckon_137 hK hS (st_21, tp_22) hP hD (q_X9_reckon_23 ho1 ho2 hb1 hb2 ht2 hr_3 c_4 ex_6 ex_8 c_9 c_10 c_11 c_12 c_13 c_14 c_15 c_16 hr_19_0 hr_19_1 hr_19_2)
                  · skip
                    refine lv_iconst (v := 1) hx hb dX9_reckon_124 (by decide) ?_
                    refine lv_goto (tgt := 129) hx hb dX9_reckon_125 (by decide) ?_
                    refine lv_istore (lv' := [(4, .int 1), (3, .int x_8), (2, .int x_6), (0, .ref aX), (1, .int k)]) hx hb dX9_reckon_129 hl (by decide) rfl (fun ls hl => ?_)
                    refine lv_aload_n hx hb dX9_reckon_131 rfl (lv_at hl 3 rfl) ?_
                    refine lv_iload hx hb dX9_reckon_132 (lv_at hl 0 rfl) ?_
                    refine k_wi (w2 := (fun u_27 : (Nat → Int32) × (Int32) => [(aX, .inr (6, [.int cn, .ref m0, .ref m1, .ref m2, .ref m3, .ref m4, .ref m5, .ref m6, .ref m7, .ref m8, .int mi, .int me, .ref m9, .int gn, .ref m10, .ref m11, .ref m12, .ref m13, .ref m14, .int op, .ref m15, .int u_27.2, .int mb, .int mv, .int mr, .int mf, .int md, .int sp, .int mw, .int it, .int mx, .int fa, .int ro, .int pp, .int fm])), (m12, .inl (cI, 25, .inl ba)), (m15, .inl (cI, 61, .inl u_27.1))])) (wr := [(m12, .inl (cI, 25, .inl ba))]) (ci := 6) (q0 := 0) (q := (RX9, TX9, 35)) (As := [.int 1]) (rest := []) ⟨hx, hb, hml, hown, hts⟩ (c_X9_push l dC dI cI _ aX m0 m1 m2 m3 m4 m5 m6 m7 m8 m9 m10 m11 m12 m13 m14 m15 st cn op mx (tp - 2) fa ro pp fm sp it gn mi me mb mv mr mf md mw 1 (q_X9_reckon_24 ho1 ho2 hb1 hb2 ht2 hr_3 c_4 ex_6 ex_8 c_9 c_10 c_11 c_12 c_13 c_14 c_15 c_16) (q_X9_reckon_25 ho1 ho2 hb1 hb2 ht2 hr_3 c_4 ex_6 ex_8 c_9 c_10 c_11 c_12 c_13 c_14 c_15 c_16)) (cwV 1 hts gX9_reckon_X9_push rfl rfl rfl (by decide +kernel) ⟨Nat.le_of_ble_eq_true rfl, Nat.le_of_ble_eq_true rfl⟩) hK hP hD hS hA [0, 2] [1] [1, 0, 2] rfl rfl (by decide) (fun _ => rfl) rfl rfl rfl hl.1 rfl (Nat.le_of_ble_eq_true rfl) dX9_reckon_134 ⟨Nat.zero_le _, Nat.zero_le _⟩ (fun r_26 u_27 H locs hr_26 hP hD hS => ?_)
                    obtain ⟨st_28, tp_29⟩ := u_27
                    have hP : va_P (dC, dI) vwCl [(aX, .inr (6, [.int cn, .ref m0, .ref m1, .ref m2, .ref m3, .ref m4, .ref m5, .ref m6, .ref m7, .ref m8, .int mi, .int me, .ref m9, .int gn, .ref m10, .ref m11, .ref m12, .ref m13, .ref m14, .int op, .ref m15, .int tp_29, .int mb, .int mv, .int mr, .int mf, .int md, .int sp, .int mw, .int it, .int mx, .int fa, .int ro, .int pp, .int fm])), (m12, .inl (cI, 25, .inl ba)), (m15, .inl (cI, 61, .inl st_28))] H := hP
                    have hD : va_D A [(aX, .inr (6, [.int cn, .ref m0, .ref m1, .ref m2, .ref m3, .ref m4, .ref m5, .ref m6, .ref m7, .ref m8, .int mi, .int me, .ref m9, .int gn, .ref m10, .ref m11, .ref m12, .ref m13, .ref m14, .int op, .ref m15, .int tp_29, .int mb, .int mv, .int mr, .int mf, .int md, .int sp, .int mw, .int it, .int mx, .int fa, .int ro, .int pp, .int fm])), (m12, .inl (cI, 25, .inl ba)), (m15, .inl (cI, 61, .inl st_28))] := hD
                    obtain ⟨hr_26_0, hr_26_1, hr_26_2⟩ := hr_26
                    have hr_26_0 : r_26 = if (tp - 2) = 60 then 8 else 0 := hr_26_0
                    have hr_26_1 : st_28 = if (tp - 2) = 60 then st else upd st (tp - 2).toNatClampNeg (sx (1 : Int32)) := hr_26_1
                    have hr_26_2 : tp_29 = if (tp - 2) = 60 then (tp - 2) else (tp - 2) + 1 := hr_26_2
                    exact e_wi hx hb hr hlocks dX9_reckon_137 hK hS (st_28, tp_29) hP hD (q_X9_reckon_30 ho1 ho2 hb1 hb2 ht2 hr_3 c_4 ex_6 ex_8 c_9 c_10 c_11 c_12 c_13 c_14 c_15 c_16 hr_26_0 hr_26_1 hr_26_2)
                · skip
                  refine lv_iload_n hx hb dX9_reckon_113 rfl (lv_at hl 0 rfl) ?_
                  refine lv_iload_n hx hb dX9_reckon_114 rfl (lv_at hl 1 rfl) ?_
                  refine lv_irem hx hb dX9_reckon_115 (q_X9_reckon_31 ho1 ho2 hb1 hb2 ht2 hr_3 c_4 ex_6 ex_8 c_9 c_10 c_11 c_12 c_13 c_14 c_15) ?_
                  refine lv_goto (tgt := 129) hx hb dX9_reckon_116 (by decide) ?_
                  refine lv_topi (fun x_32 ex_32 => ?_)
                  refine lv_istore (lv' := [(4, .int x_32), (3, .int x_8), (2, .int x_6), (0, .ref aX), (1, .int k)]) hx hb dX9_reckon_129 hl (by decide) rfl (fun ls hl => ?_)
                  refine lv_aload_n hx hb dX9_reckon_131 rfl (lv_at hl 3 rfl) ?_
                  refine lv_iload hx hb dX9_reckon_132 (lv_at hl 0 rfl) ?_
                  refine k_wi (w2 := (fun u_36 : (Nat → Int32) × (Int32) => [(aX, .inr (6, [.int cn, .ref m0, .ref m1, .ref m2, .ref m3, .ref m4, .ref m5, .ref m6, .ref m7, .ref m8, .int mi, .int me, .ref m9, .int gn, .ref m10, .ref m11, .ref m12, .ref m13, .ref m14, .int op, .ref m15, .int u_36.2, .int mb, .int mv, .int mr, .int mf, .int md, .int sp, .int mw, .int it, .int mx, .int fa, .int ro, .int pp, .int fm])), (m12, .inl (cI, 25, .inl ba)), (m15, .inl (cI, 61, .inl u_36.1))])) (wr := [(m12, .inl (cI, 25, .inl ba))]) (ci := 6) (q0 := 0) (q := (RX9, TX9, 35)) (As := [.int x_32]) (rest := []) ⟨hx, hb, hml, hown, hts⟩ (c_X9_push l dC dI cI _ aX m0 m1 m2 m3 m4 m5 m6 m7 m8 m9 m10 m11 m12 m13 m14 m15 st cn op mx (tp - 2) fa ro pp fm sp it gn mi me mb mv mr mf md mw x_32 (q_X9_reckon_33 ho1 ho2 hb1 hb2 ht2 hr_3 c_4 ex_6 ex_8 c_9 c_10 c_11 c_12 c_13 c_14 c_15 ex_32) (q_X9_reckon_34 ho1 ho2 hb1 hb2 ht2 hr_3 c_4 ex_6 ex_8 c_9 c_10 c_11 c_12 c_13 c_14 c_15 ex_32)) (cwV 1 hts gX9_reckon_X9_push rfl rfl rfl (by decide +kernel) ⟨Nat.le_of_ble_eq_true rfl, Nat.le_of_ble_eq_true rfl⟩) hK hP hD hS hA [0, 2] [1] [1, 0, 2] rfl rfl (by decide) (fun _ => rfl) rfl rfl rfl hl.1 rfl (Nat.le_of_ble_eq_true rfl) dX9_reckon_134 ⟨Nat.zero_le _, Nat.zero_le _⟩ (fun r_35 u_36 H locs hr_35 hP hD hS => ?_)
                  obtain ⟨st_37, tp_38⟩ := u_36
                  have hP : va_P (dC, dI) vwCl [(aX, .inr (6, [.int cn, .ref m0, .ref m1, .ref m2, .ref m3, .ref m4, .ref m5, .ref m6, .ref m7, .ref m8, .int mi, .int me, .ref m9, .int gn, .ref m10, .ref m11, .ref m12, .ref m13, .ref m14, .int op, .ref m15, .int tp_38, .int mb, .int mv, .int mr, .int mf, .int md, .int sp, .int mw, .int it, .int mx, .int fa, .int ro, .int pp, .int fm])), (m12, .inl (cI, 25, .inl ba)), (m15, .inl (cI, 61, .inl st_37))] H := hP
                  have hD : va_D A [(aX, .inr (6, [.int cn, .ref m0, .ref m1, .ref m2, .ref m3, .ref m4, .ref m5, .ref m6, .ref m7, .ref m8, .int mi, .int me, .ref m9, .int gn, .ref m10, .ref m11, .ref m12, .ref m13, .ref m14, .int op, .ref m15, .int tp_38, .int mb, .int mv, .int mr, .int mf, .int md, .int sp, .int mw, .int it, .int mx, .int fa, .int ro, .int pp, .int fm])), (m12, .inl (cI, 25, .inl ba)), (m15, .inl (cI, 61, .inl st_37))] := hD
                  obtain ⟨hr_35_0, hr_35_1, hr_35_2⟩ := hr_35
                  have hr_35_0 : r_35 = if (tp - 2) = 60 then 8 else 0 := hr_35_0
                  have hr_35_1 : st_37 = if (tp - 2) = 60 then st else upd st (tp - 2).toNatClampNeg (sx x_32) := hr_35_1
                  have hr_35_2 : tp_38 = if (tp - 2) = 60 then (tp - 2) else (tp - 2) + 1 := hr_35_2
                  exact e_wi hx hb hr hlocks dX9_reckon_137 hK hS (st_37, tp_38) hP hD (q_X9_reckon_39 ho1 ho2 hb1 hb2 ht2 hr_3 c_4 ex_6 ex_8 c_9 c_10 c_11 c_12 c_13 c_14 c_15 ex_32 hr_35_0 hr_35_1 hr_35_2)
              · skip
                refine lv_iload_n hx hb dX9_reckon_101 rfl (lv_at hl 0 rfl) ?_
                refine lv_iload_n hx hb dX9_reckon_102 rfl (lv_at hl 1 rfl) ?_
                refine lv_idiv hx hb dX9_reckon_103 (q_X9_reckon_40 ho1 ho2 hb1 hb2 ht2 hr_3 c_4 ex_6 ex_8 c_9 c_10 c_11 c_12 c_13 c_14) ?_
                refine lv_goto (tgt := 129) hx hb dX9_reckon_104 (by decide) ?_
                refine lv_topi (fun x_41 ex_41 => ?_)
                refine lv_istore (lv' := [(4, .int x_41), (3, .int x_8), (2, .int x_6), (0, .ref aX), (1, .int k)]) hx hb dX9_reckon_129 hl (by decide) rfl (fun ls hl => ?_)
                refine lv_aload_n hx hb dX9_reckon_131 rfl (lv_at hl 3 rfl) ?_
                refine lv_iload hx hb dX9_reckon_132 (lv_at hl 0 rfl) ?_
                refine k_wi (w2 := (fun u_45 : (Nat → Int32) × (Int32) => [(aX, .inr (6, [.int cn, .ref m0, .ref m1, .ref m2, .ref m3, .ref m4, .ref m5, .ref m6, .ref m7, .ref m8, .int mi, .int me, .ref m9, .int gn, .ref m10, .ref m11, .ref m12, .ref m13, .ref m14, .int op, .ref m15, .int u_45.2, .int mb, .int mv, .int mr, .int mf, .int md, .int sp, .int mw, .int it, .int mx, .int fa, .int ro, .int pp, .int fm])), (m12, .inl (cI, 25, .inl ba)), (m15, .inl (cI, 61, .inl u_45.1))])) (wr := [(m12, .inl (cI, 25, .inl ba))]) (ci := 6) (q0 := 0) (q := (RX9, TX9, 35)) (As := [.int x_41]) (rest := []) ⟨hx, hb, hml, hown, hts⟩ (c_X9_push l dC dI cI _ aX m0 m1 m2 m3 m4 m5 m6 m7 m8 m9 m10 m11 m12 m13 m14 m15 st cn op mx (tp - 2) fa ro pp fm sp it gn mi me mb mv mr mf md mw x_41 (q_X9_reckon_42 ho1 ho2 hb1 hb2 ht2 hr_3 c_4 ex_6 ex_8 c_9 c_10 c_11 c_12 c_13 c_14 ex_41) (q_X9_reckon_43 ho1 ho2 hb1 hb2 ht2 hr_3 c_4 ex_6 ex_8 c_9 c_10 c_11 c_12 c_13 c_14 ex_41)) (cwV 1 hts gX9_reckon_X9_push rfl rfl rfl (by decide +kernel) ⟨Nat.le_of_ble_eq_true rfl, Nat.le_of_ble_eq_true rfl⟩) hK hP hD hS hA [0, 2] [1] [1, 0, 2] rfl rfl (by decide) (fun _ => rfl) rfl rfl rfl hl.1 rfl (Nat.le_of_ble_eq_true rfl) dX9_reckon_134 ⟨Nat.zero_le _, Nat.zero_le _⟩ (fun r_44 u_45 H locs hr_44 hP hD hS => ?_)
                obtain ⟨st_46, tp_47⟩ := u_45
                have hP : va_P (dC, dI) vwCl [(aX, .inr (6, [.int cn, .ref m0, .ref m1, .ref m2, .ref m3, .ref m4, .ref m5, .ref m6, .ref m7, .ref m8, .int mi, .int me, .ref m9, .int gn, .ref m10, .ref m11, .ref m12, .ref m13, .ref m14, .int op, .ref m15, .int tp_47, .int mb, .int mv, .int mr, .int mf, .int md, .int sp, .int mw, .int it, .int mx, .int fa, .int ro, .int pp, .int fm])), (m12, .inl (cI, 25, .inl ba)), (m15, .inl (cI, 61, .inl st_46))] H := hP
                have hD : va_D A [(aX, .inr (6, [.int cn, .ref m0, .ref m1, .ref m2, .ref m3, .ref m4, .ref m5, .ref m6, .ref m7, .ref m8, .int mi, .int me, .ref m9, .int gn, .ref m10, .ref m11, .ref m12, .ref m13, .ref m14, .int op, .ref m15, .int tp_47, .int mb, .int mv, .int mr, .int mf, .int md, .int sp, .int mw, .int it, .int mx, .int fa, .int ro, .int pp, .int fm])), (m12, .inl (cI, 25, .inl ba)), (m15, .inl (cI, 61, .inl st_46))] := hD
                obtain ⟨hr_44_0, hr_44_1, hr_44_2⟩ := hr_44
                have hr_44_0 : r_44 = if (tp - 2) = 60 then 8 else 0 := hr_44_0
                have hr_44_1 : st_46 = if (tp - 2) = 60 then st else upd st (tp - 2).toNatClampNeg (sx x_41) := hr_44_1
                have hr_44_2 : tp_47 = if (tp - 2) = 60 then (tp - 2) else (tp - 2) + 1 := hr_44_2
                exact e_wi hx hb hr hlocks dX9_reckon_137 hK hS (st_46, tp_47) hP hD (q_X9_reckon_48 ho1 ho2 hb1 hb2 ht2 hr_3 c_4 ex_6 ex_8 c_9 c_10 c_11 c_12 c_13 c_14 ex_41 hr_44_0 hr_44_1 hr_44_2)
            · skip
              refine lv_iload_n hx hb dX9_reckon_89 rfl (lv_at hl 0 rfl) ?_
              refine lv_iload_n hx hb dX9_reckon_90 rfl (lv_at hl 1 rfl) ?_
              refine lv_imul hx hb dX9_reckon_91 ?_
              refine lv_goto (tgt := 129) hx hb dX9_reckon_92 (by decide) ?_
              refine lv_topi (fun x_49 ex_49 => ?_)
              refine lv_istore (lv' := [(4, .int x_49), (3, .int x_8), (2, .int x_6), (0, .ref aX), (1, .int k)]) hx hb dX9_reckon_129 hl (by decide) rfl (fun ls hl => ?_)
              refine lv_aload_n hx hb dX9_reckon_131 rfl (lv_at hl 3 rfl) ?_
              refine lv_iload hx hb dX9_reckon_132 (lv_at hl 0 rfl) ?_
              refine k_wi (w2 := (fun u_53 : (Nat → Int32) × (Int32) => [(aX, .inr (6, [.int cn, .ref m0, .ref m1, .ref m2, .ref m3, .ref m4, .ref m5, .ref m6, .ref m7, .ref m8, .int mi, .int me, .ref m9, .int gn, .ref m10, .ref m11, .ref m12, .ref m13, .ref m14, .int op, .ref m15, .int u_53.2, .int mb, .int mv, .int mr, .int mf, .int md, .int sp, .int mw, .int it, .int mx, .int fa, .int ro, .int pp, .int fm])), (m12, .inl (cI, 25, .inl ba)), (m15, .inl (cI, 61, .inl u_53.1))])) (wr := [(m12, .inl (cI, 25, .inl ba))]) (ci := 6) (q0 := 0) (q := (RX9, TX9, 35)) (As := [.int x_49]) (rest := []) ⟨hx, hb, hml, hown, hts⟩ (c_X9_push l dC dI cI _ aX m0 m1 m2 m3 m4 m5 m6 m7 m8 m9 m10 m11 m12 m13 m14 m15 st cn op mx (tp - 2) fa ro pp fm sp it gn mi me mb mv mr mf md mw x_49 (q_X9_reckon_50 ho1 ho2 hb1 hb2 ht2 hr_3 c_4 ex_6 ex_8 c_9 c_10 c_11 c_12 c_13 ex_49) (q_X9_reckon_51 ho1 ho2 hb1 hb2 ht2 hr_3 c_4 ex_6 ex_8 c_9 c_10 c_11 c_12 c_13 ex_49)) (cwV 1 hts gX9_reckon_X9_push rfl rfl rfl (by decide +kernel) ⟨Nat.le_of_ble_eq_true rfl, Nat.le_of_ble_eq_true rfl⟩) hK hP hD hS hA [0, 2] [1] [1, 0, 2] rfl rfl (by decide) (fun _ => rfl) rfl rfl rfl hl.1 rfl (Nat.le_of_ble_eq_true rfl) dX9_reckon_134 ⟨Nat.zero_le _, Nat.zero_le _⟩ (fun r_52 u_53 H locs hr_52 hP hD hS => ?_)
              obtain ⟨st_54, tp_55⟩ := u_53
              have hP : va_P (dC, dI) vwCl [(aX, .inr (6, [.int cn, .ref m0, .ref m1, .ref m2, .ref m3, .ref m4, .ref m5, .ref m6, .ref m7, .ref m8, .int mi, .int me, .ref m9, .int gn, .ref m10, .ref m11, .ref m12, .ref m13, .ref m14, .int op, .ref m15, .int tp_55, .int mb, .int mv, .int mr, .int mf, .int md, .int sp, .int mw, .int it, .int mx, .int fa, .int ro, .int pp, .int fm])), (m12, .inl (cI, 25, .inl ba)), (m15, .inl (cI, 61, .inl st_54))] H := hP
              have hD : va_D A [(aX, .inr (6, [.int cn, .ref m0, .ref m1, .ref m2, .ref m3, .ref m4, .ref m5, .ref m6, .ref m7, .ref m8, .int mi, .int me, .ref m9, .int gn, .ref m10, .ref m11, .ref m12, .ref m13, .ref m14, .int op, .ref m15, .int tp_55, .int mb, .int mv, .int mr, .int mf, .int md, .int sp, .int mw, .int it, .int mx, .int fa, .int ro, .int pp, .int fm])), (m12, .inl (cI, 25, .inl ba)), (m15, .inl (cI, 61, .inl st_54))] := hD
              obtain ⟨hr_52_0, hr_52_1, hr_52_2⟩ := hr_52
              have hr_52_0 : r_52 = if (tp - 2) = 60 then 8 else 0 := hr_52_0
              have hr_52_1 : st_54 = if (tp - 2) = 60 then st else upd st (tp - 2).toNatClampNeg (sx x_49) := hr_52_1
              have hr_52_2 : tp_55 = if (tp - 2) = 60 then (tp - 2) else (tp - 2) + 1 := hr_52_2
              exact e_wi hx hb hr hlocks dX9_reckon_137 hK hS (st_54, tp_55) hP hD (q_X9_reckon_56 ho1 ho2 hb1 hb2 ht2 hr_3 c_4 ex_6 ex_8 c_9 c_10 c_11 c_12 c_13 ex_49 hr_52_0 hr_52_1 hr_52_2)
          · skip
            refine lv_iload_n hx hb dX9_reckon_78 rfl (lv_at hl 0 rfl) ?_
            refine lv_iload_n hx hb dX9_reckon_79 rfl (lv_at hl 1 rfl) ?_
            refine lv_isub hx hb dX9_reckon_80 ?_
            refine lv_goto (tgt := 129) hx hb dX9_reckon_81 (by decide) ?_
            refine lv_topi (fun x_57 ex_57 => ?_)
            refine lv_istore (lv' := [(4, .int x_57), (3, .int x_8), (2, .int x_6), (0, .ref aX), (1, .int k)]) hx hb dX9_reckon_129 hl (by decide) rfl (fun ls hl => ?_)
            refine lv_aload_n hx hb dX9_reckon_131 rfl (lv_at hl 3 rfl) ?_
            refine lv_iload hx hb dX9_reckon_132 (lv_at hl 0 rfl) ?_
            refine k_wi (w2 := (fun u_61 : (Nat → Int32) × (Int32) => [(aX, .inr (6, [.int cn, .ref m0, .ref m1, .ref m2, .ref m3, .ref m4, .ref m5, .ref m6, .ref m7, .ref m8, .int mi, .int me, .ref m9, .int gn, .ref m10, .ref m11, .ref m12, .ref m13, .ref m14, .int op, .ref m15, .int u_61.2, .int mb, .int mv, .int mr, .int mf, .int md, .int sp, .int mw, .int it, .int mx, .int fa, .int ro, .int pp, .int fm])), (m12, .inl (cI, 25, .inl ba)), (m15, .inl (cI, 61, .inl u_61.1))])) (wr := [(m12, .inl (cI, 25, .inl ba))]) (ci := 6) (q0 := 0) (q := (RX9, TX9, 35)) (As := [.int x_57]) (rest := []) ⟨hx, hb, hml, hown, hts⟩ (c_X9_push l dC dI cI _ aX m0 m1 m2 m3 m4 m5 m6 m7 m8 m9 m10 m11 m12 m13 m14 m15 st cn op mx (tp - 2) fa ro pp fm sp it gn mi me mb mv mr mf md mw x_57 (q_X9_reckon_58 ho1 ho2 hb1 hb2 ht2 hr_3 c_4 ex_6 ex_8 c_9 c_10 c_11 c_12 ex_57) (q_X9_reckon_59 ho1 ho2 hb1 hb2 ht2 hr_3 c_4 ex_6 ex_8 c_9 c_10 c_11 c_12 ex_57)) (cwV 1 hts gX9_reckon_X9_push rfl rfl rfl (by decide +kernel) ⟨Nat.le_of_ble_eq_true rfl, Nat.le_of_ble_eq_true rfl⟩) hK hP hD hS hA [0, 2] [1] [1, 0, 2] rfl rfl (by decide) (fun _ => rfl) rfl rfl rfl hl.1 rfl (Nat.le_of_ble_eq_true rfl) dX9_reckon_134 ⟨Nat.zero_le _, Nat.zero_le _⟩ (fun r_60 u_61 H locs hr_60 hP hD hS => ?_)
            obtain ⟨st_62, tp_63⟩ := u_61
            have hP : va_P (dC, dI) vwCl [(aX, .inr (6, [.int cn, .ref m0, .ref m1, .ref m2, .ref m3, .ref m4, .ref m5, .ref m6, .ref m7, .ref m8, .int mi, .int me, .ref m9, .int gn, .ref m10, .ref m11, .ref m12, .ref m13, .ref m14, .int op, .ref m15, .int tp_63, .int mb, .int mv, .int mr, .int mf, .int md, .int sp, .int mw, .int it, .int mx, .int fa, .int ro, .int pp, .int fm])), (m12, .inl (cI, 25, .inl ba)), (m15, .inl (cI, 61, .inl st_62))] H := hP
            have hD : va_D A [(aX, .inr (6, [.int cn, .ref m0, .ref m1, .ref m2, .ref m3, .ref m4, .ref m5, .ref m6, .ref m7, .ref m8, .int mi, .int me, .ref m9, .int gn, .ref m10, .ref m11, .ref m12, .ref m13, .ref m14, .int op, .ref m15, .int tp_63, .int mb, .int mv, .int mr, .int mf, .int md, .int sp, .int mw, .int it, .int mx, .int fa, .int ro, .int pp, .int fm])), (m12, .inl (cI, 25, .inl ba)), (m15, .inl (cI, 61, .inl st_62))] := hD
            obtain ⟨hr_60_0, hr_60_1, hr_60_2⟩ := hr_60
            have hr_60_0 : r_60 = if (tp - 2) = 60 then 8 else 0 := hr_60_0
            have hr_60_1 : st_62 = if (tp - 2) = 60 then st else upd st (tp - 2).toNatClampNeg (sx x_57) := hr_60_1
            have hr_60_2 : tp_63 = if (tp - 2) = 60 then (tp - 2) else (tp - 2) + 1 := hr_60_2
            exact e_wi hx hb hr hlocks dX9_reckon_137 hK hS (st_62, tp_63) hP hD (q_X9_reckon_64 ho1 ho2 hb1 hb2 ht2 hr_3 c_4 ex_6 ex_8 c_9 c_10 c_11 c_12 ex_57 hr_60_0 hr_60_1 hr_60_2)
        · skip
          refine lv_iload_n hx hb dX9_reckon_67 rfl (lv_at hl 0 rfl) ?_
          refine lv_iload_n hx hb dX9_reckon_68 rfl (lv_at hl 1 rfl) ?_
          refine lv_iadd hx hb dX9_reckon_69 ?_
          refine lv_goto (tgt := 129) hx hb dX9_reckon_70 (by decide) ?_
          refine lv_topi (fun x_65 ex_65 => ?_)
          refine lv_istore (lv' := [(4, .int x_65), (3, .int x_8), (2, .int x_6), (0, .ref aX), (1, .int k)]) hx hb dX9_reckon_129 hl (by decide) rfl (fun ls hl => ?_)
          refine lv_aload_n hx hb dX9_reckon_131 rfl (lv_at hl 3 rfl) ?_
          refine lv_iload hx hb dX9_reckon_132 (lv_at hl 0 rfl) ?_
          refine k_wi (w2 := (fun u_69 : (Nat → Int32) × (Int32) => [(aX, .inr (6, [.int cn, .ref m0, .ref m1, .ref m2, .ref m3, .ref m4, .ref m5, .ref m6, .ref m7, .ref m8, .int mi, .int me, .ref m9, .int gn, .ref m10, .ref m11, .ref m12, .ref m13, .ref m14, .int op, .ref m15, .int u_69.2, .int mb, .int mv, .int mr, .int mf, .int md, .int sp, .int mw, .int it, .int mx, .int fa, .int ro, .int pp, .int fm])), (m12, .inl (cI, 25, .inl ba)), (m15, .inl (cI, 61, .inl u_69.1))])) (wr := [(m12, .inl (cI, 25, .inl ba))]) (ci := 6) (q0 := 0) (q := (RX9, TX9, 35)) (As := [.int x_65]) (rest := []) ⟨hx, hb, hml, hown, hts⟩ (c_X9_push l dC dI cI _ aX m0 m1 m2 m3 m4 m5 m6 m7 m8 m9 m10 m11 m12 m13 m14 m15 st cn op mx (tp - 2) fa ro pp fm sp it gn mi me mb mv mr mf md mw x_65 (q_X9_reckon_66 ho1 ho2 hb1 hb2 ht2 hr_3 c_4 ex_6 ex_8 c_9 c_10 c_11 ex_65) (q_X9_reckon_67 ho1 ho2 hb1 hb2 ht2 hr_3 c_4 ex_6 ex_8 c_9 c_10 c_11 ex_65)) (cwV 1 hts gX9_reckon_X9_push rfl rfl rfl (by decide +kernel) ⟨Nat.le_of_ble_eq_true rfl, Nat.le_of_ble_eq_true rfl⟩) hK hP hD hS hA [0, 2] [1] [1, 0, 2] rfl rfl (by decide) (fun _ => rfl) rfl rfl rfl hl.1 rfl (Nat.le_of_ble_eq_true rfl) dX9_reckon_134 ⟨Nat.zero_le _, Nat.zero_le _⟩ (fun r_68 u_69 H locs hr_68 hP hD hS => ?_)
          obtain ⟨st_70, tp_71⟩ := u_69
          have hP : va_P (dC, dI) vwCl [(aX, .inr (6, [.int cn, .ref m0, .ref m1, .ref m2, .ref m3, .ref m4, .ref m5, .ref m6, .ref m7, .ref m8, .int mi, .int me, .ref m9, .int gn, .ref m10, .ref m11, .ref m12, .ref m13, .ref m14, .int op, .ref m15, .int tp_71, .int mb, .int mv, .int mr, .int mf, .int md, .int sp, .int mw, .int it, .int mx, .int fa, .int ro, .int pp, .int fm])), (m12, .inl (cI, 25, .inl ba)), (m15, .inl (cI, 61, .inl st_70))] H := hP
          have hD : va_D A [(aX, .inr (6, [.int cn, .ref m0, .ref m1, .ref m2, .ref m3, .ref m4, .ref m5, .ref m6, .ref m7, .ref m8, .int mi, .int me, .ref m9, .int gn, .ref m10, .ref m11, .ref m12, .ref m13, .ref m14, .int op, .ref m15, .int tp_71, .int mb, .int mv, .int mr, .int mf, .int md, .int sp, .int mw, .int it, .int mx, .int fa, .int ro, .int pp, .int fm])), (m12, .inl (cI, 25, .inl ba)), (m15, .inl (cI, 61, .inl st_70))] := hD
          obtain ⟨hr_68_0, hr_68_1, hr_68_2⟩ := hr_68
          have hr_68_0 : r_68 = if (tp - 2) = 60 then 8 else 0 := hr_68_0
          have hr_68_1 : st_70 = if (tp - 2) = 60 then st else upd st (tp - 2).toNatClampNeg (sx x_65) := hr_68_1
          have hr_68_2 : tp_71 = if (tp - 2) = 60 then (tp - 2) else (tp - 2) + 1 := hr_68_2
          exact e_wi hx hb hr hlocks dX9_reckon_137 hK hS (st_70, tp_71) hP hD (q_X9_reckon_72 ho1 ho2 hb1 hb2 ht2 hr_3 c_4 ex_6 ex_8 c_9 c_10 c_11 ex_65 hr_68_0 hr_68_1 hr_68_2)
      · skip
        refine lv_iconst (v := 3) hx hb dX9_reckon_50 (by decide) ?_
        exact e_wi hx hb hr hlocks dX9_reckon_51 hK hS (st, tp) hP hD (q_X9_reckon_73 ho1 ho2 hb1 hb2 ht2 hr_3 c_4 ex_6 ex_8 c_9 c_10)
    · skip
      refine lv_iload_n hx hb dX9_reckon_40 rfl (lv_at hl 3 rfl) ?_
      refine lv_bipush (v := 7) hx hb dX9_reckon_41 (by decide) ?_
      refine lv_icmp_ne (tgt := 52) hx hb dX9_reckon_43 (by decide) (fun c_74 => ?_) (fun c_74 => ?_)
      · skip
        refine lv_aload_n hx hb dX9_reckon_52 rfl (lv_at hl 2 rfl) ?_
        refine lv_dup hx hb dX9_reckon_53 rfl ?_
        refine va_get (D := (dC, dI)) (ci := 6) (v := .int tp) (C := RX9) (T := TX9) (N := 35) hx hb hts i_X9 hown hK hP 0 rfl rfl 21 (by decide) k_2 (fun _ h9 => h9) rfl dX9_reckon_54 ?_
        refine lv_iconst (v := 2) hx hb dX9_reckon_57 (by decide) ?_
        refine lv_isub hx hb dX9_reckon_58 ?_
        refine va_put (D := (dC, dI)) (ci := 6) (v := .int (tp - 2)) (ty := .int) (C := RX9) (T := TX9) (N := 35) hx hb hts i_X9 tyX9 tyX9_ok nmX9 hown hK hP hD hS 0 rfl rfl 21 (by decide) k_2 (fun _ h9 => h9) rfl (by decide +kernel) rfl rfl (Nat.le_of_ble_eq_true rfl) dX9_reckon_59 (fun H locs hP hD hS => ?_)
        have hP : va_P (dC, dI) vwCl [(aX, .inr (6, [.int cn, .ref m0, .ref m1, .ref m2, .ref m3, .ref m4, .ref m5, .ref m6, .ref m7, .ref m8, .int mi, .int me, .ref m9, .int gn, .ref m10, .ref m11, .ref m12, .ref m13, .ref m14, .int op, .ref m15, .int (tp - 2), .int mb, .int mv, .int mr, .int mf, .int md, .int sp, .int mw, .int it, .int mx, .int fa, .int ro, .int pp, .int fm])), (m12, .inl (cI, 25, .inl ba)), (m15, .inl (cI, 61, .inl st))] H := hP
        have hD : va_D A [(aX, .inr (6, [.int cn, .ref m0, .ref m1, .ref m2, .ref m3, .ref m4, .ref m5, .ref m6, .ref m7, .ref m8, .int mi, .int me, .ref m9, .int gn, .ref m10, .ref m11, .ref m12, .ref m13, .ref m14, .int op, .ref m15, .int (tp - 2), .int mb, .int mv, .int mr, .int mf, .int md, .int sp, .int mw, .int it, .int mx, .int fa, .int ro, .int pp, .int fm])), (m12, .inl (cI, 25, .inl ba)), (m15, .inl (cI, 61, .inl st))] := hD
        refine lv_iload_n hx hb dX9_reckon_62 rfl (lv_at hl 3 rfl) ?_
        refine lv_iconst (v := 3) hx hb dX9_reckon_63 (by decide) ?_
        refine lv_icmp_ne (tgt := 73) hx hb dX9_reckon_64 (by decide) (fun c_75 => ?_) (fun c_75 => ?_)
        · skip
          refine lv_iload_n hx hb dX9_reckon_73 rfl (lv_at hl 3 rfl) ?_
          refine lv_iconst (v := 4) hx hb dX9_reckon_74 (by decide) ?_
          refine lv_icmp_ne (tgt := 84) hx hb dX9_reckon_75 (by decide) (fun c_76 => ?_) (fun c_76 => ?_)
          · skip
            refine lv_iload_n hx hb dX9_reckon_84 rfl (lv_at hl 3 rfl) ?_
            refine lv_iconst (v := 5) hx hb dX9_reckon_85 (by decide) ?_
            refine lv_icmp_ne (tgt := 95) hx hb dX9_reckon_86 (by decide) (fun c_77 => ?_) (fun c_77 => ?_)
            · skip
              refine lv_iload_n hx hb dX9_reckon_95 rfl (lv_at hl 3 rfl) ?_
              refine lv_bipush (v := 6) hx hb dX9_reckon_96 (by decide) ?_
              refine lv_icmp_ne (tgt := 107) hx hb dX9_reckon_98 (by decide) (fun c_78 => ?_) (fun c_78 => ?_)
              · skip
                refine lv_iload_n hx hb dX9_reckon_107 rfl (lv_at hl 3 rfl) ?_
                refine lv_bipush (v := 7) hx hb dX9_reckon_108 (by decide) ?_
                refine lv_icmp_ne (tgt := 119) hx hb dX9_reckon_110 (by decide) (fun c_79 => ?_) (fun c_79 => ?_)
                · skip
                  refine lv_iload_n hx hb dX9_reckon_119 rfl (lv_at hl 0 rfl) ?_
                  refine lv_iload_n hx hb dX9_reckon_120 rfl (lv_at hl 1 rfl) ?_
                  refine lv_icmp_ge (tgt := 128) hx hb dX9_reckon_121 (by decide) (fun c_80 => ?_) (fun c_80 => ?_)
                  · skip
                    refine lv_iconst (v := 0) hx hb dX9_reckon_128 (by decide) ?_
                    refine lv_istore (lv' := [(4, .int 0), (3, .int x_8), (2, .int x_6), (0, .ref aX), (1, .int k)]) hx hb dX9_reckon_129 hl (by decide) rfl (fun ls hl => ?_)
                    refine lv_aload_n hx hb dX9_reckon_131 rfl (lv_at hl 3 rfl) ?_
                    refine lv_iload hx hb dX9_reckon_132 (lv_at hl 0 rfl) ?_
                    refine k_wi (w2 := (fun u_84 : (Nat → Int32) × (Int32) => [(aX, .inr (6, [.int cn, .ref m0, .ref m1, .ref m2, .ref m3, .ref m4, .ref m5, .ref m6, .ref m7, .ref m8, .int mi, .int me, .ref m9, .int gn, .ref m10, .ref m11, .ref m12, .ref m13, .ref m14, .int op, .ref m15, .int u_84.2, .int mb, .int mv, .int mr, .int mf, .int md, .int sp, .int mw, .int it, .int mx, .int fa, .int ro, .int pp, .int fm])), (m12, .inl (cI, 25, .inl ba)), (m15, .inl (cI, 61, .inl u_84.1))])) (wr := [(m12, .inl (cI, 25, .inl ba))]) (ci := 6) (q0 := 0) (q := (RX9, TX9, 35)) (As := [.int 0]) (rest := []) ⟨hx, hb, hml, hown, hts⟩ (c_X9_push l dC dI cI _ aX m0 m1 m2 m3 m4 m5 m6 m7 m8 m9 m10 m11 m12 m13 m14 m15 st cn op mx (tp - 2) fa ro pp fm sp it gn mi me mb mv mr mf md mw 0 (q_X9_reckon_81 ho1 ho2 hb1 hb2 ht2 hr_3 c_4 ex_6 ex_8 c_9 c_74 c_75 c_76 c_77 c_78 c_79 c_80) (q_X9_reckon_82 ho1 ho2 hb1 hb2 ht2 hr_3 c_4 ex_6 ex_8 c_9 c_74 c_75 c_76 c_77 c_78 c_79 c_80)) (cwV 1 hts gX9_reckon_X9_push rfl rfl rfl (by decide +kernel) ⟨Nat.le_of_ble_eq_true rfl, Nat.le_of_ble_eq_true rfl⟩) hK hP hD hS hA [0, 2] [1] [1, 0, 2] rfl rfl (by decide) (fun _ => rfl) rfl rfl rfl hl.1 rfl (Nat.le_of_ble_eq_true rfl) dX9_reckon_134 ⟨Nat.zero_le _, Nat.zero_le _⟩ (fun r_83 u_84 H locs hr_83 hP hD hS => ?_)
                    obtain ⟨st_85, tp_86⟩ := u_84
                    have hP : va_P (dC, dI) vwCl [(aX, .inr (6, [.int cn, .ref m0, .ref m1, .ref m2, .ref m3, .ref m4, .ref m5, .ref m6, .ref m7, .ref m8, .int mi, .int me, .ref m9, .int gn, .ref m10, .ref m11, .ref m12, .ref m13, .ref m14, .int op, .ref m15, .int tp_86, .int mb, .int mv, .int mr, .int mf, .int md, .int sp, .int mw, .int it, .int mx, .int fa, .int ro, .int pp, .int fm])), (m12, .inl (cI, 25, .inl ba)), (m15, .inl (cI, 61, .inl st_85))] H := hP
                    have hD : va_D A [(aX, .inr (6, [.int cn, .ref m0, .ref m1, .ref m2, .ref m3, .ref m4, .ref m5, .ref m6, .ref m7, .ref m8, .int mi, .int me, .ref m9, .int gn, .ref m10, .ref m11, .ref m12, .ref m13, .ref m14, .int op, .ref m15, .int tp_86, .int mb, .int mv, .int mr, .int mf, .int md, .int sp, .int mw, .int it, .int mx, .int fa, .int ro, .int pp, .int fm])), (m12, .inl (cI, 25, .inl ba)), (m15, .inl (cI, 61, .inl st_85))] := hD
                    obtain ⟨hr_83_0, hr_83_1, hr_83_2⟩ := hr_83
                    have hr_83_0 : r_83 = if (tp - 2) = 60 then 8 else 0 := hr_83_0
                    have hr_83_1 : st_85 = if (tp - 2) = 60 then st else upd st (tp - 2).toNatClampNeg (sx (0 : Int32)) := hr_83_1
                    have hr_83_2 : tp_86 = if (tp - 2) = 60 then (tp - 2) else (tp - 2) + 1 := hr_83_2
                    exact e_wi hx hb hr hlocks dX9_reckon_137 hK hS (st_85, tp_86) hP hD (q_X9_reckon_87 ho1 ho2 hb1 hb2 ht2 hr_3 c_4 ex_6 ex_8 c_9 c_74 c_75 c_76 c_77 c_78 c_79 c_80 hr_83_0 hr_83_1 hr_83_2)
                  · skip
                    refine lv_iconst (v := 1) hx hb dX9_reckon_124 (by decide) ?_
                    refine lv_goto (tgt := 129) hx hb dX9_reckon_125 (by decide) ?_
                    refine lv_istore (lv' := [(4, .int 1), (3, .int x_8), (2, .int x_6), (0, .ref aX), (1, .int k)]) hx hb dX9_reckon_129 hl (by decide) rfl (fun ls hl => ?_)
                    refine lv_aload_n hx hb dX9_reckon_131 rfl (lv_at hl 3 rfl) ?_
                    refine lv_iload hx hb dX9_reckon_132 (lv_at hl 0 rfl) ?_
                    refine k_wi (w2 := (fun u_91 : (Nat → Int32) × (Int32) => [(aX, .inr (6, [.int cn, .ref m0, .ref m1, .ref m2, .ref m3, .ref m4, .ref m5, .ref m6, .ref m7, .ref m8, .int mi, .int me, .ref m9, .int gn, .ref m10, .ref m11, .ref m12, .ref m13, .ref m14, .int op, .ref m15, .int u_91.2, .int mb, .int mv, .int mr, .int mf, .int md, .int sp, .int mw, .int it, .int mx, .int fa, .int ro, .int pp, .int fm])), (m12, .inl (cI, 25, .inl ba)), (m15, .inl (cI, 61, .inl u_91.1))])) (wr := [(m12, .inl (cI, 25, .inl ba))]) (ci := 6) (q0 := 0) (q := (RX9, TX9, 35)) (As := [.int 1]) (rest := []) ⟨hx, hb, hml, hown, hts⟩ (c_X9_push l dC dI cI _ aX m0 m1 m2 m3 m4 m5 m6 m7 m8 m9 m10 m11 m12 m13 m14 m15 st cn op mx (tp - 2) fa ro pp fm sp it gn mi me mb mv mr mf md mw 1 (q_X9_reckon_88 ho1 ho2 hb1 hb2 ht2 hr_3 c_4 ex_6 ex_8 c_9 c_74 c_75 c_76 c_77 c_78 c_79 c_80) (q_X9_reckon_89 ho1 ho2 hb1 hb2 ht2 hr_3 c_4 ex_6 ex_8 c_9 c_74 c_75 c_76 c_77 c_78 c_79 c_80)) (cwV 1 hts gX9_reckon_X9_push rfl rfl rfl (by decide +kernel) ⟨Nat.le_of_ble_eq_true rfl, Nat.le_of_ble_eq_true rfl⟩) hK hP hD hS hA [0, 2] [1] [1, 0, 2] rfl rfl (by decide) (fun _ => rfl) rfl rfl rfl hl.1 rfl (Nat.le_of_ble_eq_true rfl) dX9_reckon_134 ⟨Nat.zero_le _, Nat.zero_le _⟩ (fun r_90 u_91 H locs hr_90 hP hD hS => ?_)
                    obtain ⟨st_92, tp_93⟩ := u_91
                    have hP : va_P (dC, dI) vwCl [(aX, .inr (6, [.int cn, .ref m0, .ref m1, .ref m2, .ref m3, .ref m4, .ref m5, .ref m6, .ref m7, .ref m8, .int mi, .int me, .ref m9, .int gn, .ref m10, .ref m11, .ref m12, .ref m13, .ref m14, .int op, .ref m15, .int tp_93, .int mb, .int mv, .int mr, .int mf, .int md, .int sp, .int mw, .int it, .int mx, .int fa, .int ro, .int pp, .int fm])), (m12, .inl (cI, 25, .inl ba)), (m15, .inl (cI, 61, .inl st_92))] H := hP
                    have hD : va_D A [(aX, .inr (6, [.int cn, .ref m0, .ref m1, .ref m2, .ref m3, .ref m4, .ref m5, .ref m6, .ref m7, .ref m8, .int mi, .int me, .ref m9, .int gn, .ref m10, .ref m11, .ref m12, .ref m13, .ref m14, .int op, .ref m15, .int tp_93, .int mb, .int mv, .int mr, .int mf, .int md, .int sp, .int mw, .int it, .int mx, .int fa, .int ro, .int pp, .int fm])), (m12, .inl (cI, 25, .inl ba)), (m15, .inl (cI, 61, .inl st_92))] := hD
                    obtain ⟨hr_90_0, hr_90_1, hr_90_2⟩ := hr_90
                    have hr_90_0 : r_90 = if (tp - 2) = 60 then 8 else 0 := hr_90_0
                    have hr_90_1 : st_92 = if (tp - 2) = 60 then st else upd st (tp - 2).toNatClampNeg (sx (1 : Int32)) := hr_90_1
                    have hr_90_2 : tp_93 = if (tp - 2) = 60 then (tp - 2) else (tp - 2) + 1 := hr_90_2
                    exact e_wi hx hb hr hlocks dX9_reckon_137 hK hS (st_92, tp_93) hP hD (q_X9_reckon_94 ho1 ho2 hb1 hb2 ht2 hr_3 c_4 ex_6 ex_8 c_9 c_74 c_75 c_76 c_77 c_78 c_79 c_80 hr_90_0 hr_90_1 hr_90_2)
                · skip
                  refine lv_iload_n hx hb dX9_reckon_113 rfl (lv_at hl 0 rfl) ?_
                  refine lv_iload_n hx hb dX9_reckon_114 rfl (lv_at hl 1 rfl) ?_
                  refine lv_irem hx hb dX9_reckon_115 (q_X9_reckon_95 ho1 ho2 hb1 hb2 ht2 hr_3 c_4 ex_6 ex_8 c_9 c_74 c_75 c_76 c_77 c_78 c_79) ?_
                  refine lv_goto (tgt := 129) hx hb dX9_reckon_116 (by decide) ?_
                  refine lv_topi (fun x_96 ex_96 => ?_)
                  refine lv_istore (lv' := [(4, .int x_96), (3, .int x_8), (2, .int x_6), (0, .ref aX), (1, .int k)]) hx hb dX9_reckon_129 hl (by decide) rfl (fun ls hl => ?_)
                  refine lv_aload_n hx hb dX9_reckon_131 rfl (lv_at hl 3 rfl) ?_
                  refine lv_iload hx hb dX9_reckon_132 (lv_at hl 0 rfl) ?_
                  refine k_wi (w2 := (fun u_100 : (Nat → Int32) × (Int32) => [(aX, .inr (6, [.int cn, .ref m0, .ref m1, .ref m2, .ref m3, .ref m4, .ref m5, .ref m6, .ref m7, .ref m8, .int mi, .int me, .ref m9, .int gn, .ref m10, .ref m11, .ref m12, .ref m13, .ref m14, .int op, .ref m15, .int u_100.2, .int mb, .int mv, .int mr, .int mf, .int md, .int sp, .int mw, .int it, .int mx, .int fa, .int ro, .int pp, .int fm])), (m12, .inl (cI, 25, .inl ba)), (m15, .inl (cI, 61, .inl u_100.1))])) (wr := [(m12, .inl (cI, 25, .inl ba))]) (ci := 6) (q0 := 0) (q := (RX9, TX9, 35)) (As := [.int x_96]) (rest := []) ⟨hx, hb, hml, hown, hts⟩ (c_X9_push l dC dI cI _ aX m0 m1 m2 m3 m4 m5 m6 m7 m8 m9 m10 m11 m12 m13 m14 m15 st cn op mx (tp - 2) fa ro pp fm sp it gn mi me mb mv mr mf md mw x_96 (q_X9_reckon_97 ho1 ho2 hb1 hb2 ht2 hr_3 c_4 ex_6 ex_8 c_9 c_74 c_75 c_76 c_77 c_78 c_79 ex_96) (q_X9_reckon_98 ho1 ho2 hb1 hb2 ht2 hr_3 c_4 ex_6 ex_8 c_9 c_74 c_75 c_76 c_77 c_78 c_79 ex_96)) (cwV 1 hts gX9_reckon_X9_push rfl rfl rfl (by decide +kernel) ⟨Nat.le_of_ble_eq_true rfl, Nat.le_of_ble_eq_true rfl⟩) hK hP hD hS hA [0, 2] [1] [1, 0, 2] rfl rfl (by decide) (fun _ => rfl) rfl rfl rfl hl.1 rfl (Nat.le_of_ble_eq_true rfl) dX9_reckon_134 ⟨Nat.zero_le _, Nat.zero_le _⟩ (fun r_99 u_100 H locs hr_99 hP hD hS => ?_)
                  obtain ⟨st_101, tp_102⟩ := u_100
                  have hP : va_P (dC, dI) vwCl [(aX, .inr (6, [.int cn, .ref m0, .ref m1, .ref m2, .ref m3, .ref m4, .ref m5, .ref m6, .ref m7, .ref m8, .int mi, .int me, .ref m9, .int gn, .ref m10, .ref m11, .ref m12, .ref m13, .ref m14, .int op, .ref m15, .int tp_102, .int mb, .int mv, .int mr, .int mf, .int md, .int sp, .int mw, .int it, .int mx, .int fa, .int ro, .int pp, .int fm])), (m12, .inl (cI, 25, .inl ba)), (m15, .inl (cI, 61, .inl st_101))] H := hP
                  have hD : va_D A [(aX, .inr (6, [.int cn, .ref m0, .ref m1, .ref m2, .ref m3, .ref m4, .ref m5, .ref m6, .ref m7, .ref m8, .int mi, .int me, .ref m9, .int gn, .ref m10, .ref m11, .ref m12, .ref m13, .ref m14, .int op, .ref m15, .int tp_102, .int mb, .int mv, .int mr, .int mf, .int md, .int sp, .int mw, .int it, .int mx, .int fa, .int ro, .int pp, .int fm])), (m12, .inl (cI, 25, .inl ba)), (m15, .inl (cI, 61, .inl st_101))] := hD
                  obtain ⟨hr_99_0, hr_99_1, hr_99_2⟩ := hr_99
                  have hr_99_0 : r_99 = if (tp - 2) = 60 then 8 else 0 := hr_99_0
                  have hr_99_1 : st_101 = if (tp - 2) = 60 then st else upd st (tp - 2).toNatClampNeg (sx x_96) := hr_99_1
                  have hr_99_2 : tp_102 = if (tp - 2) = 60 then (tp - 2) else (tp - 2) + 1 := hr_99_2
                  exact e_wi hx hb hr hlocks dX9_reckon_137 hK hS (st_101, tp_102) hP hD (q_X9_reckon_103 ho1 ho2 hb1 hb2 ht2 hr_3 c_4 ex_6 ex_8 c_9 c_74 c_75 c_76 c_77 c_78 c_79 ex_96 hr_99_0 hr_99_1 hr_99_2)
              · skip
                refine lv_iload_n hx hb dX9_reckon_101 rfl (lv_at hl 0 rfl) ?_
                refine lv_iload_n hx hb dX9_reckon_102 rfl (lv_at hl 1 rfl) ?_
                refine lv_idiv hx hb dX9_reckon_103 (q_X9_reckon_104 ho1 ho2 hb1 hb2 ht2 hr_3 c_4 ex_6 ex_8 c_9 c_74 c_75 c_76 c_77 c_78) ?_
                refine lv_goto (tgt := 129) hx hb dX9_reckon_104 (by decide) ?_
                refine lv_topi (fun x_105 ex_105 => ?_)
                refine lv_istore (lv' := [(4, .int x_105), (3, .int x_8), (2, .int x_6), (0, .ref aX), (1, .int k)]) hx hb dX9_reckon_129 hl (by decide) rfl (fun ls hl => ?_)
                refine lv_aload_n hx hb dX9_reckon_131 rfl (lv_at hl 3 rfl) ?_
                refine lv_iload hx hb dX9_reckon_132 (lv_at hl 0 rfl) ?_
                refine k_wi (w2 := (fun u_109 : (Nat → Int32) × (Int32) => [(aX, .inr (6, [.int cn, .ref m0, .ref m1, .ref m2, .ref m3, .ref m4, .ref m5, .ref m6, .ref m7, .ref m8, .int mi, .int me, .ref m9, .int gn, .ref m10, .ref m11, .ref m12, .ref m13, .ref m14, .int op, .ref m15, .int u_109.2, .int mb, .int mv, .int mr, .int mf, .int md, .int sp, .int mw, .int it, .int mx, .int fa, .int ro, .int pp, .int fm])), (m12, .inl (cI, 25, .inl ba)), (m15, .inl (cI, 61, .inl u_109.1))])) (wr := [(m12, .inl (cI, 25, .inl ba))]) (ci := 6) (q0 := 0) (q := (RX9, TX9, 35)) (As := [.int x_105]) (rest := []) ⟨hx, hb, hml, hown, hts⟩ (c_X9_push l dC dI cI _ aX m0 m1 m2 m3 m4 m5 m6 m7 m8 m9 m10 m11 m12 m13 m14 m15 st cn op mx (tp - 2) fa ro pp fm sp it gn mi me mb mv mr mf md mw x_105 (q_X9_reckon_106 ho1 ho2 hb1 hb2 ht2 hr_3 c_4 ex_6 ex_8 c_9 c_74 c_75 c_76 c_77 c_78 ex_105) (q_X9_reckon_107 ho1 ho2 hb1 hb2 ht2 hr_3 c_4 ex_6 ex_8 c_9 c_74 c_75 c_76 c_77 c_78 ex_105)) (cwV 1 hts gX9_reckon_X9_push rfl rfl rfl (by decide +kernel) ⟨Nat.le_of_ble_eq_true rfl, Nat.le_of_ble_eq_true rfl⟩) hK hP hD hS hA [0, 2] [1] [1, 0, 2] rfl rfl (by decide) (fun _ => rfl) rfl rfl rfl hl.1 rfl (Nat.le_of_ble_eq_true rfl) dX9_reckon_134 ⟨Nat.zero_le _, Nat.zero_le _⟩ (fun r_108 u_109 H locs hr_108 hP hD hS => ?_)
                obtain ⟨st_110, tp_111⟩ := u_109
                have hP : va_P (dC, dI) vwCl [(aX, .inr (6, [.int cn, .ref m0, .ref m1, .ref m2, .ref m3, .ref m4, .ref m5, .ref m6, .ref m7, .ref m8, .int mi, .int me, .ref m9, .int gn, .ref m10, .ref m11, .ref m12, .ref m13, .ref m14, .int op, .ref m15, .int tp_111, .int mb, .int mv, .int mr, .int mf, .int md, .int sp, .int mw, .int it, .int mx, .int fa, .int ro, .int pp, .int fm])), (m12, .inl (cI, 25, .inl ba)), (m15, .inl (cI, 61, .inl st_110))] H := hP
                have hD : va_D A [(aX, .inr (6, [.int cn, .ref m0, .ref m1, .ref m2, .ref m3, .ref m4, .ref m5, .ref m6, .ref m7, .ref m8, .int mi, .int me, .ref m9, .int gn, .ref m10, .ref m11, .ref m12, .ref m13, .ref m14, .int op, .ref m15, .int tp_111, .int mb, .int mv, .int mr, .int mf, .int md, .int sp, .int mw, .int it, .int mx, .int fa, .int ro, .int pp, .int fm])), (m12, .inl (cI, 25, .inl ba)), (m15, .inl (cI, 61, .inl st_110))] := hD
                obtain ⟨hr_108_0, hr_108_1, hr_108_2⟩ := hr_108
                have hr_108_0 : r_108 = if (tp - 2) = 60 then 8 else 0 := hr_108_0
                have hr_108_1 : st_110 = if (tp - 2) = 60 then st else upd st (tp - 2).toNatClampNeg (sx x_105) := hr_108_1
                have hr_108_2 : tp_111 = if (tp - 2) = 60 then (tp - 2) else (tp - 2) + 1 := hr_108_2
                exact e_wi hx hb hr hlocks dX9_reckon_137 hK hS (st_110, tp_111) hP hD (q_X9_reckon_112 ho1 ho2 hb1 hb2 ht2 hr_3 c_4 ex_6 ex_8 c_9 c_74 c_75 c_76 c_77 c_78 ex_105 hr_108_0 hr_108_1 hr_108_2)
            · skip
              refine lv_iload_n hx hb dX9_reckon_89 rfl (lv_at hl 0 rfl) ?_
              refine lv_iload_n hx hb dX9_reckon_90 rfl (lv_at hl 1 rfl) ?_
              refine lv_imul hx hb dX9_reckon_91 ?_
              refine lv_goto (tgt := 129) hx hb dX9_reckon_92 (by decide) ?_
              refine lv_topi (fun x_113 ex_113 => ?_)
              refine lv_istore (lv' := [(4, .int x_113), (3, .int x_8), (2, .int x_6), (0, .ref aX), (1, .int k)]) hx hb dX9_reckon_129 hl (by decide) rfl (fun ls hl => ?_)
              refine lv_aload_n hx hb dX9_reckon_131 rfl (lv_at hl 3 rfl) ?_
              refine lv_iload hx hb dX9_reckon_132 (lv_at hl 0 rfl) ?_
              refine k_wi (w2 := (fun u_117 : (Nat → Int32) × (Int32) => [(aX, .inr (6, [.int cn, .ref m0, .ref m1, .ref m2, .ref m3, .ref m4, .ref m5, .ref m6, .ref m7, .ref m8, .int mi, .int me, .ref m9, .int gn, .ref m10, .ref m11, .ref m12, .ref m13, .ref m14, .int op, .ref m15, .int u_117.2, .int mb, .int mv, .int mr, .int mf, .int md, .int sp, .int mw, .int it, .int mx, .int fa, .int ro, .int pp, .int fm])), (m12, .inl (cI, 25, .inl ba)), (m15, .inl (cI, 61, .inl u_117.1))])) (wr := [(m12, .inl (cI, 25, .inl ba))]) (ci := 6) (q0 := 0) (q := (RX9, TX9, 35)) (As := [.int x_113]) (rest := []) ⟨hx, hb, hml, hown, hts⟩ (c_X9_push l dC dI cI _ aX m0 m1 m2 m3 m4 m5 m6 m7 m8 m9 m10 m11 m12 m13 m14 m15 st cn op mx (tp - 2) fa ro pp fm sp it gn mi me mb mv mr mf md mw x_113 (q_X9_reckon_114 ho1 ho2 hb1 hb2 ht2 hr_3 c_4 ex_6 ex_8 c_9 c_74 c_75 c_76 c_77 ex_113) (q_X9_reckon_115 ho1 ho2 hb1 hb2 ht2 hr_3 c_4 ex_6 ex_8 c_9 c_74 c_75 c_76 c_77 ex_113)) (cwV 1 hts gX9_reckon_X9_push rfl rfl rfl (by decide +kernel) ⟨Nat.le_of_ble_eq_true rfl, Nat.le_of_ble_eq_true rfl⟩) hK hP hD hS hA [0, 2] [1] [1, 0, 2] rfl rfl (by decide) (fun _ => rfl) rfl rfl rfl hl.1 rfl (Nat.le_of_ble_eq_true rfl) dX9_reckon_134 ⟨Nat.zero_le _, Nat.zero_le _⟩ (fun r_116 u_117 H locs hr_116 hP hD hS => ?_)
              obtain ⟨st_118, tp_119⟩ := u_117
              have hP : va_P (dC, dI) vwCl [(aX, .inr (6, [.int cn, .ref m0, .ref m1, .ref m2, .ref m3, .ref m4, .ref m5, .ref m6, .ref m7, .ref m8, .int mi, .int me, .ref m9, .int gn, .ref m10, .ref m11, .ref m12, .ref m13, .ref m14, .int op, .ref m15, .int tp_119, .int mb, .int mv, .int mr, .int mf, .int md, .int sp, .int mw, .int it, .int mx, .int fa, .int ro, .int pp, .int fm])), (m12, .inl (cI, 25, .inl ba)), (m15, .inl (cI, 61, .inl st_118))] H := hP
              have hD : va_D A [(aX, .inr (6, [.int cn, .ref m0, .ref m1, .ref m2, .ref m3, .ref m4, .ref m5, .ref m6, .ref m7, .ref m8, .int mi, .int me, .ref m9, .int gn, .ref m10, .ref m11, .ref m12, .ref m13, .ref m14, .int op, .ref m15, .int tp_119, .int mb, .int mv, .int mr, .int mf, .int md, .int sp, .int mw, .int it, .int mx, .int fa, .int ro, .int pp, .int fm])), (m12, .inl (cI, 25, .inl ba)), (m15, .inl (cI, 61, .inl st_118))] := hD
              obtain ⟨hr_116_0, hr_116_1, hr_116_2⟩ := hr_116
              have hr_116_0 : r_116 = if (tp - 2) = 60 then 8 else 0 := hr_116_0
              have hr_116_1 : st_118 = if (tp - 2) = 60 then st else upd st (tp - 2).toNatClampNeg (sx x_113) := hr_116_1
              have hr_116_2 : tp_119 = if (tp - 2) = 60 then (tp - 2) else (tp - 2) + 1 := hr_116_2
              exact e_wi hx hb hr hlocks dX9_reckon_137 hK hS (st_118, tp_119) hP hD (q_X9_reckon_120 ho1 ho2 hb1 hb2 ht2 hr_3 c_4 ex_6 ex_8 c_9 c_74 c_75 c_76 c_77 ex_113 hr_116_0 hr_116_1 hr_116_2)
          · skip
            refine lv_iload_n hx hb dX9_reckon_78 rfl (lv_at hl 0 rfl) ?_
            refine lv_iload_n hx hb dX9_reckon_79 rfl (lv_at hl 1 rfl) ?_
            refine lv_isub hx hb dX9_reckon_80 ?_
            refine lv_goto (tgt := 129) hx hb dX9_reckon_81 (by decide) ?_
            refine lv_topi (fun x_121 ex_121 => ?_)
            refine lv_istore (lv' := [(4, .int x_121), (3, .int x_8), (2, .int x_6), (0, .ref aX), (1, .int k)]) hx hb dX9_reckon_129 hl (by decide) rfl (fun ls hl => ?_)
            refine lv_aload_n hx hb dX9_reckon_131 rfl (lv_at hl 3 rfl) ?_
            refine lv_iload hx hb dX9_reckon_132 (lv_at hl 0 rfl) ?_
            refine k_wi (w2 := (fun u_125 : (Nat → Int32) × (Int32) => [(aX, .inr (6, [.int cn, .ref m0, .ref m1, .ref m2, .ref m3, .ref m4, .ref m5, .ref m6, .ref m7, .ref m8, .int mi, .int me, .ref m9, .int gn, .ref m10, .ref m11, .ref m12, .ref m13, .ref m14, .int op, .ref m15, .int u_125.2, .int mb, .int mv, .int mr, .int mf, .int md, .int sp, .int mw, .int it, .int mx, .int fa, .int ro, .int pp, .int fm])), (m12, .inl (cI, 25, .inl ba)), (m15, .inl (cI, 61, .inl u_125.1))])) (wr := [(m12, .inl (cI, 25, .inl ba))]) (ci := 6) (q0 := 0) (q := (RX9, TX9, 35)) (As := [.int x_121]) (rest := []) ⟨hx, hb, hml, hown, hts⟩ (c_X9_push l dC dI cI _ aX m0 m1 m2 m3 m4 m5 m6 m7 m8 m9 m10 m11 m12 m13 m14 m15 st cn op mx (tp - 2) fa ro pp fm sp it gn mi me mb mv mr mf md mw x_121 (q_X9_reckon_122 ho1 ho2 hb1 hb2 ht2 hr_3 c_4 ex_6 ex_8 c_9 c_74 c_75 c_76 ex_121) (q_X9_reckon_123 ho1 ho2 hb1 hb2 ht2 hr_3 c_4 ex_6 ex_8 c_9 c_74 c_75 c_76 ex_121)) (cwV 1 hts gX9_reckon_X9_push rfl rfl rfl (by decide +kernel) ⟨Nat.le_of_ble_eq_true rfl, Nat.le_of_ble_eq_true rfl⟩) hK hP hD hS hA [0, 2] [1] [1, 0, 2] rfl rfl (by decide) (fun _ => rfl) rfl rfl rfl hl.1 rfl (Nat.le_of_ble_eq_true rfl) dX9_reckon_134 ⟨Nat.zero_le _, Nat.zero_le _⟩ (fun r_124 u_125 H locs hr_124 hP hD hS => ?_)
            obtain ⟨st_126, tp_127⟩ := u_125
            have hP : va_P (dC, dI) vwCl [(aX, .inr (6, [.int cn, .ref m0, .ref m1, .ref m2, .ref m3, .ref m4, .ref m5, .ref m6, .ref m7, .ref m8, .int mi, .int me, .ref m9, .int gn, .ref m10, .ref m11, .ref m12, .ref m13, .ref m14, .int op, .ref m15, .int tp_127, .int mb, .int mv, .int mr, .int mf, .int md, .int sp, .int mw, .int it, .int mx, .int fa, .int ro, .int pp, .int fm])), (m12, .inl (cI, 25, .inl ba)), (m15, .inl (cI, 61, .inl st_126))] H := hP
            have hD : va_D A [(aX, .inr (6, [.int cn, .ref m0, .ref m1, .ref m2, .ref m3, .ref m4, .ref m5, .ref m6, .ref m7, .ref m8, .int mi, .int me, .ref m9, .int gn, .ref m10, .ref m11, .ref m12, .ref m13, .ref m14, .int op, .ref m15, .int tp_127, .int mb, .int mv, .int mr, .int mf, .int md, .int sp, .int mw, .int it, .int mx, .int fa, .int ro, .int pp, .int fm])), (m12, .inl (cI, 25, .inl ba)), (m15, .inl (cI, 61, .inl st_126))] := hD
            obtain ⟨hr_124_0, hr_124_1, hr_124_2⟩ := hr_124
            have hr_124_0 : r_124 = if (tp - 2) = 60 then 8 else 0 := hr_124_0
            have hr_124_1 : st_126 = if (tp - 2) = 60 then st else upd st (tp - 2).toNatClampNeg (sx x_121) := hr_124_1
            have hr_124_2 : tp_127 = if (tp - 2) = 60 then (tp - 2) else (tp - 2) + 1 := hr_124_2
            exact e_wi hx hb hr hlocks dX9_reckon_137 hK hS (st_126, tp_127) hP hD (q_X9_reckon_128 ho1 ho2 hb1 hb2 ht2 hr_3 c_4 ex_6 ex_8 c_9 c_74 c_75 c_76 ex_121 hr_124_0 hr_124_1 hr_124_2)
        · skip
          refine lv_iload_n hx hb dX9_reckon_67 rfl (lv_at hl 0 rfl) ?_
          refine lv_iload_n hx hb dX9_reckon_68 rfl (lv_at hl 1 rfl) ?_
          refine lv_iadd hx hb dX9_reckon_69 ?_
          refine lv_goto (tgt := 129) hx hb dX9_reckon_70 (by decide) ?_
          refine lv_topi (fun x_129 ex_129 => ?_)
          refine lv_istore (lv' := [(4, .int x_129), (3, .int x_8), (2, .int x_6), (0, .ref aX), (1, .int k)]) hx hb dX9_reckon_129 hl (by decide) rfl (fun ls hl => ?_)
          refine lv_aload_n hx hb dX9_reckon_131 rfl (lv_at hl 3 rfl) ?_
          refine lv_iload hx hb dX9_reckon_132 (lv_at hl 0 rfl) ?_
          refine k_wi (w2 := (fun u_133 : (Nat → Int32) × (Int32) => [(aX, .inr (6, [.int cn, .ref m0, .ref m1, .ref m2, .ref m3, .ref m4, .ref m5, .ref m6, .ref m7, .ref m8, .int mi, .int me, .ref m9, .int gn, .ref m10, .ref m11, .ref m12, .ref m13, .ref m14, .int op, .ref m15, .int u_133.2, .int mb, .int mv, .int mr, .int mf, .int md, .int sp, .int mw, .int it, .int mx, .int fa, .int ro, .int pp, .int fm])), (m12, .inl (cI, 25, .inl ba)), (m15, .inl (cI, 61, .inl u_133.1))])) (wr := [(m12, .inl (cI, 25, .inl ba))]) (ci := 6) (q0 := 0) (q := (RX9, TX9, 35)) (As := [.int x_129]) (rest := []) ⟨hx, hb, hml, hown, hts⟩ (c_X9_push l dC dI cI _ aX m0 m1 m2 m3 m4 m5 m6 m7 m8 m9 m10 m11 m12 m13 m14 m15 st cn op mx (tp - 2) fa ro pp fm sp it gn mi me mb mv mr mf md mw x_129 (q_X9_reckon_130 ho1 ho2 hb1 hb2 ht2 hr_3 c_4 ex_6 ex_8 c_9 c_74 c_75 ex_129) (q_X9_reckon_131 ho1 ho2 hb1 hb2 ht2 hr_3 c_4 ex_6 ex_8 c_9 c_74 c_75 ex_129)) (cwV 1 hts gX9_reckon_X9_push rfl rfl rfl (by decide +kernel) ⟨Nat.le_of_ble_eq_true rfl, Nat.le_of_ble_eq_true rfl⟩) hK hP hD hS hA [0, 2] [1] [1, 0, 2] rfl rfl (by decide) (fun _ => rfl) rfl rfl rfl hl.1 rfl (Nat.le_of_ble_eq_true rfl) dX9_reckon_134 ⟨Nat.zero_le _, Nat.zero_le _⟩ (fun r_132 u_133 H locs hr_132 hP hD hS => ?_)
          obtain ⟨st_134, tp_135⟩ := u_133
          have hP : va_P (dC, dI) vwCl [(aX, .inr (6, [.int cn, .ref m0, .ref m1, .ref m2, .ref m3, .ref m4, .ref m5, .ref m6, .ref m7, .ref m8, .int mi, .int me, .ref m9, .int gn, .ref m10, .ref m11, .ref m12, .ref m13, .ref m14, .int op, .ref m15, .int tp_135, .int mb, .int mv, .int mr, .int mf, .int md, .int sp, .int mw, .int it, .int mx, .int fa, .int ro, .int pp, .int fm])), (m12, .inl (cI, 25, .inl ba)), (m15, .inl (cI, 61, .inl st_134))] H := hP
          have hD : va_D A [(aX, .inr (6, [.int cn, .ref m0, .ref m1, .ref m2, .ref m3, .ref m4, .ref m5, .ref m6, .ref m7, .ref m8, .int mi, .int me, .ref m9, .int gn, .ref m10, .ref m11, .ref m12, .ref m13, .ref m14, .int op, .ref m15, .int tp_135, .int mb, .int mv, .int mr, .int mf, .int md, .int sp, .int mw, .int it, .int mx, .int fa, .int ro, .int pp, .int fm])), (m12, .inl (cI, 25, .inl ba)), (m15, .inl (cI, 61, .inl st_134))] := hD
          obtain ⟨hr_132_0, hr_132_1, hr_132_2⟩ := hr_132
          have hr_132_0 : r_132 = if (tp - 2) = 60 then 8 else 0 := hr_132_0
          have hr_132_1 : st_134 = if (tp - 2) = 60 then st else upd st (tp - 2).toNatClampNeg (sx x_129) := hr_132_1
          have hr_132_2 : tp_135 = if (tp - 2) = 60 then (tp - 2) else (tp - 2) + 1 := hr_132_2
          exact e_wi hx hb hr hlocks dX9_reckon_137 hK hS (st_134, tp_135) hP hD (q_X9_reckon_136 ho1 ho2 hb1 hb2 ht2 hr_3 c_4 ex_6 ex_8 c_9 c_74 c_75 ex_129 hr_132_0 hr_132_1 hr_132_2)
      · skip
        refine lv_iload_n hx hb dX9_reckon_46 rfl (lv_at hl 1 rfl) ?_
        refine lv_if_ne (tgt := 52) hx hb dX9_reckon_47 (by decide) (fun c_137 => ?_) (fun c_137 => ?_)
        · skip
          refine lv_aload_n hx hb dX9_reckon_52 rfl (lv_at hl 2 rfl) ?_
          refine lv_dup hx hb dX9_reckon_53 rfl ?_
          refine va_get (D := (dC, dI)) (ci := 6) (v := .int tp) (C := RX9) (T := TX9) (N := 35) hx hb hts i_X9 hown hK hP 0 rfl rfl 21 (by decide) k_2 (fun _ h9 => h9) rfl dX9_reckon_54 ?_
          refine lv_iconst (v := 2) hx hb dX9_reckon_57 (by decide) ?_
          refine lv_isub hx hb dX9_reckon_58 ?_
          refine va_put (D := (dC, dI)) (ci := 6) (v := .int (tp - 2)) (ty := .int) (C := RX9) (T := TX9) (N := 35) hx hb hts i_X9 tyX9 tyX9_ok nmX9 hown hK hP hD hS 0 rfl rfl 21 (by decide) k_2 (fun _ h9 => h9) rfl (by decide +kernel) rfl rfl (Nat.le_of_ble_eq_true rfl) dX9_reckon_59 (fun H locs hP hD hS => ?_)
          have hP : va_P (dC, dI) vwCl [(aX, .inr (6, [.int cn, .ref m0, .ref m1, .ref m2, .ref m3, .ref m4, .ref m5, .ref m6, .ref m7, .ref m8, .int mi, .int me, .ref m9, .int gn, .ref m10, .ref m11, .ref m12, .ref m13, .ref m14, .int op, .ref m15, .int (tp - 2), .int mb, .int mv, .int mr, .int mf, .int md, .int sp, .int mw, .int it, .int mx, .int fa, .int ro, .int pp, .int fm])), (m12, .inl (cI, 25, .inl ba)), (m15, .inl (cI, 61, .inl st))] H := hP
          have hD : va_D A [(aX, .inr (6, [.int cn, .ref m0, .ref m1, .ref m2, .ref m3, .ref m4, .ref m5, .ref m6, .ref m7, .ref m8, .int mi, .int me, .ref m9, .int gn, .ref m10, .ref m11, .ref m12, .ref m13, .ref m14, .int op, .ref m15, .int (tp - 2), .int mb, .int mv, .int mr, .int mf, .int md, .int sp, .int mw, .int it, .int mx, .int fa, .int ro, .int pp, .int fm])), (m12, .inl (cI, 25, .inl ba)), (m15, .inl (cI, 61, .inl st))] := hD
          refine lv_iload_n hx hb dX9_reckon_62 rfl (lv_at hl 3 rfl) ?_
          refine lv_iconst (v := 3) hx hb dX9_reckon_63 (by decide) ?_
          refine lv_icmp_ne (tgt := 73) hx hb dX9_reckon_64 (by decide) (fun c_138 => ?_) (fun c_138 => ?_)
          · skip
            refine lv_iload_n hx hb dX9_reckon_73 rfl (lv_at hl 3 rfl) ?_
            refine lv_iconst (v := 4) hx hb dX9_reckon_74 (by decide) ?_
            refine lv_icmp_ne (tgt := 84) hx hb dX9_reckon_75 (by decide) (fun c_139 => ?_) (fun c_139 => ?_)
            · skip
              refine lv_iload_n hx hb dX9_reckon_84 rfl (lv_at hl 3 rfl) ?_
              refine lv_iconst (v := 5) hx hb dX9_reckon_85 (by decide) ?_
              refine lv_icmp_ne (tgt := 95) hx hb dX9_reckon_86 (by decide) (fun c_140 => ?_) (fun c_140 => ?_)
              · skip
                refine lv_iload_n hx hb dX9_reckon_95 rfl (lv_at hl 3 rfl) ?_
                refine lv_bipush (v := 6) hx hb dX9_reckon_96 (by decide) ?_
                refine lv_icmp_ne (tgt := 107) hx hb dX9_reckon_98 (by decide) (fun c_141 => ?_) (fun c_141 => ?_)
                · skip
                  refine lv_iload_n hx hb dX9_reckon_107 rfl (lv_at hl 3 rfl) ?_
                  refine lv_bipush (v := 7) hx hb dX9_reckon_108 (by decide) ?_
                  refine lv_icmp_ne (tgt := 119) hx hb dX9_reckon_110 (by decide) (fun c_142 => ?_) (fun c_142 => ?_)
                  · skip
                    refine lv_iload_n hx hb dX9_reckon_119 rfl (lv_at hl 0 rfl) ?_
                    refine lv_iload_n hx hb dX9_reckon_120 rfl (lv_at hl 1 rfl) ?_
                    refine lv_icmp_ge (tgt := 128) hx hb dX9_reckon_121 (by decide) (fun c_143 => ?_) (fun c_143 => ?_)
                    · skip
                      refine lv_iconst (v := 0) hx hb dX9_reckon_128 (by decide) ?_
                      refine lv_istore (lv' := [(4, .int 0), (3, .int x_8), (2, .int x_6), (0, .ref aX), (1, .int k)]) hx hb dX9_reckon_129 hl (by decide) rfl (fun ls hl => ?_)
                      refine lv_aload_n hx hb dX9_reckon_131 rfl (lv_at hl 3 rfl) ?_
                      refine lv_iload hx hb dX9_reckon_132 (lv_at hl 0 rfl) ?_
                      refine k_wi (w2 := (fun u_147 : (Nat → Int32) × (Int32) => [(aX, .inr (6, [.int cn, .ref m0, .ref m1, .ref m2, .ref m3, .ref m4, .ref m5, .ref m6, .ref m7, .ref m8, .int mi, .int me, .ref m9, .int gn, .ref m10, .ref m11, .ref m12, .ref m13, .ref m14, .int op, .ref m15, .int u_147.2, .int mb, .int mv, .int mr, .int mf, .int md, .int sp, .int mw, .int it, .int mx, .int fa, .int ro, .int pp, .int fm])), (m12, .inl (cI, 25, .inl ba)), (m15, .inl (cI, 61, .inl u_147.1))])) (wr := [(m12, .inl (cI, 25, .inl ba))]) (ci := 6) (q0 := 0) (q := (RX9, TX9, 35)) (As := [.int 0]) (rest := []) ⟨hx, hb, hml, hown, hts⟩ (c_X9_push l dC dI cI _ aX m0 m1 m2 m3 m4 m5 m6 m7 m8 m9 m10 m11 m12 m13 m14 m15 st cn op mx (tp - 2) fa ro pp fm sp it gn mi me mb mv mr mf md mw 0 (q_X9_reckon_144 ho1 ho2 hb1 hb2 ht2 hr_3 c_4 ex_6 ex_8 c_9 c_74 c_137 c_138 c_139 c_140 c_141 c_142 c_143) (q_X9_reckon_145 ho1 ho2 hb1 hb2 ht2 hr_3 c_4 ex_6 ex_8 c_9 c_74 c_137 c_138 c_139 c_140 c_141 c_142 c_143)) (cwV 1 hts gX9_reckon_X9_push rfl rfl rfl (by decide +kernel) ⟨Nat.le_of_ble_eq_true rfl, Nat.le_of_ble_eq_true rfl⟩) hK hP hD hS hA [0, 2] [1] [1, 0, 2] rfl rfl (by decide) (fun _ => rfl) rfl rfl rfl hl.1 rfl (Nat.le_of_ble_eq_true rfl) dX9_reckon_134 ⟨Nat.zero_le _, Nat.zero_le _⟩ (fun r_146 u_147 H locs hr_146 hP hD hS => ?_)
                      obtain ⟨st_148, tp_149⟩ := u_147
                      have hP : va_P (dC, dI) vwCl [(aX, .inr (6, [.int cn, .ref m0, .ref m1, .ref m2, .ref m3, .ref m4, .ref m5, .ref m6, .ref m7, .ref m8, .int mi, .int me, .ref m9, .int gn, .ref m10, .ref m11, .ref m12, .ref m13, .ref m14, .int op, .ref m15, .int tp_149, .int mb, .int mv, .int mr, .int mf, .int md, .int sp, .int mw, .int it, .int mx, .int fa, .int ro, .int pp, .int fm])), (m12, .inl (cI, 25, .inl ba)), (m15, .inl (cI, 61, .inl st_148))] H := hP
                      have hD : va_D A [(aX, .inr (6, [.int cn, .ref m0, .ref m1, .ref m2, .ref m3, .ref m4, .ref m5, .ref m6, .ref m7, .ref m8, .int mi, .int me, .ref m9, .int gn, .ref m10, .ref m11, .ref m12, .ref m13, .ref m14, .int op, .ref m15, .int tp_149, .int mb, .int mv, .int mr, .int mf, .int md, .int sp, .int mw, .int it, .int mx, .int fa, .int ro, .int pp, .int fm])), (m12, .inl (cI, 25, .inl ba)), (m15, .inl (cI, 61, .inl st_148))] := hD
                      obtain ⟨hr_146_0, hr_146_1, hr_146_2⟩ := hr_146
                      have hr_146_0 : r_146 = if (tp - 2) = 60 then 8 else 0 := hr_146_0
                      have hr_146_1 : st_148 = if (tp - 2) = 60 then st else upd st (tp - 2).toNatClampNeg (sx (0 : Int32)) := hr_146_1
                      have hr_146_2 : tp_149 = if (tp - 2) = 60 then (tp - 2) else (tp - 2) + 1 := hr_146_2
                      exact e_wi hx hb hr hlocks dX9_reckon_137 hK hS (st_148, tp_149) hP hD (q_X9_reckon_150 ho1 ho2 hb1 hb2 ht2 hr_3 c_4 ex_6 ex_8 c_9 c_74 c_137 c_138 c_139 c_140 c_141 c_142 c_143 hr_146_0 hr_146_1 hr_146_2)
                    · skip
                      refine lv_iconst (v := 1) hx hb dX9_reckon_124 (by decide) ?_
                      refine lv_goto (tgt := 129) hx hb dX9_reckon_125 (by decide) ?_
                      refine lv_istore (lv' := [(4, .int 1), (3, .int x_8), (2, .int x_6), (0, .ref aX), (1, .int k)]) hx hb dX9_reckon_129 hl (by decide) rfl (fun ls hl => ?_)
                      refine lv_aload_n hx hb dX9_reckon_131 rfl (lv_at hl 3 rfl) ?_
                      refine lv_iload hx hb dX9_reckon_132 (lv_at hl 0 rfl) ?_
                      refine k_wi (w2 := (fun u_154 : (Nat → Int32) × (Int32) => [(aX, .inr (6, [.int cn, .ref m0, .ref m1, .ref m2, .ref m3, .ref m4, .ref m5, .ref m6, .ref m7, .ref m8, .int mi, .int me, .ref m9, .int gn, .ref m10, .ref m11, .ref m12, .ref m13, .ref m14, .int op, .ref m15, .int u_154.2, .int mb, .int mv, .int mr, .int mf, .int md, .int sp, .int mw, .int it, .int mx, .int fa, .int ro, .int pp, .int fm])), (m12, .inl (cI, 25, .inl ba)), (m15, .inl (cI, 61, .inl u_154.1))])) (wr := [(m12, .inl (cI, 25, .inl ba))]) (ci := 6) (q0 := 0) (q := (RX9, TX9, 35)) (As := [.int 1]) (rest := []) ⟨hx, hb, hml, hown, hts⟩ (c_X9_push l dC dI cI _ aX m0 m1 m2 m3 m4 m5 m6 m7 m8 m9 m10 m11 m12 m13 m14 m15 st cn op mx (tp - 2) fa ro pp fm sp it gn mi me mb mv mr mf md mw 1 (q_X9_reckon_151 ho1 ho2 hb1 hb2 ht2 hr_3 c_4 ex_6 ex_8 c_9 c_74 c_137 c_138 c_139 c_140 c_141 c_142 c_143) (q_X9_reckon_152 ho1 ho2 hb1 hb2 ht2 hr_3 c_4 ex_6 ex_8 c_9 c_74 c_137 c_138 c_139 c_140 c_141 c_142 c_143)) (cwV 1 hts gX9_reckon_X9_push rfl rfl rfl (by decide +kernel) ⟨Nat.le_of_ble_eq_true rfl, Nat.le_of_ble_eq_true rfl⟩) hK hP hD hS hA [0, 2] [1] [1, 0, 2] rfl rfl (by decide) (fun _ => rfl) rfl rfl rfl hl.1 rfl (Nat.le_of_ble_eq_true rfl) dX9_reckon_134 ⟨Nat.zero_le _, Nat.zero_le _⟩ (fun r_153 u_154 H locs hr_153 hP hD hS => ?_)
                      obtain ⟨st_155, tp_156⟩ := u_154
                      have hP : va_P (dC, dI) vwCl [(aX, .inr (6, [.int cn, .ref m0, .ref m1, .ref m2, .ref m3, .ref m4, .ref m5, .ref m6, .ref m7, .ref m8, .int mi, .int me, .ref m9, .int gn, .ref m10, .ref m11, .ref m12, .ref m13, .ref m14, .int op, .ref m15, .int tp_156, .int mb, .int mv, .int mr, .int mf, .int md, .int sp, .int mw, .int it, .int mx, .int fa, .int ro, .int pp, .int fm])), (m12, .inl (cI, 25, .inl ba)), (m15, .inl (cI, 61, .inl st_155))] H := hP
                      have hD : va_D A [(aX, .inr (6, [.int cn, .ref m0, .ref m1, .ref m2, .ref m3, .ref m4, .ref m5, .ref m6, .ref m7, .ref m8, .int mi, .int me, .ref m9, .int gn, .ref m10, .ref m11, .ref m12, .ref m13, .ref m14, .int op, .ref m15, .int tp_156, .int mb, .int mv, .int mr, .int mf, .int md, .int sp, .int mw, .int it, .int mx, .int fa, .int ro, .int pp, .int fm])), (m12, .inl (cI, 25, .inl ba)), (m15, .inl (cI, 61, .inl st_155))] := hD
                      obtain ⟨hr_153_0, hr_153_1, hr_153_2⟩ := hr_153
                      have hr_153_0 : r_153 = if (tp - 2) = 60 then 8 else 0 := hr_153_0
                      have hr_153_1 : st_155 = if (tp - 2) = 60 then st else upd st (tp - 2).toNatClampNeg (sx (1 : Int32)) := hr_153_1
                      have hr_153_2 : tp_156 = if (tp - 2) = 60 then (tp - 2) else (tp - 2) + 1 := hr_153_2
                      exact e_wi hx hb hr hlocks dX9_reckon_137 hK hS (st_155, tp_156) hP hD (q_X9_reckon_157 ho1 ho2 hb1 hb2 ht2 hr_3 c_4 ex_6 ex_8 c_9 c_74 c_137 c_138 c_139 c_140 c_141 c_142 c_143 hr_153_0 hr_153_1 hr_153_2)
                  · skip
                    refine lv_iload_n hx hb dX9_reckon_113 rfl (lv_at hl 0 rfl) ?_
                    refine lv_iload_n hx hb dX9_reckon_114 rfl (lv_at hl 1 rfl) ?_
                    refine lv_irem hx hb dX9_reckon_115 (q_X9_reckon_158 ho1 ho2 hb1 hb2 ht2 hr_3 c_4 ex_6 ex_8 c_9 c_74 c_137 c_138 c_139 c_140 c_141 c_142) ?_
                    refine lv_goto (tgt := 129) hx hb dX9_reckon_116 (by decide) ?_
                    refine lv_topi (fun x_159 ex_159 => ?_)
                    refine lv_istore (lv' := [(4, .int x_159), (3, .int x_8), (2, .int x_6), (0, .ref aX), (1, .int k)]) hx hb dX9_reckon_129 hl (by decide) rfl (fun ls hl => ?_)
                    refine lv_aload_n hx hb dX9_reckon_131 rfl (lv_at hl 3 rfl) ?_
                    refine lv_iload hx hb dX9_reckon_132 (lv_at hl 0 rfl) ?_
                    refine k_wi (w2 := (fun u_163 : (Nat → Int32) × (Int32) => [(aX, .inr (6, [.int cn, .ref m0, .ref m1, .ref m2, .ref m3, .ref m4, .ref m5, .ref m6, .ref m7, .ref m8, .int mi, .int me, .ref m9, .int gn, .ref m10, .ref m11, .ref m12, .ref m13, .ref m14, .int op, .ref m15, .int u_163.2, .int mb, .int mv, .int mr, .int mf, .int md, .int sp, .int mw, .int it, .int mx, .int fa, .int ro, .int pp, .int fm])), (m12, .inl (cI, 25, .inl ba)), (m15, .inl (cI, 61, .inl u_163.1))])) (wr := [(m12, .inl (cI, 25, .inl ba))]) (ci := 6) (q0 := 0) (q := (RX9, TX9, 35)) (As := [.int x_159]) (rest := []) ⟨hx, hb, hml, hown, hts⟩ (c_X9_push l dC dI cI _ aX m0 m1 m2 m3 m4 m5 m6 m7 m8 m9 m10 m11 m12 m13 m14 m15 st cn op mx (tp - 2) fa ro pp fm sp it gn mi me mb mv mr mf md mw x_159 (q_X9_reckon_160 ho1 ho2 hb1 hb2 ht2 hr_3 c_4 ex_6 ex_8 c_9 c_74 c_137 c_138 c_139 c_140 c_141 c_142 ex_159) (q_X9_reckon_161 ho1 ho2 hb1 hb2 ht2 hr_3 c_4 ex_6 ex_8 c_9 c_74 c_137 c_138 c_139 c_140 c_141 c_142 ex_159)) (cwV 1 hts gX9_reckon_X9_push rfl rfl rfl (by decide +kernel) ⟨Nat.le_of_ble_eq_true rfl, Nat.le_of_ble_eq_true rfl⟩) hK hP hD hS hA [0, 2] [1] [1, 0, 2] rfl rfl (by decide) (fun _ => rfl) rfl rfl rfl hl.1 rfl (Nat.le_of_ble_eq_true rfl) dX9_reckon_134 ⟨Nat.zero_le _, Nat.zero_le _⟩ (fun r_162 u_163 H locs hr_162 hP hD hS => ?_)
                    obtain ⟨st_164, tp_165⟩ := u_163
                    have hP : va_P (dC, dI) vwCl [(aX, .inr (6, [.int cn, .ref m0, .ref m1, .ref m2, .ref m3, .ref m4, .ref m5, .ref m6, .ref m7, .ref m8, .int mi, .int me, .ref m9, .int gn, .ref m10, .ref m11, .ref m12, .ref m13, .ref m14, .int op, .ref m15, .int tp_165, .int mb, .int mv, .int mr, .int mf, .int md, .int sp, .int mw, .int it, .int mx, .int fa, .int ro, .int pp, .int fm])), (m12, .inl (cI, 25, .inl ba)), (m15, .inl (cI, 61, .inl st_164))] H := hP
                    have hD : va_D A [(aX, .inr (6, [.int cn, .ref m0, .ref m1, .ref m2, .ref m3, .ref m4, .ref m5, .ref m6, .ref m7, .ref m8, .int mi, .int me, .ref m9, .int gn, .ref m10, .ref m11, .ref m12, .ref m13, .ref m14, .int op, .ref m15, .int tp_165, .int mb, .int mv, .int mr, .int mf, .int md, .int sp, .int mw, .int it, .int mx, .int fa, .int ro, .int pp, .int fm])), (m12, .inl (cI, 25, .inl ba)), (m15, .inl (cI, 61, .inl st_164))] := hD
                    obtain ⟨hr_162_0, hr_162_1, hr_162_2⟩ := hr_162
                    have hr_162_0 : r_162 = if (tp - 2) = 60 then 8 else 0 := hr_162_0
                    have hr_162_1 : st_164 = if (tp - 2) = 60 then st else upd st (tp - 2).toNatClampNeg (sx x_159) := hr_162_1
                    have hr_162_2 : tp_165 = if (tp - 2) = 60 then (tp - 2) else (tp - 2) + 1 := hr_162_2
                    exact e_wi hx hb hr hlocks dX9_reckon_137 hK hS (st_164, tp_165) hP hD (q_X9_reckon_166 ho1 ho2 hb1 hb2 ht2 hr_3 c_4 ex_6 ex_8 c_9 c_74 c_137 c_138 c_139 c_140 c_141 c_142 ex_159 hr_162_0 hr_162_1 hr_162_2)
                · skip
                  refine lv_iload_n hx hb dX9_reckon_101 rfl (lv_at hl 0 rfl) ?_
                  refine lv_iload_n hx hb dX9_reckon_102 rfl (lv_at hl 1 rfl) ?_
                  refine lv_idiv hx hb dX9_reckon_103 (q_X9_reckon_167 ho1 ho2 hb1 hb2 ht2 hr_3 c_4 ex_6 ex_8 c_9 c_74 c_137 c_138 c_139 c_140 c_141) ?_
                  refine lv_goto (tgt := 129) hx hb dX9_reckon_104 (by decide) ?_
                  refine lv_topi (fun x_168 ex_168 => ?_)
                  refine lv_istore (lv' := [(4, .int x_168), (3, .int x_8), (2, .int x_6), (0, .ref aX), (1, .int k)]) hx hb dX9_reckon_129 hl (by decide) rfl (fun ls hl => ?_)
                  refine lv_aload_n hx hb dX9_reckon_131 rfl (lv_at hl 3 rfl) ?_
                  refine lv_iload hx hb dX9_reckon_132 (lv_at hl 0 rfl) ?_
                  refine k_wi (w2 := (fun u_172 : (Nat → Int32) × (Int32) => [(aX, .inr (6, [.int cn, .ref m0, .ref m1, .ref m2, .ref m3, .ref m4, .ref m5, .ref m6, .ref m7, .ref m8, .int mi, .int me, .ref m9, .int gn, .ref m10, .ref m11, .ref m12, .ref m13, .ref m14, .int op, .ref m15, .int u_172.2, .int mb, .int mv, .int mr, .int mf, .int md, .int sp, .int mw, .int it, .int mx, .int fa, .int ro, .int pp, .int fm])), (m12, .inl (cI, 25, .inl ba)), (m15, .inl (cI, 61, .inl u_172.1))])) (wr := [(m12, .inl (cI, 25, .inl ba))]) (ci := 6) (q0 := 0) (q := (RX9, TX9, 35)) (As := [.int x_168]) (rest := []) ⟨hx, hb, hml, hown, hts⟩ (c_X9_push l dC dI cI _ aX m0 m1 m2 m3 m4 m5 m6 m7 m8 m9 m10 m11 m12 m13 m14 m15 st cn op mx (tp - 2) fa ro pp fm sp it gn mi me mb mv mr mf md mw x_168 (q_X9_reckon_169 ho1 ho2 hb1 hb2 ht2 hr_3 c_4 ex_6 ex_8 c_9 c_74 c_137 c_138 c_139 c_140 c_141 ex_168) (q_X9_reckon_170 ho1 ho2 hb1 hb2 ht2 hr_3 c_4 ex_6 ex_8 c_9 c_74 c_137 c_138 c_139 c_140 c_141 ex_168)) (cwV 1 hts gX9_reckon_X9_push rfl rfl rfl (by decide +kernel) ⟨Nat.le_of_ble_eq_true rfl, Nat.le_of_ble_eq_true rfl⟩) hK hP hD hS hA [0, 2] [1] [1, 0, 2] rfl rfl (by decide) (fun _ => rfl) rfl rfl rfl hl.1 rfl (Nat.le_of_ble_eq_true rfl) dX9_reckon_134 ⟨Nat.zero_le _, Nat.zero_le _⟩ (fun r_171 u_172 H locs hr_171 hP hD hS => ?_)
                  obtain ⟨st_173, tp_174⟩ := u_172
                  have hP : va_P (dC, dI) vwCl [(aX, .inr (6, [.int cn, .ref m0, .ref m1, .ref m2, .ref m3, .ref m4, .ref m5, .ref m6, .ref m7, .ref m8, .int mi, .int me, .ref m9, .int gn, .ref m10, .ref m11, .ref m12, .ref m13, .ref m14, .int op, .ref m15, .int tp_174, .int mb, .int mv, .int mr, .int mf, .int md, .int sp, .int mw, .int it, .int mx, .int fa, .int ro, .int pp, .int fm])), (m12, .inl (cI, 25, .inl ba)), (m15, .inl (cI, 61, .inl st_173))] H := hP
                  have hD : va_D A [(aX, .inr (6, [.int cn, .ref m0, .ref m1, .ref m2, .ref m3, .ref m4, .ref m5, .ref m6, .ref m7, .ref m8, .int mi, .int me, .ref m9, .int gn, .ref m10, .ref m11, .ref m12, .ref m13, .ref m14, .int op, .ref m15, .int tp_174, .int mb, .int mv, .int mr, .int mf, .int md, .int sp, .int mw, .int it, .int mx, .int fa, .int ro, .int pp, .int fm])), (m12, .inl (cI, 25, .inl ba)), (m15, .inl (cI, 61, .inl st_173))] := hD
                  obtain ⟨hr_171_0, hr_171_1, hr_171_2⟩ := hr_171
                  have hr_171_0 : r_171 = if (tp - 2) = 60 then 8 else 0 := hr_171_0
                  have hr_171_1 : st_173 = if (tp - 2) = 60 then st else upd st (tp - 2).toNatClampNeg (sx x_168) := hr_171_1
                  have hr_171_2 : tp_174 = if (tp - 2) = 60 then (tp - 2) else (tp - 2) + 1 := hr_171_2
                  exact e_wi hx hb hr hlocks dX9_reckon_137 hK hS (st_173, tp_174) hP hD (q_X9_reckon_175 ho1 ho2 hb1 hb2 ht2 hr_3 c_4 ex_6 ex_8 c_9 c_74 c_137 c_138 c_139 c_140 c_141 ex_168 hr_171_0 hr_171_1 hr_171_2)
              · skip
                refine lv_iload_n hx hb dX9_reckon_89 rfl (lv_at hl 0 rfl) ?_
                refine lv_iload_n hx hb dX9_reckon_90 rfl (lv_at hl 1 rfl) ?_
                refine lv_imul hx hb dX9_reckon_91 ?_
                refine lv_goto (tgt := 129) hx hb dX9_reckon_92 (by decide) ?_
                refine lv_topi (fun x_176 ex_176 => ?_)
                refine lv_istore (lv' := [(4, .int x_176), (3, .int x_8), (2, .int x_6), (0, .ref aX), (1, .int k)]) hx hb dX9_reckon_129 hl (by decide) rfl (fun ls hl => ?_)
                refine lv_aload_n hx hb dX9_reckon_131 rfl (lv_at hl 3 rfl) ?_
                refine lv_iload hx hb dX9_reckon_132 (lv_at hl 0 rfl) ?_
                refine k_wi (w2 := (fun u_180 : (Nat → Int32) × (Int32) => [(aX, .inr (6, [.int cn, .ref m0, .ref m1, .ref m2, .ref m3, .ref m4, .ref m5, .ref m6, .ref m7, .ref m8, .int mi, .int me, .ref m9, .int gn, .ref m10, .ref m11, .ref m12, .ref m13, .ref m14, .int op, .ref m15, .int u_180.2, .int mb, .int mv, .int mr, .int mf, .int md, .int sp, .int mw, .int it, .int mx, .int fa, .int ro, .int pp, .int fm])), (m12, .inl (cI, 25, .inl ba)), (m15, .inl (cI, 61, .inl u_180.1))])) (wr := [(m12, .inl (cI, 25, .inl ba))]) (ci := 6) (q0 := 0) (q := (RX9, TX9, 35)) (As := [.int x_176]) (rest := []) ⟨hx, hb, hml, hown, hts⟩ (c_X9_push l dC dI cI _ aX m0 m1 m2 m3 m4 m5 m6 m7 m8 m9 m10 m11 m12 m13 m14 m15 st cn op mx (tp - 2) fa ro pp fm sp it gn mi me mb mv mr mf md mw x_176 (q_X9_reckon_177 ho1 ho2 hb1 hb2 ht2 hr_3 c_4 ex_6 ex_8 c_9 c_74 c_137 c_138 c_139 c_140 ex_176) (q_X9_reckon_178 ho1 ho2 hb1 hb2 ht2 hr_3 c_4 ex_6 ex_8 c_9 c_74 c_137 c_138 c_139 c_140 ex_176)) (cwV 1 hts gX9_reckon_X9_push rfl rfl rfl (by decide +kernel) ⟨Nat.le_of_ble_eq_true rfl, Nat.le_of_ble_eq_true rfl⟩) hK hP hD hS hA [0, 2] [1] [1, 0, 2] rfl rfl (by decide) (fun _ => rfl) rfl rfl rfl hl.1 rfl (Nat.le_of_ble_eq_true rfl) dX9_reckon_134 ⟨Nat.zero_le _, Nat.zero_le _⟩ (fun r_179 u_180 H locs hr_179 hP hD hS => ?_)
                obtain ⟨st_181, tp_182⟩ := u_180
                have hP : va_P (dC, dI) vwCl [(aX, .inr (6, [.int cn, .ref m0, .ref m1, .ref m2, .ref m3, .ref m4, .ref m5, .ref m6, .ref m7, .ref m8, .int mi, .int me, .ref m9, .int gn, .ref m10, .ref m11, .ref m12, .ref m13, .ref m14, .int op, .ref m15, .int tp_182, .int mb, .int mv, .int mr, .int mf, .int md, .int sp, .int mw, .int it, .int mx, .int fa, .int ro, .int pp, .int fm])), (m12, .inl (cI, 25, .inl ba)), (m15, .inl (cI, 61, .inl st_181))] H := hP
                have hD : va_D A [(aX, .inr (6, [.int cn, .ref m0, .ref m1, .ref m2, .ref m3, .ref m4, .ref m5, .ref m6, .ref m7, .ref m8, .int mi, .int me, .ref m9, .int gn, .ref m10, .ref m11, .ref m12, .ref m13, .ref m14, .int op, .ref m15, .int tp_182, .int mb, .int mv, .int mr, .int mf, .int md, .int sp, .int mw, .int it, .int mx, .int fa, .int ro, .int pp, .int fm])), (m12, .inl (cI, 25, .inl ba)), (m15, .inl (cI, 61, .inl st_181))] := hD
                obtain ⟨hr_179_0, hr_179_1, hr_179_2⟩ := hr_179
                have hr_179_0 : r_179 = if (tp - 2) = 60 then 8 else 0 := hr_179_0
                have hr_179_1 : st_181 = if (tp - 2) = 60 then st else upd st (tp - 2).toNatClampNeg (sx x_176) := hr_179_1
                have hr_179_2 : tp_182 = if (tp - 2) = 60 then (tp - 2) else (tp - 2) + 1 := hr_179_2
                exact e_wi hx hb hr hlocks dX9_reckon_137 hK hS (st_181, tp_182) hP hD (q_X9_reckon_183 ho1 ho2 hb1 hb2 ht2 hr_3 c_4 ex_6 ex_8 c_9 c_74 c_137 c_138 c_139 c_140 ex_176 hr_179_0 hr_179_1 hr_179_2)
            · skip
              refine lv_iload_n hx hb dX9_reckon_78 rfl (lv_at hl 0 rfl) ?_
              refine lv_iload_n hx hb dX9_reckon_79 rfl (lv_at hl 1 rfl) ?_
              refine lv_isub hx hb dX9_reckon_80 ?_
              refine lv_goto (tgt := 129) hx hb dX9_reckon_81 (by decide) ?_
              refine lv_topi (fun x_184 ex_184 => ?_)
              refine lv_istore (lv' := [(4, .int x_184), (3, .int x_8), (2, .int x_6), (0, .ref aX), (1, .int k)]) hx hb dX9_reckon_129 hl (by decide) rfl (fun ls hl => ?_)
              refine lv_aload_n hx hb dX9_reckon_131 rfl (lv_at hl 3 rfl) ?_
              refine lv_iload hx hb dX9_reckon_132 (lv_at hl 0 rfl) ?_
              refine k_wi (w2 := (fun u_188 : (Nat → Int32) × (Int32) => [(aX, .inr (6, [.int cn, .ref m0, .ref m1, .ref m2, .ref m3, .ref m4, .ref m5, .ref m6, .ref m7, .ref m8, .int mi, .int me, .ref m9, .int gn, .ref m10, .ref m11, .ref m12, .ref m13, .ref m14, .int op, .ref m15, .int u_188.2, .int mb, .int mv, .int mr, .int mf, .int md, .int sp, .int mw, .int it, .int mx, .int fa, .int ro, .int pp, .int fm])), (m12, .inl (cI, 25, .inl ba)), (m15, .inl (cI, 61, .inl u_188.1))])) (wr := [(m12, .inl (cI, 25, .inl ba))]) (ci := 6) (q0 := 0) (q := (RX9, TX9, 35)) (As := [.int x_184]) (rest := []) ⟨hx, hb, hml, hown, hts⟩ (c_X9_push l dC dI cI _ aX m0 m1 m2 m3 m4 m5 m6 m7 m8 m9 m10 m11 m12 m13 m14 m15 st cn op mx (tp - 2) fa ro pp fm sp it gn mi me mb mv mr mf md mw x_184 (q_X9_reckon_185 ho1 ho2 hb1 hb2 ht2 hr_3 c_4 ex_6 ex_8 c_9 c_74 c_137 c_138 c_139 ex_184) (q_X9_reckon_186 ho1 ho2 hb1 hb2 ht2 hr_3 c_4 ex_6 ex_8 c_9 c_74 c_137 c_138 c_139 ex_184)) (cwV 1 hts gX9_reckon_X9_push rfl rfl rfl (by decide +kernel) ⟨Nat.le_of_ble_eq_true rfl, Nat.le_of_ble_eq_true rfl⟩) hK hP hD hS hA [0, 2] [1] [1, 0, 2] rfl rfl (by decide) (fun _ => rfl) rfl rfl rfl hl.1 rfl (Nat.le_of_ble_eq_true rfl) dX9_reckon_134 ⟨Nat.zero_le _, Nat.zero_le _⟩ (fun r_187 u_188 H locs hr_187 hP hD hS => ?_)
              obtain ⟨st_189, tp_190⟩ := u_188
              have hP : va_P (dC, dI) vwCl [(aX, .inr (6, [.int cn, .ref m0, .ref m1, .ref m2, .ref m3, .ref m4, .ref m5, .ref m6, .ref m7, .ref m8, .int mi, .int me, .ref m9, .int gn, .ref m10, .ref m11, .ref m12, .ref m13, .ref m14, .int op, .ref m15, .int tp_190, .int mb, .int mv, .int mr, .int mf, .int md, .int sp, .int mw, .int it, .int mx, .int fa, .int ro, .int pp, .int fm])), (m12, .inl (cI, 25, .inl ba)), (m15, .inl (cI, 61, .inl st_189))] H := hP
              have hD : va_D A [(aX, .inr (6, [.int cn, .ref m0, .ref m1, .ref m2, .ref m3, .ref m4, .ref m5, .ref m6, .ref m7, .ref m8, .int mi, .int me, .ref m9, .int gn, .ref m10, .ref m11, .ref m12, .ref m13, .ref m14, .int op, .ref m15, .int tp_190, .int mb, .int mv, .int mr, .int mf, .int md, .int sp, .int mw, .int it, .int mx, .int fa, .int ro, .int pp, .int fm])), (m12, .inl (cI, 25, .inl ba)), (m15, .inl (cI, 61, .inl st_189))] := hD
              obtain ⟨hr_187_0, hr_187_1, hr_187_2⟩ := hr_187
              have hr_187_0 : r_187 = if (tp - 2) = 60 then 8 else 0 := hr_187_0
              have hr_187_1 : st_189 = if (tp - 2) = 60 then st else upd st (tp - 2).toNatClampNeg (sx x_184) := hr_187_1
              have hr_187_2 : tp_190 = if (tp - 2) = 60 then (tp - 2) else (tp - 2) + 1 := hr_187_2
              exact e_wi hx hb hr hlocks dX9_reckon_137 hK hS (st_189, tp_190) hP hD (q_X9_reckon_191 ho1 ho2 hb1 hb2 ht2 hr_3 c_4 ex_6 ex_8 c_9 c_74 c_137 c_138 c_139 ex_184 hr_187_0 hr_187_1 hr_187_2)
          · skip
            refine lv_iload_n hx hb dX9_reckon_67 rfl (lv_at hl 0 rfl) ?_
            refine lv_iload_n hx hb dX9_reckon_68 rfl (lv_at hl 1 rfl) ?_
            refine lv_iadd hx hb dX9_reckon_69 ?_
            refine lv_goto (tgt := 129) hx hb dX9_reckon_70 (by decide) ?_
            refine lv_topi (fun x_192 ex_192 => ?_)
            refine lv_istore (lv' := [(4, .int x_192), (3, .int x_8), (2, .int x_6), (0, .ref aX), (1, .int k)]) hx hb dX9_reckon_129 hl (by decide) rfl (fun ls hl => ?_)
            refine lv_aload_n hx hb dX9_reckon_131 rfl (lv_at hl 3 rfl) ?_
            refine lv_iload hx hb dX9_reckon_132 (lv_at hl 0 rfl) ?_
            refine k_wi (w2 := (fun u_196 : (Nat → Int32) × (Int32) => [(aX, .inr (6, [.int cn, .ref m0, .ref m1, .ref m2, .ref m3, .ref m4, .ref m5, .ref m6, .ref m7, .ref m8, .int mi, .int me, .ref m9, .int gn, .ref m10, .ref m11, .ref m12, .ref m13, .ref m14, .int op, .ref m15, .int u_196.2, .int mb, .int mv, .int mr, .int mf, .int md, .int sp, .int mw, .int it, .int mx, .int fa, .int ro, .int pp, .int fm])), (m12, .inl (cI, 25, .inl ba)), (m15, .inl (cI, 61, .inl u_196.1))])) (wr := [(m12, .inl (cI, 25, .inl ba))]) (ci := 6) (q0 := 0) (q := (RX9, TX9, 35)) (As := [.int x_192]) (rest := []) ⟨hx, hb, hml, hown, hts⟩ (c_X9_push l dC dI cI _ aX m0 m1 m2 m3 m4 m5 m6 m7 m8 m9 m10 m11 m12 m13 m14 m15 st cn op mx (tp - 2) fa ro pp fm sp it gn mi me mb mv mr mf md mw x_192 (q_X9_reckon_193 ho1 ho2 hb1 hb2 ht2 hr_3 c_4 ex_6 ex_8 c_9 c_74 c_137 c_138 ex_192) (q_X9_reckon_194 ho1 ho2 hb1 hb2 ht2 hr_3 c_4 ex_6 ex_8 c_9 c_74 c_137 c_138 ex_192)) (cwV 1 hts gX9_reckon_X9_push rfl rfl rfl (by decide +kernel) ⟨Nat.le_of_ble_eq_true rfl, Nat.le_of_ble_eq_true rfl⟩) hK hP hD hS hA [0, 2] [1] [1, 0, 2] rfl rfl (by decide) (fun _ => rfl) rfl rfl rfl hl.1 rfl (Nat.le_of_ble_eq_true rfl) dX9_reckon_134 ⟨Nat.zero_le _, Nat.zero_le _⟩ (fun r_195 u_196 H locs hr_195 hP hD hS => ?_)
            obtain ⟨st_197, tp_198⟩ := u_196
            have hP : va_P (dC, dI) vwCl [(aX, .inr (6, [.int cn, .ref m0, .ref m1, .ref m2, .ref m3, .ref m4, .ref m5, .ref m6, .ref m7, .ref m8, .int mi, .int me, .ref m9, .int gn, .ref m10, .ref m11, .ref m12, .ref m13, .ref m14, .int op, .ref m15, .int tp_198, .int mb, .int mv, .int mr, .int mf, .int md, .int sp, .int mw, .int it, .int mx, .int fa, .int ro, .int pp, .int fm])), (m12, .inl (cI, 25, .inl ba)), (m15, .inl (cI, 61, .inl st_197))] H := hP
            have hD : va_D A [(aX, .inr (6, [.int cn, .ref m0, .ref m1, .ref m2, .ref m3, .ref m4, .ref m5, .ref m6, .ref m7, .ref m8, .int mi, .int me, .ref m9, .int gn, .ref m10, .ref m11, .ref m12, .ref m13, .ref m14, .int op, .ref m15, .int tp_198, .int mb, .int mv, .int mr, .int mf, .int md, .int sp, .int mw, .int it, .int mx, .int fa, .int ro, .int pp, .int fm])), (m12, .inl (cI, 25, .inl ba)), (m15, .inl (cI, 61, .inl st_197))] := hD
            obtain ⟨hr_195_0, hr_195_1, hr_195_2⟩ := hr_195
            have hr_195_0 : r_195 = if (tp - 2) = 60 then 8 else 0 := hr_195_0
            have hr_195_1 : st_197 = if (tp - 2) = 60 then st else upd st (tp - 2).toNatClampNeg (sx x_192) := hr_195_1
            have hr_195_2 : tp_198 = if (tp - 2) = 60 then (tp - 2) else (tp - 2) + 1 := hr_195_2
            exact e_wi hx hb hr hlocks dX9_reckon_137 hK hS (st_197, tp_198) hP hD (q_X9_reckon_199 ho1 ho2 hb1 hb2 ht2 hr_3 c_4 ex_6 ex_8 c_9 c_74 c_137 c_138 ex_192 hr_195_0 hr_195_1 hr_195_2)
        · skip
          refine lv_iconst (v := 3) hx hb dX9_reckon_50 (by decide) ?_
          exact e_wi hx hb hr hlocks dX9_reckon_51 hK hS (st, tp) hP hD (q_X9_reckon_200 ho1 ho2 hb1 hb2 ht2 hr_3 c_4 ex_6 ex_8 c_9 c_74 c_137)
  · skip
    refine lv_iconst (v := 1) hx hb dX9_reckon_8 (by decide) ?_
    exact e_wi hx hb hr hlocks dX9_reckon_9 hK hS (st, tp) hP hD (q_X9_reckon_201 ho1 ho2 hb1 hb2 ht2 hr_3 c_4)

theorem q_X9_onUser_1 {ur : Nat → Int32} {uc : Nat → Int32} {ba : Nat → Int32} {op : Int32} {tp : Int32} (ho1 : 1 ≤ op) (ho2 : op ≤ 25) (hb1 : 0 ≤ ba (op - 1).toNatClampNeg) (hb2 : ba (op - 1).toNatClampNeg ≤ tp) (ht2 : tp ≤ 60) (hu1 : ∀ j, 0 ≤ uc j) (hu2 : ∀ j, ur j ≤ 10) : 1 ≤ op := by
  (try subst_vars) <;> grind
theorem q_X9_onUser_2 {ur : Nat → Int32} {uc : Nat → Int32} {ba : Nat → Int32} {op : Int32} {tp : Int32} (ho1 : 1 ≤ op) (ho2 : op ≤ 25) (hb1 : 0 ≤ ba (op - 1).toNatClampNeg) (hb2 : ba (op - 1).toNatClampNeg ≤ tp) (ht2 : tp ≤ 60) (hu1 : ∀ j, 0 ≤ uc j) (hu2 : ∀ j, ur j ≤ 10) : op ≤ 25 := by
  (try subst_vars) <;> grind
theorem q_X9_onUser_7 {ur : Nat → Int32} {uc : Nat → Int32} {ba : Nat → Int32} {op : Int32} {tp : Int32} {r : Int32} {r_3 : Int32} {r_5 : Int32} (ho1 : 1 ≤ op) (ho2 : op ≤ 25) (hb1 : 0 ≤ ba (op - 1).toNatClampNeg) (hb2 : ba (op - 1).toNatClampNeg ≤ tp) (ht2 : tp ≤ 60) (hu1 : ∀ j, 0 ≤ uc j) (hu2 : ∀ j, ur j ≤ 10) (hr_3 : r_3 = tp - ba (op - 1).toNatClampNeg) (c_4 : 1 ≤ r_3) (hr_5 : r_5 = if (0 : Int32) ≤ r ∧ r ≤ (3 : Int32) then 1 else 0) (c_6 : ¬ r_5 = 0) : vp_in r 4 := by
  exact in_of (c := 4) (by decide) (by (try subst_vars) <;> grind) (by (try subst_vars) <;> grind)
theorem q_X9_onUser_8 {ur : Nat → Int32} {uc : Nat → Int32} {ba : Nat → Int32} {op : Int32} {tp : Int32} {r : Int32} {r_3 : Int32} {r_5 : Int32} (ho1 : 1 ≤ op) (ho2 : op ≤ 25) (hb1 : 0 ≤ ba (op - 1).toNatClampNeg) (hb2 : ba (op - 1).toNatClampNeg ≤ tp) (ht2 : tp ≤ 60) (hu1 : ∀ j, 0 ≤ uc j) (hu2 : ∀ j, ur j ≤ 10) (hr_3 : r_3 = tp - ba (op - 1).toNatClampNeg) (c_4 : 1 ≤ r_3) (hr_5 : r_5 = if (0 : Int32) ≤ r ∧ r ≤ (3 : Int32) then 1 else 0) (c_6 : ¬ r_5 = 0) : vp_in r 4 := by
  exact in_of (c := 4) (by decide) (by (try subst_vars) <;> grind) (by (try subst_vars) <;> grind)
theorem q_X9_onUser_12 {ur : Nat → Int32} {uc : Nat → Int32} {ba : Nat → Int32} {op : Int32} {tp : Int32} {r : Int32} {r_3 : Int32} {r_5 : Int32} (ho1 : 1 ≤ op) (ho2 : op ≤ 25) (hb1 : 0 ≤ ba (op - 1).toNatClampNeg) (hb2 : ba (op - 1).toNatClampNeg ≤ tp) (ht2 : tp ≤ 60) (hu1 : ∀ j, 0 ≤ uc j) (hu2 : ∀ j, ur j ≤ 10) (hr_3 : r_3 = tp - ba (op - 1).toNatClampNeg) (c_4 : 1 ≤ r_3) (hr_5 : r_5 = if (0 : Int32) ≤ r ∧ r ≤ (3 : Int32) then 1 else 0) (c_6 : ¬ r_5 = 0) (c_9 : (ur r.toNatClampNeg) ≤ (uc r.toNatClampNeg)) : 0 ≤ (tp - 1) := by
  (try subst_vars) <;> grind
theorem q_X9_onUser_13 {ur : Nat → Int32} {uc : Nat → Int32} {ba : Nat → Int32} {op : Int32} {tp : Int32} {r : Int32} {r_3 : Int32} {r_5 : Int32} (ho1 : 1 ≤ op) (ho2 : op ≤ 25) (hb1 : 0 ≤ ba (op - 1).toNatClampNeg) (hb2 : ba (op - 1).toNatClampNeg ≤ tp) (ht2 : tp ≤ 60) (hu1 : ∀ j, 0 ≤ uc j) (hu2 : ∀ j, ur j ≤ 10) (hr_3 : r_3 = tp - ba (op - 1).toNatClampNeg) (c_4 : 1 ≤ r_3) (hr_5 : r_5 = if (0 : Int32) ≤ r ∧ r ≤ (3 : Int32) then 1 else 0) (c_6 : ¬ r_5 = 0) (c_9 : (ur r.toNatClampNeg) ≤ (uc r.toNatClampNeg)) : (tp - 1) ≤ 60 := by
  (try subst_vars) <;> grind
theorem q_X9_onUser_18 {ur : Nat → Int32} {uc : Nat → Int32} {un : Nat → Int32} {ba : Nat → Int32} {st : Nat → Int32} {op : Int32} {tp : Int32} {r : Int32} {r_3 : Int32} {r_5 : Int32} {st_16 : Nat → Int32} {tp_17 : Int32} {r_14 : Int32} (ho1 : 1 ≤ op) (ho2 : op ≤ 25) (hb1 : 0 ≤ ba (op - 1).toNatClampNeg) (hb2 : ba (op - 1).toNatClampNeg ≤ tp) (ht2 : tp ≤ 60) (hu1 : ∀ j, 0 ≤ uc j) (hu2 : ∀ j, ur j ≤ 10) (hr_3 : r_3 = tp - ba (op - 1).toNatClampNeg) (c_4 : 1 ≤ r_3) (hr_5 : r_5 = if (0 : Int32) ≤ r ∧ r ≤ (3 : Int32) then 1 else 0) (c_6 : ¬ r_5 = 0) (c_9 : (ur r.toNatClampNeg) ≤ (uc r.toNatClampNeg)) (hr_14_0 : r_14 = if (tp - 1) = 60 then 8 else 0) (hr_14_1 : st_16 = if (tp - 1) = 60 then st else upd st (tp - 1).toNatClampNeg (sx (0 : Int32))) (hr_14_2 : tp_17 = if (tp - 1) = 60 then (tp - 1) else (tp - 1) + 1) : (r_14 = (f_tou r op tp ba st ur uc un).1) ∧ (st_16 = (f_tou r op tp ba st ur uc un).2.1) ∧ (tp_17 = tp) ∧ (uc = (f_tou r op tp ba st ur uc un).2.2.1) ∧ (un = (f_tou r op tp ba st ur uc un).2.2.2) := by
  (try subst_vars) <;> (try simp only [upd_s, upd_upd, sb1p, as1] at *) <;> simp only [f_tou, mc10 r] <;> grind
theorem q_X9_onUser_20 {ur : Nat → Int32} {uc : Nat → Int32} {ba : Nat → Int32} {op : Int32} {tp : Int32} {r : Int32} {r_3 : Int32} {r_5 : Int32} (ho1 : 1 ≤ op) (ho2 : op ≤ 25) (hb1 : 0 ≤ ba (op - 1).toNatClampNeg) (hb2 : ba (op - 1).toNatClampNeg ≤ tp) (ht2 : tp ≤ 60) (hu1 : ∀ j, 0 ≤ uc j) (hu2 : ∀ j, ur j ≤ 10) (hr_3 : r_3 = tp - ba (op - 1).toNatClampNeg) (c_4 : 1 ≤ r_3) (hr_5 : r_5 = if (0 : Int32) ≤ r ∧ r ≤ (3 : Int32) then 1 else 0) (c_6 : ¬ r_5 = 0) (c_9 : ¬ (ur r.toNatClampNeg) ≤ (uc r.toNatClampNeg)) : vp_in r 4 := by
  exact in_of (c := 4) (by decide) (by (try subst_vars) <;> grind) (by (try subst_vars) <;> grind)
theorem q_X9_onUser_21 {ur : Nat → Int32} {uc : Nat → Int32} {ba : Nat → Int32} {op : Int32} {tp : Int32} {r : Int32} {r_3 : Int32} {r_5 : Int32} (ho1 : 1 ≤ op) (ho2 : op ≤ 25) (hb1 : 0 ≤ ba (op - 1).toNatClampNeg) (hb2 : ba (op - 1).toNatClampNeg ≤ tp) (ht2 : tp ≤ 60) (hu1 : ∀ j, 0 ≤ uc j) (hu2 : ∀ j, ur j ≤ 10) (hr_3 : r_3 = tp - ba (op - 1).toNatClampNeg) (c_4 : 1 ≤ r_3) (hr_5 : r_5 = if (0 : Int32) ≤ r ∧ r ≤ (3 : Int32) then 1 else 0) (c_6 : ¬ r_5 = 0) (c_9 : ¬ (ur r.toNatClampNeg) ≤ (uc r.toNatClampNeg)) : vp_in (tp - 1) 61 := by
  exact in_of (c := 61) (by decide) (by (try subst_vars) <;> grind) (by (try subst_vars) <;> grind)
theorem q_X9_onUser_22 {ur : Nat → Int32} {uc : Nat → Int32} {ba : Nat → Int32} {op : Int32} {tp : Int32} {r : Int32} {r_3 : Int32} {r_5 : Int32} (ho1 : 1 ≤ op) (ho2 : op ≤ 25) (hb1 : 0 ≤ ba (op - 1).toNatClampNeg) (hb2 : ba (op - 1).toNatClampNeg ≤ tp) (ht2 : tp ≤ 60) (hu1 : ∀ j, 0 ≤ uc j) (hu2 : ∀ j, ur j ≤ 10) (hr_3 : r_3 = tp - ba (op - 1).toNatClampNeg) (c_4 : 1 ≤ r_3) (hr_5 : r_5 = if (0 : Int32) ≤ r ∧ r ≤ (3 : Int32) then 1 else 0) (c_6 : ¬ r_5 = 0) (c_9 : ¬ (ur r.toNatClampNeg) ≤ (uc r.toNatClampNeg)) : vp_in ((10 * r) + (uc r.toNatClampNeg)) 40 := by
  exact in_of (c := 40) (by decide) (by (try subst_vars) <;> grind) (by (try subst_vars) <;> grind)
theorem q_X9_onUser_23 {ur : Nat → Int32} {uc : Nat → Int32} {ba : Nat → Int32} {op : Int32} {tp : Int32} {r : Int32} {r_3 : Int32} {r_5 : Int32} (ho1 : 1 ≤ op) (ho2 : op ≤ 25) (hb1 : 0 ≤ ba (op - 1).toNatClampNeg) (hb2 : ba (op - 1).toNatClampNeg ≤ tp) (ht2 : tp ≤ 60) (hu1 : ∀ j, 0 ≤ uc j) (hu2 : ∀ j, ur j ≤ 10) (hr_3 : r_3 = tp - ba (op - 1).toNatClampNeg) (c_4 : 1 ≤ r_3) (hr_5 : r_5 = if (0 : Int32) ≤ r ∧ r ≤ (3 : Int32) then 1 else 0) (c_6 : ¬ r_5 = 0) (c_9 : ¬ (ur r.toNatClampNeg) ≤ (uc r.toNatClampNeg)) : vp_in r 4 := by
  exact in_of (c := 4) (by decide) (by (try subst_vars) <;> grind) (by (try subst_vars) <;> grind)
theorem q_X9_onUser_24 {ur : Nat → Int32} {uc : Nat → Int32} {ba : Nat → Int32} {op : Int32} {tp : Int32} {r : Int32} {r_3 : Int32} {r_5 : Int32} (ho1 : 1 ≤ op) (ho2 : op ≤ 25) (hb1 : 0 ≤ ba (op - 1).toNatClampNeg) (hb2 : ba (op - 1).toNatClampNeg ≤ tp) (ht2 : tp ≤ 60) (hu1 : ∀ j, 0 ≤ uc j) (hu2 : ∀ j, ur j ≤ 10) (hr_3 : r_3 = tp - ba (op - 1).toNatClampNeg) (c_4 : 1 ≤ r_3) (hr_5 : r_5 = if (0 : Int32) ≤ r ∧ r ≤ (3 : Int32) then 1 else 0) (c_6 : ¬ r_5 = 0) (c_9 : ¬ (ur r.toNatClampNeg) ≤ (uc r.toNatClampNeg)) : vp_in r 4 := by
  exact in_of (c := 4) (by decide) (by (try subst_vars) <;> grind) (by (try subst_vars) <;> grind)
theorem q_X9_onUser_26 {ur : Nat → Int32} {uc : Nat → Int32} {ba : Nat → Int32} {op : Int32} {tp : Int32} {r : Int32} {r_3 : Int32} {r_5 : Int32} (ho1 : 1 ≤ op) (ho2 : op ≤ 25) (hb1 : 0 ≤ ba (op - 1).toNatClampNeg) (hb2 : ba (op - 1).toNatClampNeg ≤ tp) (ht2 : tp ≤ 60) (hu1 : ∀ j, 0 ≤ uc j) (hu2 : ∀ j, ur j ≤ 10) (hr_3 : r_3 = tp - ba (op - 1).toNatClampNeg) (c_4 : 1 ≤ r_3) (hr_5 : r_5 = if (0 : Int32) ≤ r ∧ r ≤ (3 : Int32) then 1 else 0) (c_6 : ¬ r_5 = 0) (c_9 : ¬ (ur r.toNatClampNeg) ≤ (uc r.toNatClampNeg)) : 0 ≤ (tp - 1) := by
  (try subst_vars) <;> grind
theorem q_X9_onUser_27 {ur : Nat → Int32} {uc : Nat → Int32} {ba : Nat → Int32} {op : Int32} {tp : Int32} {r : Int32} {r_3 : Int32} {r_5 : Int32} (ho1 : 1 ≤ op) (ho2 : op ≤ 25) (hb1 : 0 ≤ ba (op - 1).toNatClampNeg) (hb2 : ba (op - 1).toNatClampNeg ≤ tp) (ht2 : tp ≤ 60) (hu1 : ∀ j, 0 ≤ uc j) (hu2 : ∀ j, ur j ≤ 10) (hr_3 : r_3 = tp - ba (op - 1).toNatClampNeg) (c_4 : 1 ≤ r_3) (hr_5 : r_5 = if (0 : Int32) ≤ r ∧ r ≤ (3 : Int32) then 1 else 0) (c_6 : ¬ r_5 = 0) (c_9 : ¬ (ur r.toNatClampNeg) ≤ (uc r.toNatClampNeg)) : (tp - 1) ≤ 60 := by
  (try subst_vars) <;> grind
theorem q_X9_onUser_32 {ur : Nat → Int32} {uc : Nat → Int32} {un : Nat → Int32} {ba : Nat → Int32} {st : Nat → Int32} {op : Int32} {tp : Int32} {r : Int32} {r_3 : Int32} {r_5 : Int32} {st_30 : Nat → Int32} {tp_31 : Int32} {r_28 : Int32} (ho1 : 1 ≤ op) (ho2 : op ≤ 25) (hb1 : 0 ≤ ba (op - 1).toNatClampNeg) (hb2 : ba (op - 1).toNatClampNeg ≤ tp) (ht2 : tp ≤ 60) (hu1 : ∀ j, 0 ≤ uc j) (hu2 : ∀ j, ur j ≤ 10) (hr_3 : r_3 = tp - ba (op - 1).toNatClampNeg) (c_4 : 1 ≤ r_3) (hr_5 : r_5 = if (0 : Int32) ≤ r ∧ r ≤ (3 : Int32) then 1 else 0) (c_6 : ¬ r_5 = 0) (c_9 : ¬ (ur r.toNatClampNeg) ≤ (uc r.toNatClampNeg)) (hr_28_0 : r_28 = if (tp - 1) = 60 then 8 else 0) (hr_28_1 : st_30 = if (tp - 1) = 60 then st else upd st (tp - 1).toNatClampNeg (sx (1 : Int32))) (hr_28_2 : tp_31 = if (tp - 1) = 60 then (tp - 1) else (tp - 1) + 1) : (r_28 = (f_tou r op tp ba st ur uc un).1) ∧ (st_30 = (f_tou r op tp ba st ur uc un).2.1) ∧ (tp_31 = tp) ∧ ((upd uc r.toNatClampNeg ((uc r.toNatClampNeg) + 1)) = (f_tou r op tp ba st ur uc un).2.2.1) ∧ ((upd un ((10 * r) + (uc r.toNatClampNeg)).toNatClampNeg (st (tp - 1).toNatClampNeg)) = (f_tou r op tp ba st ur uc un).2.2.2) := by
  (try subst_vars) <;> (try simp only [upd_s, upd_upd, sb1p, as1] at *) <;> simp only [f_tou, mc10 r] <;> grind
theorem q_X9_onUser_33 {ur : Nat → Int32} {uc : Nat → Int32} {un : Nat → Int32} {ba : Nat → Int32} {st : Nat → Int32} {op : Int32} {tp : Int32} {r : Int32} {r_3 : Int32} {r_5 : Int32} (ho1 : 1 ≤ op) (ho2 : op ≤ 25) (hb1 : 0 ≤ ba (op - 1).toNatClampNeg) (hb2 : ba (op - 1).toNatClampNeg ≤ tp) (ht2 : tp ≤ 60) (hu1 : ∀ j, 0 ≤ uc j) (hu2 : ∀ j, ur j ≤ 10) (hr_3 : r_3 = tp - ba (op - 1).toNatClampNeg) (c_4 : 1 ≤ r_3) (hr_5 : r_5 = if (0 : Int32) ≤ r ∧ r ≤ (3 : Int32) then 1 else 0) (c_6 : r_5 = 0) : ((10 : Int32) = (f_tou r op tp ba st ur uc un).1) ∧ (st = (f_tou r op tp ba st ur uc un).2.1) ∧ (tp = tp) ∧ (uc = (f_tou r op tp ba st ur uc un).2.2.1) ∧ (un = (f_tou r op tp ba st ur uc un).2.2.2) := by
  (try subst_vars) <;> (try simp only [upd_s, upd_upd, sb1p, as1] at *) <;> simp only [f_tou, mc10 r] <;> grind
theorem q_X9_onUser_34 {ur : Nat → Int32} {uc : Nat → Int32} {un : Nat → Int32} {ba : Nat → Int32} {st : Nat → Int32} {op : Int32} {tp : Int32} {r : Int32} {r_3 : Int32} (ho1 : 1 ≤ op) (ho2 : op ≤ 25) (hb1 : 0 ≤ ba (op - 1).toNatClampNeg) (hb2 : ba (op - 1).toNatClampNeg ≤ tp) (ht2 : tp ≤ 60) (hu1 : ∀ j, 0 ≤ uc j) (hu2 : ∀ j, ur j ≤ 10) (hr_3 : r_3 = tp - ba (op - 1).toNatClampNeg) (c_4 : ¬ 1 ≤ r_3) : ((1 : Int32) = (f_tou r op tp ba st ur uc un).1) ∧ (st = (f_tou r op tp ba st ur uc un).2.1) ∧ (tp = tp) ∧ (uc = (f_tou r op tp ba st ur uc un).2.2.1) ∧ (un = (f_tou r op tp ba st ur uc un).2.2.2) := by
  (try subst_vars) <;> (try simp only [upd_s, upd_upd, sb1p, as1] at *) <;> simp only [f_tou, mc10 r] <;> grind
set_option maxHeartbeats 4000000 in
set_option maxRecDepth 100000 in
theorem c_X9_onUser (l : Launch) (dC : Nat → ClassId) (dI : Nat → Nat → Nat) (cI : ClassId) (sz : Nat) (aX : Nat) (m0 : Nat) (m1 : Nat) (m2 : Nat) (m3 : Nat) (m4 : Nat) (m5 : Nat) (m6 : Nat) (m7 : Nat) (m8 : Nat) (m9 : Nat) (m10 : Nat) (m11 : Nat) (m12 : Nat) (m13 : Nat) (m14 : Nat) (m15 : Nat) (ur : Nat → Int32) (uc : Nat → Int32) (un : Nat → Int32) (ba : Nat → Int32) (st : Nat → Int32) (cn : Int32) (op : Int32) (mx : Int32) (tp : Int32) (fa : Int32) (ro : Int32) (pp : Int32) (fm : Int32) (sp : Int32) (it : Int32) (gn : Int32) (mi : Int32) (me : Int32) (mb : Int32) (mv : Int32) (mr : Int32) (mf : Int32) (md : Int32) (mw : Int32) (r : Int32) (ho1 : 1 ≤ op) (ho2 : op ≤ 25) (hb1 : 0 ≤ ba (op - 1).toNatClampNeg) (hb2 : ba (op - 1).toNatClampNeg ≤ tp) (ht2 : tp ≤ 60) (hu1 : ∀ j, 0 ≤ uc j) (hu2 : ∀ j, ur j ≤ 10) : mWi l yX9_onUser wsX9_onUser ({ frames := 1, cells := 0, slots := 0, locals := 22 }) [.ref aX, .int r] (dC, dI) [(cI, .int)] [(aX, .inr (6, [.int cn, .ref m0, .ref m1, .ref m2, .ref m3, .ref m4, .ref m5, .ref m6, .ref m7, .ref m8, .int mi, .int me, .ref m9, .int gn, .ref m10, .ref m11, .ref m12, .ref m13, .ref m14, .int op, .ref m15, .int tp, .int mb, .int mv, .int mr, .int mf, .int md, .int sp, .int mw, .int it, .int mx, .int fa, .int ro, .int pp, .int fm])), (m6, .inl (cI, 4, .inl ur)), (m7, .inl (cI, 4, .inl uc)), (m8, .inl (cI, 40, .inl un)), (m12, .inl (cI, 25, .inl ba)), (m15, .inl (cI, 61, .inl st))] sz (fun (v : Int32) (u : (Nat → Int32) × (Int32) × (Nat → Int32) × (Nat → Int32)) => (v = (f_tou r op tp ba st ur uc un).1) ∧ (u.1 = (f_tou r op tp ba st ur uc un).2.1) ∧ (u.2.1 = tp) ∧ (u.2.2.1 = (f_tou r op tp ba st ur uc un).2.2.1) ∧ (u.2.2.2 = (f_tou r op tp ba st ur uc un).2.2.2)) (fun u : (Nat → Int32) × (Int32) × (Nat → Int32) × (Nat → Int32) => [(aX, .inr (6, [.int cn, .ref m0, .ref m1, .ref m2, .ref m3, .ref m4, .ref m5, .ref m6, .ref m7, .ref m8, .int mi, .int me, .ref m9, .int gn, .ref m10, .ref m11, .ref m12, .ref m13, .ref m14, .int op, .ref m15, .int u.2.1, .int mb, .int mv, .int mr, .int mf, .int md, .int sp, .int mw, .int it, .int mx, .int fa, .int ro, .int pp, .int fm])), (m6, .inl (cI, 4, .inl ur)), (m7, .inl (cI, 4, .inl u.2.2.1)), (m8, .inl (cI, 40, .inl u.2.2.2)), (m12, .inl (cI, 25, .inl ba)), (m15, .inl (cI, 61, .inl u.1))]) := by
  refine o_wi (cc := cX9_onUser) (maxL := 3) (ret := (some .int)) (by decide) rfl (Nat.le_of_ble_eq_true rfl) ?_
  intro p e s m below meth c ls A hx hb hr hml hts hown hlocks hP hK hD hS hA hl
  have hown : s.vm.findClass RX9 = some m.cls := hown
  have hl : lv_has ls 3 [(0, .ref aX), (1, .int r)] := hl
  have k_1 := hts (.fieldLink RX9 31 "ZRoutinesModel" "users" "[I") (List.mem_of_getElem? (i := 1) rfl)
  have k_2 := hts (.fieldLink RX9 28 "ZRoutinesModel" "rooms" "[I") (List.mem_of_getElem? (i := 2) rfl)
  have k_3 := hts (.fieldLink RX9 84 "ZRoutinesModel" "top" "I") (List.mem_of_getElem? (i := 3) rfl)
  have k_4 := hts (.fieldLink RX9 34 "ZRoutinesModel" "user" "[I") (List.mem_of_getElem? (i := 4) rfl)
  have k_5 := hts (.fieldLink RX9 62 "ZRoutinesModel" "stack" "[I") (List.mem_of_getElem? (i := 5) rfl)
  have i_X9 : ∀ w ∈ u_ws RX9 TX9 35, w ∈ wsX9_onUser := fun _ h => List.mem_cons_of_mem _ (List.mem_append_right _ h)
  refine lv_aload_n hx hb dX9_onUser_0 rfl (lv_at hl 0 rfl) ?_
  refine k_rd (ci := 6) (q0 := 0) (q := (RX9, TX9, 35)) (As := []) (rest := []) ⟨hx, hb, hml, hown, hts⟩ (c_X9_has l dC dI cI aX m0 m1 m2 m3 m4 m5 m6 m7 m8 m9 m10 m11 m12 m13 m14 m15 ba cn op mx tp fa ro pp fm sp it gn mi me mb mv mr mf md mw (q_X9_onUser_1 ho1 ho2 hb1 hb2 ht2 hu1 hu2) (q_X9_onUser_2 ho1 ho2 hb1 hb2 ht2 hu1 hu2)) (cwV 0 hts gX9_onUser_X9_has rfl rfl rfl (by decide +kernel) ⟨Nat.le_of_ble_eq_true rfl, Nat.le_of_ble_eq_true rfl⟩) hK hP [0, 4] rfl rfl rfl rfl hl.1 rfl (Nat.le_of_ble_eq_true rfl) dX9_onUser_1 ⟨Nat.zero_le _, Nat.zero_le _⟩ (fun r_3 hr_3 => ?_)
  have hr_3 : r_3 = tp - ba (op - 1).toNatClampNeg := hr_3
  refine lv_iconst (v := 1) hx hb dX9_onUser_4 (by decide) ?_
  refine lv_icmp_ge (tgt := 10) hx hb dX9_onUser_5 (by decide) (fun c_4 => ?_) (fun c_4 => ?_)
  · skip
    refine lv_iload_n hx hb dX9_onUser_10 rfl (lv_at hl 1 rfl) ?_
    refine lv_iconst (v := 0) hx hb dX9_onUser_11 (by decide) ?_
    refine lv_iconst (v := 3) hx hb dX9_onUser_12 (by decide) ?_
    refine k_rs (As := [.int r, .int 0, .int 3]) (rest := []) ⟨hx, hb, hml, hown, hts⟩ (c_X9_in l dC dI cI r 0 3 ) (va_cwS 3 hts gX9_onUser_X9_in rfl rfl rfl (by decide +kernel) ⟨Nat.le_of_ble_eq_true rfl, Nat.le_of_ble_eq_true rfl⟩) hK hP [] rfl rfl hl.1 rfl (Nat.le_of_ble_eq_true rfl) dX9_onUser_13 ⟨Nat.zero_le _, Nat.zero_le _⟩ (fun r_5 hr_5 => ?_)
    have hr_5 : r_5 = if (0 : Int32) ≤ r ∧ r ≤ (3 : Int32) then 1 else 0 := hr_5
    refine lv_if_ne (tgt := 22) hx hb dX9_onUser_16 (by decide) (fun c_6 => ?_) (fun c_6 => ?_)
    · skip
      refine lv_aload_n hx hb dX9_onUser_22 rfl (lv_at hl 0 rfl) ?_
      refine va_get (D := (dC, dI)) (ci := 6) (v := .ref m7) (C := RX9) (T := TX9) (N := 35) hx hb hts i_X9 hown hK hP 0 rfl rfl 8 (by decide) k_1 (fun _ h9 => h9) rfl dX9_onUser_23 ?_
      refine lv_iload_n hx hb dX9_onUser_26 rfl (lv_at hl 1 rfl) ?_
      refine va_iald hx hb hK hP 2 0 rfl rfl (q_X9_onUser_7 ho1 ho2 hb1 hb2 ht2 hu1 hu2 hr_3 c_4 hr_5 c_6) dX9_onUser_27 ?_
      refine lv_aload_n hx hb dX9_onUser_28 rfl (lv_at hl 0 rfl) ?_
      refine va_get (D := (dC, dI)) (ci := 6) (v := .ref m6) (C := RX9) (T := TX9) (N := 35) hx hb hts i_X9 hown hK hP 0 rfl rfl 7 (by decide) k_2 (fun _ h9 => h9) rfl dX9_onUser_29 ?_
      refine lv_iload_n hx hb dX9_onUser_32 rfl (lv_at hl 1 rfl) ?_
      refine va_iald hx hb hK hP 1 0 rfl rfl (q_X9_onUser_8 ho1 ho2 hb1 hb2 ht2 hu1 hu2 hr_3 c_4 hr_5 c_6) dX9_onUser_33 ?_
      refine lv_icmp_ge (tgt := 41) hx hb dX9_onUser_34 (by decide) (fun c_9 => ?_) (fun c_9 => ?_)
      · skip
        refine lv_iconst (v := 0) hx hb dX9_onUser_41 (by decide) ?_
        refine lv_istore_n (lv' := [(2, .int 0), (0, .ref aX), (1, .int r)]) hx hb dX9_onUser_42 rfl hl (by decide) rfl (fun ls hl => ?_)
        refine lv_aload_n hx hb dX9_onUser_43 rfl (lv_at hl 1 rfl) ?_
        refine lv_dup hx hb dX9_onUser_44 rfl ?_
        refine va_get (D := (dC, dI)) (ci := 6) (v := .int tp) (C := RX9) (T := TX9) (N := 35) hx hb hts i_X9 hown hK hP 0 rfl rfl 21 (by decide) k_3 (fun _ h9 => h9) rfl dX9_onUser_45 ?_
        refine lv_iconst (v := 1) hx hb dX9_onUser_48 (by decide) ?_
        refine lv_isub hx hb dX9_onUser_49 ?_
        refine va_put (D := (dC, dI)) (ci := 6) (v := .int (tp - 1)) (ty := .int) (C := RX9) (T := TX9) (N := 35) hx hb hts i_X9 tyX9 tyX9_ok nmX9 hown hK hP hD hS 0 rfl rfl 21 (by decide) k_3 (fun _ h9 => h9) rfl (by decide +kernel) rfl rfl (Nat.le_of_ble_eq_true rfl) dX9_onUser_50 (fun H locs hP hD hS => ?_)
        have hP : va_P (dC, dI) vwCl [(aX, .inr (6, [.int cn, .ref m0, .ref m1, .ref m2, .ref m3, .ref m4, .ref m5, .ref m6, .ref m7, .ref m8, .int mi, .int me, .ref m9, .int gn, .ref m10, .ref m11, .ref m12, .ref m13, .ref m14, .int op, .ref m15, .int (tp - 1), .int mb, .int mv, .int mr, .int mf, .int md, .int sp, .int mw, .int it, .int mx, .int fa, .int ro, .int pp, .int fm])), (m6, .inl (cI, 4, .inl ur)), (m7, .inl (cI, 4, .inl uc)), (m8, .inl (cI, 40, .inl un)), (m12, .inl (cI, 25, .inl ba)), (m15, .inl (cI, 61, .inl st))] H := hP
        have hD : va_D A [(aX, .inr (6, [.int cn, .ref m0, .ref m1, .ref m2, .ref m3, .ref m4, .ref m5, .ref m6, .ref m7, .ref m8, .int mi, .int me, .ref m9, .int gn, .ref m10, .ref m11, .ref m12, .ref m13, .ref m14, .int op, .ref m15, .int (tp - 1), .int mb, .int mv, .int mr, .int mf, .int md, .int sp, .int mw, .int it, .int mx, .int fa, .int ro, .int pp, .int fm])), (m6, .inl (cI, 4, .inl ur)), (m7, .inl (cI, 4, .inl uc)), (m8, .inl (cI, 40, .inl un)), (m12, .inl (cI, 25, .inl ba)), (m15, .inl (cI, 61, .inl st))] := hD
        refine lv_iload_n hx hb dX9_onUser_53 rfl (lv_at hl 0 rfl) ?_
        refine lv_if_eq (tgt := 92) hx hb dX9_onUser_54 (by decide) (fun _ => ?_) (fun c_10 => absurd c_10 (by decide))
        refine lv_aload_n hx hb dX9_onUser_92 rfl (lv_at hl 1 rfl) ?_
        refine lv_iload_n hx hb dX9_onUser_93 rfl (lv_at hl 0 rfl) ?_
        refine lv_if_eq (tgt := 101) hx hb dX9_onUser_94 (by decide) (fun _ => ?_) (fun c_11 => absurd c_11 (by decide))
        refine lv_iconst (v := 0) hx hb dX9_onUser_101 (by decide) ?_
        refine k_wi (w2 := (fun u_15 : (Nat → Int32) × (Int32) => [(aX, .inr (6, [.int cn, .ref m0, .ref m1, .ref m2, .ref m3, .ref m4, .ref m5, .ref m6, .ref m7, .ref m8, .int mi, .int me, .ref m9, .int gn, .ref m10, .ref m11, .ref m12, .ref m13, .ref m14, .int op, .ref m15, .int u_15.2, .int mb, .int mv, .int mr, .int mf, .int md, .int sp, .int mw, .int it, .int mx, .int fa, .int ro, .int pp, .int fm])), (m6, .inl (cI, 4, .inl ur)), (m7, .inl (cI, 4, .inl uc)), (m8, .inl (cI, 40, .inl un)), (m12, .inl (cI, 25, .inl ba)), (m15, .inl (cI, 61, .inl u_15.1))])) (wr := [(m6, .inl (cI, 4, .inl ur)), (m7, .inl (cI, 4, .inl uc)), (m8, .inl (cI, 40, .inl un)), (m12, .inl (cI, 25, .inl ba))]) (ci := 6) (q0 := 0) (q := (RX9, TX9, 35)) (As := [.int 0]) (rest := []) ⟨hx, hb, hml, hown, hts⟩ (c_X9_push l dC dI cI _ aX m0 m1 m2 m3 m4 m5 m6 m7 m8 m9 m10 m11 m12 m13 m14 m15 st cn op mx (tp - 1) fa ro pp fm sp it gn mi me mb mv mr mf md mw 0 (q_X9_onUser_12 ho1 ho2 hb1 hb2 ht2 hu1 hu2 hr_3 c_4 hr_5 c_6 c_9) (q_X9_onUser_13 ho1 ho2 hb1 hb2 ht2 hu1 hu2 hr_3 c_4 hr_5 c_6 c_9)) (cwV 1 hts gX9_onUser_X9_push rfl rfl rfl (by decide +kernel) ⟨Nat.le_of_ble_eq_true rfl, Nat.le_of_ble_eq_true rfl⟩) hK hP hD hS hA [0, 5] [1, 2, 3, 4] [4, 0, 1, 2, 3, 5] rfl rfl (by decide) (fun _ => rfl) rfl rfl rfl hl.1 rfl (Nat.le_of_ble_eq_true rfl) dX9_onUser_102 ⟨Nat.zero_le _, Nat.zero_le _⟩ (fun r_14 u_15 H locs hr_14 hP hD hS => ?_)
        obtain ⟨st_16, tp_17⟩ := u_15
        have hP : va_P (dC, dI) vwCl [(aX, .inr (6, [.int cn, .ref m0, .ref m1, .ref m2, .ref m3, .ref m4, .ref m5, .ref m6, .ref m7, .ref m8, .int mi, .int me, .ref m9, .int gn, .ref m10, .ref m11, .ref m12, .ref m13, .ref m14, .int op, .ref m15, .int tp_17, .int mb, .int mv, .int mr, .int mf, .int md, .int sp, .int mw, .int it, .int mx, .int fa, .int ro, .int pp, .int fm])), (m6, .inl (cI, 4, .inl ur)), (m7, .inl (cI, 4, .inl uc)), (m8, .inl (cI, 40, .inl un)), (m12, .inl (cI, 25, .inl ba)), (m15, .inl (cI, 61, .inl st_16))] H := hP
        have hD : va_D A [(aX, .inr (6, [.int cn, .ref m0, .ref m1, .ref m2, .ref m3, .ref m4, .ref m5, .ref m6, .ref m7, .ref m8, .int mi, .int me, .ref m9, .int gn, .ref m10, .ref m11, .ref m12, .ref m13, .ref m14, .int op, .ref m15, .int tp_17, .int mb, .int mv, .int mr, .int mf, .int md, .int sp, .int mw, .int it, .int mx, .int fa, .int ro, .int pp, .int fm])), (m6, .inl (cI, 4, .inl ur)), (m7, .inl (cI, 4, .inl uc)), (m8, .inl (cI, 40, .inl un)), (m12, .inl (cI, 25, .inl ba)), (m15, .inl (cI, 61, .inl st_16))] := hD
        obtain ⟨hr_14_0, hr_14_1, hr_14_2⟩ := hr_14
        have hr_14_0 : r_14 = if (tp - 1) = 60 then 8 else 0 := hr_14_0
        have hr_14_1 : st_16 = if (tp - 1) = 60 then st else upd st (tp - 1).toNatClampNeg (sx (0 : Int32)) := hr_14_1
        have hr_14_2 : tp_17 = if (tp - 1) = 60 then (tp - 1) else (tp - 1) + 1 := hr_14_2
        exact e_wi hx hb hr hlocks dX9_onUser_105 hK hS (st_16, tp_17, uc, un) hP hD (q_X9_onUser_18 ho1 ho2 hb1 hb2 ht2 hu1 hu2 hr_3 c_4 hr_5 c_6 c_9 hr_14_0 hr_14_1 hr_14_2)
      · skip
        refine lv_iconst (v := 1) hx hb dX9_onUser_37 (by decide) ?_
        refine lv_goto (tgt := 42) hx hb dX9_onUser_38 (by decide) ?_
        refine lv_istore_n (lv' := [(2, .int 1), (0, .ref aX), (1, .int r)]) hx hb dX9_onUser_42 rfl hl (by decide) rfl (fun ls hl => ?_)
        refine lv_aload_n hx hb dX9_onUser_43 rfl (lv_at hl 1 rfl) ?_
        refine lv_dup hx hb dX9_onUser_44 rfl ?_
        refine va_get (D := (dC, dI)) (ci := 6) (v := .int tp) (C := RX9) (T := TX9) (N := 35) hx hb hts i_X9 hown hK hP 0 rfl rfl 21 (by decide) k_3 (fun _ h9 => h9) rfl dX9_onUser_45 ?_
        refine lv_iconst (v := 1) hx hb dX9_onUser_48 (by decide) ?_
        refine lv_isub hx hb dX9_onUser_49 ?_
        refine va_put (D := (dC, dI)) (ci := 6) (v := .int (tp - 1)) (ty := .int) (C := RX9) (T := TX9) (N := 35) hx hb hts i_X9 tyX9 tyX9_ok nmX9 hown hK hP hD hS 0 rfl rfl 21 (by decide) k_3 (fun _ h9 => h9) rfl (by decide +kernel) rfl rfl (Nat.le_of_ble_eq_true rfl) dX9_onUser_50 (fun H locs hP hD hS => ?_)
        have hP : va_P (dC, dI) vwCl [(aX, .inr (6, [.int cn, .ref m0, .ref m1, .ref m2, .ref m3, .ref m4, .ref m5, .ref m6, .ref m7, .ref m8, .int mi, .int me, .ref m9, .int gn, .ref m10, .ref m11, .ref m12, .ref m13, .ref m14, .int op, .ref m15, .int (tp - 1), .int mb, .int mv, .int mr, .int mf, .int md, .int sp, .int mw, .int it, .int mx, .int fa, .int ro, .int pp, .int fm])), (m6, .inl (cI, 4, .inl ur)), (m7, .inl (cI, 4, .inl uc)), (m8, .inl (cI, 40, .inl un)), (m12, .inl (cI, 25, .inl ba)), (m15, .inl (cI, 61, .inl st))] H := hP
        have hD : va_D A [(aX, .inr (6, [.int cn, .ref m0, .ref m1, .ref m2, .ref m3, .ref m4, .ref m5, .ref m6, .ref m7, .ref m8, .int mi, .int me, .ref m9, .int gn, .ref m10, .ref m11, .ref m12, .ref m13, .ref m14, .int op, .ref m15, .int (tp - 1), .int mb, .int mv, .int mr, .int mf, .int md, .int sp, .int mw, .int it, .int mx, .int fa, .int ro, .int pp, .int fm])), (m6, .inl (cI, 4, .inl ur)), (m7, .inl (cI, 4, .inl uc)), (m8, .inl (cI, 40, .inl un)), (m12, .inl (cI, 25, .inl ba)), (m15, .inl (cI, 61, .inl st))] := hD
        refine lv_iload_n hx hb dX9_onUser_53 rfl (lv_at hl 0 rfl) ?_
        refine lv_if_eq (tgt := 92) hx hb dX9_onUser_54 (by decide) (fun c_19 => absurd c_19 (by decide)) (fun _ => ?_)
        refine lv_aload_n hx hb dX9_onUser_57 rfl (lv_at hl 1 rfl) ?_
        refine va_get (D := (dC, dI)) (ci := 6) (v := .ref m8) (C := RX9) (T := TX9) (N := 35) hx hb hts i_X9 hown hK hP 0 rfl rfl 9 (by decide) k_4 (fun _ h9 => h9) rfl dX9_onUser_58 ?_
        refine lv_bipush (v := 10) hx hb dX9_onUser_61 (by decide) ?_
        refine lv_iload_n hx hb dX9_onUser_63 rfl (lv_at hl 2 rfl) ?_
        refine lv_imul hx hb dX9_onUser_64 ?_
        refine lv_aload_n hx hb dX9_onUser_65 rfl (lv_at hl 1 rfl) ?_
        refine va_get (D := (dC, dI)) (ci := 6) (v := .ref m7) (C := RX9) (T := TX9) (N := 35) hx hb hts i_X9 hown hK hP 0 rfl rfl 8 (by decide) k_1 (fun _ h9 => h9) rfl dX9_onUser_66 ?_
        refine lv_iload_n hx hb dX9_onUser_69 rfl (lv_at hl 2 rfl) ?_
        refine va_iald hx hb hK hP 2 0 rfl rfl (q_X9_onUser_20 ho1 ho2 hb1 hb2 ht2 hu1 hu2 hr_3 c_4 hr_5 c_6 c_9) dX9_onUser_70 ?_
        refine lv_iadd hx hb dX9_onUser_71 ?_
        refine lv_aload_n hx hb dX9_onUser_72 rfl (lv_at hl 1 rfl) ?_
        refine va_get (D := (dC, dI)) (ci := 6) (v := .ref m15) (C := RX9) (T := TX9) (N := 35) hx hb hts i_X9 hown hK hP 0 rfl rfl 20 (by decide) k_5 (fun _ h9 => h9) rfl dX9_onUser_73 ?_
        refine lv_aload_n hx hb dX9_onUser_76 rfl (lv_at hl 1 rfl) ?_
        refine va_get (D := (dC, dI)) (ci := 6) (v := .int (tp - 1)) (C := RX9) (T := TX9) (N := 35) hx hb hts i_X9 hown hK hP 0 rfl rfl 21 (by decide) k_3 (fun _ h9 => h9) rfl dX9_onUser_77 ?_
        refine va_iald hx hb hK hP 5 0 rfl rfl (q_X9_onUser_21 ho1 ho2 hb1 hb2 ht2 hu1 hu2 hr_3 c_4 hr_5 c_6 c_9) dX9_onUser_80 ?_
        refine va_iast hx hb hK hP hD hS 3 0 rfl rfl (q_X9_onUser_22 ho1 ho2 hb1 hb2 ht2 hu1 hu2 hr_3 c_4 hr_5 c_6 c_9) dX9_onUser_81 (fun H locs hP hD hS => ?_)
        have hP : va_P (dC, dI) vwCl [(aX, .inr (6, [.int cn, .ref m0, .ref m1, .ref m2, .ref m3, .ref m4, .ref m5, .ref m6, .ref m7, .ref m8, .int mi, .int me, .ref m9, .int gn, .ref m10, .ref m11, .ref m12, .ref m13, .ref m14, .int op, .ref m15, .int (tp - 1), .int mb, .int mv, .int mr, .int mf, .int md, .int sp, .int mw, .int it, .int mx, .int fa, .int ro, .int pp, .int fm])), (m6, .inl (cI, 4, .inl ur)), (m7, .inl (cI, 4, .inl uc)), (m8, .inl (cI, 40, .inl (upd un ((10 * r) + (uc r.toNatClampNeg)).toNatClampNeg (st (tp - 1).toNatClampNeg)))), (m12, .inl (cI, 25, .inl ba)), (m15, .inl (cI, 61, .inl st))] H := hP
        have hD : va_D A [(aX, .inr (6, [.int cn, .ref m0, .ref m1, .ref m2, .ref m3, .ref m4, .ref m5, .ref m6, .ref m7, .ref m8, .int mi, .int me, .ref m9, .int gn, .ref m10, .ref m11, .ref m12, .ref m13, .ref m14, .int op, .ref m15, .int (tp - 1), .int mb, .int mv, .int mr, .int mf, .int md, .int sp, .int mw, .int it, .int mx, .int fa, .int ro, .int pp, .int fm])), (m6, .inl (cI, 4, .inl ur)), (m7, .inl (cI, 4, .inl uc)), (m8, .inl (cI, 40, .inl (upd un ((10 * r) + (uc r.toNatClampNeg)).toNatClampNeg (st (tp - 1).toNatClampNeg)))), (m12, .inl (cI, 25, .inl ba)), (m15, .inl (cI, 61, .inl st))] := hD
        refine lv_aload_n hx hb dX9_onUser_82 rfl (lv_at hl 1 rfl) ?_
        refine va_get (D := (dC, dI)) (ci := 6) (v := .ref m7) (C := RX9) (T := TX9) (N := 35) hx hb hts i_X9 hown hK hP 0 rfl rfl 8 (by decide) k_1 (fun _ h9 => h9) rfl dX9_onUser_83 ?_
        refine lv_iload_n hx hb dX9_onUser_86 rfl (lv_at hl 2 rfl) ?_
        refine lv_dup2_11 hx hb dX9_onUser_87 rfl rfl ?_
        refine va_iald hx hb hK hP 2 0 rfl rfl (q_X9_onUser_23 ho1 ho2 hb1 hb2 ht2 hu1 hu2 hr_3 c_4 hr_5 c_6 c_9) dX9_onUser_88 ?_
        refine lv_iconst (v := 1) hx hb dX9_onUser_89 (by decide) ?_
        refine lv_iadd hx hb dX9_onUser_90 ?_
        refine va_iast hx hb hK hP hD hS 2 0 rfl rfl (q_X9_onUser_24 ho1 ho2 hb1 hb2 ht2 hu1 hu2 hr_3 c_4 hr_5 c_6 c_9) dX9_onUser_91 (fun H locs hP hD hS => ?_)
        have hP : va_P (dC, dI) vwCl [(aX, .inr (6, [.int cn, .ref m0, .ref m1, .ref m2, .ref m3, .ref m4, .ref m5, .ref m6, .ref m7, .ref m8, .int mi, .int me, .ref m9, .int gn, .ref m10, .ref m11, .ref m12, .ref m13, .ref m14, .int op, .ref m15, .int (tp - 1), .int mb, .int mv, .int mr, .int mf, .int md, .int sp, .int mw, .int it, .int mx, .int fa, .int ro, .int pp, .int fm])), (m6, .inl (cI, 4, .inl ur)), (m7, .inl (cI, 4, .inl (upd uc r.toNatClampNeg ((uc r.toNatClampNeg) + 1)))), (m8, .inl (cI, 40, .inl (upd un ((10 * r) + (uc r.toNatClampNeg)).toNatClampNeg (st (tp - 1).toNatClampNeg)))), (m12, .inl (cI, 25, .inl ba)), (m15, .inl (cI, 61, .inl st))] H := hP
        have hD : va_D A [(aX, .inr (6, [.int cn, .ref m0, .ref m1, .ref m2, .ref m3, .ref m4, .ref m5, .ref m6, .ref m7, .ref m8, .int mi, .int me, .ref m9, .int gn, .ref m10, .ref m11, .ref m12, .ref m13, .ref m14, .int op, .ref m15, .int (tp - 1), .int mb, .int mv, .int mr, .int mf, .int md, .int sp, .int mw, .int it, .int mx, .int fa, .int ro, .int pp, .int fm])), (m6, .inl (cI, 4, .inl ur)), (m7, .inl (cI, 4, .inl (upd uc r.toNatClampNeg ((uc r.toNatClampNeg) + 1)))), (m8, .inl (cI, 40, .inl (upd un ((10 * r) + (uc r.toNatClampNeg)).toNatClampNeg (st (tp - 1).toNatClampNeg)))), (m12, .inl (cI, 25, .inl ba)), (m15, .inl (cI, 61, .inl st))] := hD
        refine lv_aload_n hx hb dX9_onUser_92 rfl (lv_at hl 1 rfl) ?_
        refine lv_iload_n hx hb dX9_onUser_93 rfl (lv_at hl 0 rfl) ?_
        refine lv_if_eq (tgt := 101) hx hb dX9_onUser_94 (by decide) (fun c_25 => absurd c_25 (by decide)) (fun _ => ?_)
        refine lv_iconst (v := 1) hx hb dX9_onUser_97 (by decide) ?_
        refine lv_goto (tgt := 102) hx hb dX9_onUser_98 (by decide) ?_
        refine k_wi (w2 := (fun u_29 : (Nat → Int32) × (Int32) => [(aX, .inr (6, [.int cn, .ref m0, .ref m1, .ref m2, .ref m3, .ref m4, .ref m5, .ref m6, .ref m7, .ref m8, .int mi, .int me, .ref m9, .int gn, .ref m10, .ref m11, .ref m12, .ref m13, .ref m14, .int op, .ref m15, .int u_29.2, .int mb, .int mv, .int mr, .int mf, .int md, .int sp, .int mw, .int it, .int mx, .int fa, .int ro, .int pp, .int fm])), (m6, .inl (cI, 4, .inl ur)), (m7, .inl (cI, 4, .inl (upd uc r.toNatClampNeg ((uc r.toNatClampNeg) + 1)))), (m8, .inl (cI, 40, .inl (upd un ((10 * r) + (uc r.toNatClampNeg)).toNatClampNeg (st (tp - 1).toNatClampNeg)))), (m12, .inl (cI, 25, .inl ba)), (m15, .inl (cI, 61, .inl u_29.1))])) (wr := [(m6, .inl (cI, 4, .inl ur)), (m7, .inl (cI, 4, .inl (upd uc r.toNatClampNeg ((uc r.toNatClampNeg) + 1)))), (m8, .inl (cI, 40, .inl (upd un ((10 * r) + (uc r.toNatClampNeg)).toNatClampNeg (st (tp - 1).toNatClampNeg)))), (m12, .inl (cI, 25, .inl ba))]) (ci := 6) (q0 := 0) (q := (RX9, TX9, 35)) (As := [.int 1]) (rest := []) ⟨hx, hb, hml, hown, hts⟩ (c_X9_push l dC dI cI _ aX m0 m1 m2 m3 m4 m5 m6 m7 m8 m9 m10 m11 m12 m13 m14 m15 st cn op mx (tp - 1) fa ro pp fm sp it gn mi me mb mv mr mf md mw 1 (q_X9_onUser_26 ho1 ho2 hb1 hb2 ht2 hu1 hu2 hr_3 c_4 hr_5 c_6 c_9) (q_X9_onUser_27 ho1 ho2 hb1 hb2 ht2 hu1 hu2 hr_3 c_4 hr_5 c_6 c_9)) (cwV 1 hts gX9_onUser_X9_push rfl rfl rfl (by decide +kernel) ⟨Nat.le_of_ble_eq_true rfl, Nat.le_of_ble_eq_true rfl⟩) hK hP hD hS hA [0, 5] [1, 2, 3, 4] [4, 0, 1, 2, 3, 5] rfl rfl (by decide) (fun _ => rfl) rfl rfl rfl hl.1 rfl (Nat.le_of_ble_eq_true rfl) dX9_onUser_102 ⟨Nat.zero_le _, Nat.zero_le _⟩ (fun r_28 u_29 H locs hr_28 hP hD hS => ?_)
        obtain ⟨st_30, tp_31⟩ := u_29
        have hP : va_P (dC, dI) vwCl [(aX, .inr (6, [.int cn, .ref m0, .ref m1, .ref m2, .ref m3, .ref m4, .ref m5, .ref m6, .ref m7, .ref m8, .int mi, .int me, .ref m9, .int gn, .ref m10, .ref m11, .ref m12, .ref m13, .ref m14, .int op, .ref m15, .int tp_31, .int mb, .int mv, .int mr, .int mf, .int md, .int sp, .int mw, .int it, .int mx, .int fa, .int ro, .int pp, .int fm])), (m6, .inl (cI, 4, .inl ur)), (m7, .inl (cI, 4, .inl (upd uc r.toNatClampNeg ((uc r.toNatClampNeg) + 1)))), (m8, .inl (cI, 40, .inl (upd un ((10 * r) + (uc r.toNatClampNeg)).toNatClampNeg (st (tp - 1).toNatClampNeg)))), (m12, .inl (cI, 25, .inl ba)), (m15, .inl (cI, 61, .inl st_30))] H := hP
        have hD : va_D A [(aX, .inr (6, [.int cn, .ref m0, .ref m1, .ref m2, .ref m3, .ref m4, .ref m5, .ref m6, .ref m7, .ref m8, .int mi, .int me, .ref m9, .int gn, .ref m10, .ref m11, .ref m12, .ref m13, .ref m14, .int op, .ref m15, .int tp_31, .int mb, .int mv, .int mr, .int mf, .int md, .int sp, .int mw, .int it, .int mx, .int fa, .int ro, .int pp, .int fm])), (m6, .inl (cI, 4, .inl ur)), (m7, .inl (cI, 4, .inl (upd uc r.toNatClampNeg ((uc r.toNatClampNeg) + 1)))), (m8, .inl (cI, 40, .inl (upd un ((10 * r) + (uc r.toNatClampNeg)).toNatClampNeg (st (tp - 1).toNatClampNeg)))), (m12, .inl (cI, 25, .inl ba)), (m15, .inl (cI, 61, .inl st_30))] := hD
        obtain ⟨hr_28_0, hr_28_1, hr_28_2⟩ := hr_28
        have hr_28_0 : r_28 = if (tp - 1) = 60 then 8 else 0 := hr_28_0
        have hr_28_1 : st_30 = if (tp - 1) = 60 then st else upd st (tp - 1).toNatClampNeg (sx (1 : Int32)) := hr_28_1
        have hr_28_2 : tp_31 = if (tp - 1) = 60 then (tp - 1) else (tp - 1) + 1 := hr_28_2
        exact e_wi hx hb hr hlocks dX9_onUser_105 hK hS (st_30, tp_31, upd uc r.toNatClampNeg ((uc r.toNatClampNeg) + 1), upd un ((10 * r) + (uc r.toNatClampNeg)).toNatClampNeg (st (tp - 1).toNatClampNeg)) hP hD (q_X9_onUser_32 ho1 ho2 hb1 hb2 ht2 hu1 hu2 hr_3 c_4 hr_5 c_6 c_9 hr_28_0 hr_28_1 hr_28_2)
    · skip
      refine lv_bipush (v := 10) hx hb dX9_onUser_19 (by decide) ?_
      exact e_wi hx hb hr hlocks dX9_onUser_21 hK hS (st, tp, uc, un) hP hD (q_X9_onUser_33 ho1 ho2 hb1 hb2 ht2 hu1 hu2 hr_3 c_4 hr_5 c_6)
  · skip
    refine lv_iconst (v := 1) hx hb dX9_onUser_8 (by decide) ?_
    exact e_wi hx hb hr hlocks dX9_onUser_9 hK hS (st, tp, uc, un) hP hD (q_X9_onUser_34 ho1 ho2 hb1 hb2 ht2 hu1 hu2 hr_3 c_4)

theorem q_X9_ofUser_3 {uc : Nat → Int32} {tp : Int32} {r : Int32} {r_1 : Int32} (ht1 : 0 ≤ tp) (ht2 : tp ≤ 60) (hu1 : ∀ j, 0 ≤ uc j) (hu2 : ∀ j, uc j ≤ 10) (hr_1 : r_1 = if (0 : Int32) ≤ r ∧ r ≤ (3 : Int32) then 1 else 0) (c_2 : ¬ r_1 = 0) : vp_in r 4 := by
  exact in_of (c := 4) (by decide) (by (try subst_vars) <;> (try simp only [upd_s]) <;> grind) (by (try subst_vars) <;> (try simp only [upd_s]) <;> grind)
theorem q_X9_ofUser_6 {uc : Nat → Int32} {tp : Int32} {r : Int32} {r_1 : Int32} (ht1 : 0 ≤ tp) (ht2 : tp ≤ 60) (hu1 : ∀ j, 0 ≤ uc j) (hu2 : ∀ j, uc j ≤ 10) (hr_1 : r_1 = if (0 : Int32) ≤ r ∧ r ≤ (3 : Int32) then 1 else 0) (c_2 : ¬ r_1 = 0) (c_4 : ¬ (uc r.toNatClampNeg) = 0) (c_5 : ¬ tp = 60) : vp_in r 4 := by
  exact in_of (c := 4) (by decide) (by (try subst_vars) <;> (try simp only [upd_s]) <;> grind) (by (try subst_vars) <;> (try simp only [upd_s]) <;> grind)
theorem q_X9_ofUser_7 {uc : Nat → Int32} {tp : Int32} {r : Int32} {r_1 : Int32} (ht1 : 0 ≤ tp) (ht2 : tp ≤ 60) (hu1 : ∀ j, 0 ≤ uc j) (hu2 : ∀ j, uc j ≤ 10) (hr_1 : r_1 = if (0 : Int32) ≤ r ∧ r ≤ (3 : Int32) then 1 else 0) (c_2 : ¬ r_1 = 0) (c_4 : ¬ (uc r.toNatClampNeg) = 0) (c_5 : ¬ tp = 60) : vp_in r 4 := by
  exact in_of (c := 4) (by decide) (by (try subst_vars) <;> (try simp only [upd_s]) <;> grind) (by (try subst_vars) <;> (try simp only [upd_s]) <;> grind)
theorem q_X9_ofUser_8 {uc : Nat → Int32} {tp : Int32} {r : Int32} {r_1 : Int32} (ht1 : 0 ≤ tp) (ht2 : tp ≤ 60) (hu1 : ∀ j, 0 ≤ uc j) (hu2 : ∀ j, uc j ≤ 10) (hr_1 : r_1 = if (0 : Int32) ≤ r ∧ r ≤ (3 : Int32) then 1 else 0) (c_2 : ¬ r_1 = 0) (c_4 : ¬ (uc r.toNatClampNeg) = 0) (c_5 : ¬ tp = 60) : vp_in r 4 := by
  exact in_of (c := 4) (by decide) (by (try subst_vars) <;> (try simp only [upd_s]) <;> grind) (by (try subst_vars) <;> (try simp only [upd_s]) <;> grind)
theorem q_X9_ofUser_9 {uc : Nat → Int32} {tp : Int32} {r : Int32} {r_1 : Int32} (ht1 : 0 ≤ tp) (ht2 : tp ≤ 60) (hu1 : ∀ j, 0 ≤ uc j) (hu2 : ∀ j, uc j ≤ 10) (hr_1 : r_1 = if (0 : Int32) ≤ r ∧ r ≤ (3 : Int32) then 1 else 0) (c_2 : ¬ r_1 = 0) (c_4 : ¬ (uc r.toNatClampNeg) = 0) (c_5 : ¬ tp = 60) : vp_in ((10 * r) + ((upd uc r.toNatClampNeg ((uc r.toNatClampNeg) - 1)) r.toNatClampNeg)) 40 := by
  exact in_of (c := 40) (by decide) (by (try subst_vars) <;> (try simp only [upd_s]) <;> grind) (by (try subst_vars) <;> (try simp only [upd_s]) <;> grind)
theorem q_X9_ofUser_10 {uc : Nat → Int32} {tp : Int32} {r : Int32} {r_1 : Int32} (ht1 : 0 ≤ tp) (ht2 : tp ≤ 60) (hu1 : ∀ j, 0 ≤ uc j) (hu2 : ∀ j, uc j ≤ 10) (hr_1 : r_1 = if (0 : Int32) ≤ r ∧ r ≤ (3 : Int32) then 1 else 0) (c_2 : ¬ r_1 = 0) (c_4 : ¬ (uc r.toNatClampNeg) = 0) (c_5 : ¬ tp = 60) : 0 ≤ tp := by
  (try subst_vars) <;> (try simp only [upd_s]) <;> grind
theorem q_X9_ofUser_11 {uc : Nat → Int32} {tp : Int32} {r : Int32} {r_1 : Int32} (ht1 : 0 ≤ tp) (ht2 : tp ≤ 60) (hu1 : ∀ j, 0 ≤ uc j) (hu2 : ∀ j, uc j ≤ 10) (hr_1 : r_1 = if (0 : Int32) ≤ r ∧ r ≤ (3 : Int32) then 1 else 0) (c_2 : ¬ r_1 = 0) (c_4 : ¬ (uc r.toNatClampNeg) = 0) (c_5 : ¬ tp = 60) : tp ≤ 60 := by
  (try subst_vars) <;> (try simp only [upd_s]) <;> grind
theorem q_X9_ofUser_16 {uc : Nat → Int32} {un : Nat → Int32} {st : Nat → Int32} {tp : Int32} {r : Int32} {r_1 : Int32} {st_14 : Nat → Int32} {tp_15 : Int32} {r_12 : Int32} (ht1 : 0 ≤ tp) (ht2 : tp ≤ 60) (hu1 : ∀ j, 0 ≤ uc j) (hu2 : ∀ j, uc j ≤ 10) (hr_1 : r_1 = if (0 : Int32) ≤ r ∧ r ≤ (3 : Int32) then 1 else 0) (c_2 : ¬ r_1 = 0) (c_4 : ¬ (uc r.toNatClampNeg) = 0) (c_5 : ¬ tp = 60) (hr_12_0 : r_12 = if tp = 60 then 8 else 0) (hr_12_1 : st_14 = if tp = 60 then st else upd st tp.toNatClampNeg (sx (un ((10 * r) + ((upd uc r.toNatClampNeg ((uc r.toNatClampNeg) - 1)) r.toNatClampNeg)).toNatClampNeg))) (hr_12_2 : tp_15 = if tp = 60 then tp else tp + 1) : ((r_12, st_14, tp_15, (upd uc r.toNatClampNeg ((uc r.toNatClampNeg) - 1))) = f_fru r tp st uc un) := by
  (try subst_vars) <;> (try simp only [upd_s, upd_upd, sb1p, as1] at *) <;> simp only [f_fru, mc10 r] <;> grind
theorem q_X9_ofUser_17 {uc : Nat → Int32} {un : Nat → Int32} {st : Nat → Int32} {tp : Int32} {r : Int32} {r_1 : Int32} (ht1 : 0 ≤ tp) (ht2 : tp ≤ 60) (hu1 : ∀ j, 0 ≤ uc j) (hu2 : ∀ j, uc j ≤ 10) (hr_1 : r_1 = if (0 : Int32) ≤ r ∧ r ≤ (3 : Int32) then 1 else 0) (c_2 : ¬ r_1 = 0) (c_4 : ¬ (uc r.toNatClampNeg) = 0) (c_5 : tp = 60) : (((8 : Int32), st, tp, uc) = f_fru r tp st uc un) := by
  (try subst_vars) <;> (try simp only [upd_s, upd_upd, sb1p, as1] at *) <;> simp only [f_fru, mc10 r] <;> grind
theorem q_X9_ofUser_18 {uc : Nat → Int32} {un : Nat → Int32} {st : Nat → Int32} {tp : Int32} {r : Int32} {r_1 : Int32} (ht1 : 0 ≤ tp) (ht2 : tp ≤ 60) (hu1 : ∀ j, 0 ≤ uc j) (hu2 : ∀ j, uc j ≤ 10) (hr_1 : r_1 = if (0 : Int32) ≤ r ∧ r ≤ (3 : Int32) then 1 else 0) (c_2 : ¬ r_1 = 0) (c_4 : (uc r.toNatClampNeg) = 0) : (((1 : Int32), st, tp, uc) = f_fru r tp st uc un) := by
  (try subst_vars) <;> (try simp only [upd_s, upd_upd, sb1p, as1] at *) <;> simp only [f_fru, mc10 r] <;> grind
theorem q_X9_ofUser_19 {uc : Nat → Int32} {un : Nat → Int32} {st : Nat → Int32} {tp : Int32} {r : Int32} {r_1 : Int32} (ht1 : 0 ≤ tp) (ht2 : tp ≤ 60) (hu1 : ∀ j, 0 ≤ uc j) (hu2 : ∀ j, uc j ≤ 10) (hr_1 : r_1 = if (0 : Int32) ≤ r ∧ r ≤ (3 : Int32) then 1 else 0) (c_2 : r_1 = 0) : (((10 : Int32), st, tp, uc) = f_fru r tp st uc un) := by
  (try subst_vars) <;> (try simp only [upd_s, upd_upd, sb1p, as1] at *) <;> simp only [f_fru, mc10 r] <;> grind
set_option maxHeartbeats 4000000 in
set_option maxRecDepth 100000 in
theorem c_X9_ofUser (l : Launch) (dC : Nat → ClassId) (dI : Nat → Nat → Nat) (cI : ClassId) (sz : Nat) (aX : Nat) (m0 : Nat) (m1 : Nat) (m2 : Nat) (m3 : Nat) (m4 : Nat) (m5 : Nat) (m6 : Nat) (m7 : Nat) (m8 : Nat) (m9 : Nat) (m10 : Nat) (m11 : Nat) (m12 : Nat) (m13 : Nat) (m14 : Nat) (m15 : Nat) (uc : Nat → Int32) (un : Nat → Int32) (st : Nat → Int32) (cn : Int32) (op : Int32) (mx : Int32) (tp : Int32) (fa : Int32) (ro : Int32) (pp : Int32) (fm : Int32) (sp : Int32) (it : Int32) (gn : Int32) (mi : Int32) (me : Int32) (mb : Int32) (mv : Int32) (mr : Int32) (mf : Int32) (md : Int32) (mw : Int32) (r : Int32) (ht1 : 0 ≤ tp) (ht2 : tp ≤ 60) (hu1 : ∀ j, 0 ≤ uc j) (hu2 : ∀ j, uc j ≤ 10) : mWi l yX9_ofUser wsX9_ofUser ({ frames := 1, cells := 0, slots := 0, locals := 22 }) [.ref aX, .int r] (dC, dI) [(cI, .int)] [(aX, .inr (6, [.int cn, .ref m0, .ref m1, .ref m2, .ref m3, .ref m4, .ref m5, .ref m6, .ref m7, .ref m8, .int mi, .int me, .ref m9, .int gn, .ref m10, .ref m11, .ref m12, .ref m13, .ref m14, .int op, .ref m15, .int tp, .int mb, .int mv, .int mr, .int mf, .int md, .int sp, .int mw, .int it, .int mx, .int fa, .int ro, .int pp, .int fm])), (m7, .inl (cI, 4, .inl uc)), (m8, .inl (cI, 40, .inl un)), (m15, .inl (cI, 61, .inl st))] sz (fun (v : Int32) (u : (Nat → Int32) × (Int32) × (Nat → Int32)) => ((v, u.1, u.2.1, u.2.2) = f_fru r tp st uc un)) (fun u : (Nat → Int32) × (Int32) × (Nat → Int32) => [(aX, .inr (6, [.int cn, .ref m0, .ref m1, .ref m2, .ref m3, .ref m4, .ref m5, .ref m6, .ref m7, .ref m8, .int mi, .int me, .ref m9, .int gn, .ref m10, .ref m11, .ref m12, .ref m13, .ref m14, .int op, .ref m15, .int u.2.1, .int mb, .int mv, .int mr, .int mf, .int md, .int sp, .int mw, .int it, .int mx, .int fa, .int ro, .int pp, .int fm])), (m7, .inl (cI, 4, .inl u.2.2)), (m8, .inl (cI, 40, .inl un)), (m15, .inl (cI, 61, .inl u.1))]) := by
  refine o_wi (cc := cX9_ofUser) (maxL := 2) (ret := (some .int)) (by decide) rfl (Nat.le_of_ble_eq_true rfl) ?_
  intro p e s m below meth c ls A hx hb hr hml hts hown hlocks hP hK hD hS hA hl
  have hown : s.vm.findClass RX9 = some m.cls := hown
  have hl : lv_has ls 2 [(0, .ref aX), (1, .int r)] := hl
  have k_1 := hts (.fieldLink RX9 31 "ZRoutinesModel" "users" "[I") (List.mem_of_getElem? (i := 1) rfl)
  have k_2 := hts (.fieldLink RX9 84 "ZRoutinesModel" "top" "I") (List.mem_of_getElem? (i := 2) rfl)
  have k_3 := hts (.fieldLink RX9 34 "ZRoutinesModel" "user" "[I") (List.mem_of_getElem? (i := 3) rfl)
  have i_X9 : ∀ w ∈ u_ws RX9 TX9 35, w ∈ wsX9_ofUser := fun _ h => List.mem_cons_of_mem _ (List.mem_append_right _ h)
  refine lv_iload_n hx hb dX9_ofUser_0 rfl (lv_at hl 1 rfl) ?_
  refine lv_iconst (v := 0) hx hb dX9_ofUser_1 (by decide) ?_
  refine lv_iconst (v := 3) hx hb dX9_ofUser_2 (by decide) ?_
  refine k_rs (As := [.int r, .int 0, .int 3]) (rest := []) ⟨hx, hb, hml, hown, hts⟩ (c_X9_in l dC dI cI r 0 3 ) (va_cwS 3 hts gX9_ofUser_X9_in rfl rfl rfl (by decide +kernel) ⟨Nat.le_of_ble_eq_true rfl, Nat.le_of_ble_eq_true rfl⟩) hK hP [] rfl rfl hl.1 rfl (Nat.le_of_ble_eq_true rfl) dX9_ofUser_3 ⟨Nat.zero_le _, Nat.zero_le _⟩ (fun r_1 hr_1 => ?_)
  have hr_1 : r_1 = if (0 : Int32) ≤ r ∧ r ≤ (3 : Int32) then 1 else 0 := hr_1
  refine lv_if_ne (tgt := 12) hx hb dX9_ofUser_6 (by decide) (fun c_2 => ?_) (fun c_2 => ?_)
  · skip
    refine lv_aload_n hx hb dX9_ofUser_12 rfl (lv_at hl 0 rfl) ?_
    refine va_get (D := (dC, dI)) (ci := 6) (v := .ref m7) (C := RX9) (T := TX9) (N := 35) hx hb hts i_X9 hown hK hP 0 rfl rfl 8 (by decide) k_1 (fun _ h9 => h9) rfl dX9_ofUser_13 ?_
    refine lv_iload_n hx hb dX9_ofUser_16 rfl (lv_at hl 1 rfl) ?_
    refine va_iald hx hb hK hP 1 0 rfl rfl (q_X9_ofUser_3 ht1 ht2 hu1 hu2 hr_1 c_2) dX9_ofUser_17 ?_
    refine lv_if_ne (tgt := 23) hx hb dX9_ofUser_18 (by decide) (fun c_4 => ?_) (fun c_4 => ?_)
    · skip
      refine lv_aload_n hx hb dX9_ofUser_23 rfl (lv_at hl 0 rfl) ?_
      refine va_get (D := (dC, dI)) (ci := 6) (v := .int tp) (C := RX9) (T := TX9) (N := 35) hx hb hts i_X9 hown hK hP 0 rfl rfl 21 (by decide) k_2 (fun _ h9 => h9) rfl dX9_ofUser_24 ?_
      refine lv_bipush (v := 60) hx hb dX9_ofUser_27 (by decide) ?_
      refine lv_icmp_ne (tgt := 35) hx hb dX9_ofUser_29 (by decide) (fun c_5 => ?_) (fun c_5 => ?_)
      · skip
        refine lv_aload_n hx hb dX9_ofUser_35 rfl (lv_at hl 0 rfl) ?_
        refine va_get (D := (dC, dI)) (ci := 6) (v := .ref m7) (C := RX9) (T := TX9) (N := 35) hx hb hts i_X9 hown hK hP 0 rfl rfl 8 (by decide) k_1 (fun _ h9 => h9) rfl dX9_ofUser_36 ?_
        refine lv_iload_n hx hb dX9_ofUser_39 rfl (lv_at hl 1 rfl) ?_
        refine lv_dup2_11 hx hb dX9_ofUser_40 rfl rfl ?_
        refine va_iald hx hb hK hP 1 0 rfl rfl (q_X9_ofUser_6 ht1 ht2 hu1 hu2 hr_1 c_2 c_4 c_5) dX9_ofUser_41 ?_
        refine lv_iconst (v := 1) hx hb dX9_ofUser_42 (by decide) ?_
        refine lv_isub hx hb dX9_ofUser_43 ?_
        refine va_iast hx hb hK hP hD hS 1 0 rfl rfl (q_X9_ofUser_7 ht1 ht2 hu1 hu2 hr_1 c_2 c_4 c_5) dX9_ofUser_44 (fun H locs hP hD hS => ?_)
        have hP : va_P (dC, dI) vwCl [(aX, .inr (6, [.int cn, .ref m0, .ref m1, .ref m2, .ref m3, .ref m4, .ref m5, .ref m6, .ref m7, .ref m8, .int mi, .int me, .ref m9, .int gn, .ref m10, .ref m11, .ref m12, .ref m13, .ref m14, .int op, .ref m15, .int tp, .int mb, .int mv, .int mr, .int mf, .int md, .int sp, .int mw, .int it, .int mx, .int fa, .int ro, .int pp, .int fm])), (m7, .inl (cI, 4, .inl (upd uc r.toNatClampNeg ((uc r.toNatClampNeg) - 1)))), (m8, .inl (cI, 40, .inl un)), (m15, .inl (cI, 61, .inl st))] H := hP
        have hD : va_D A [(aX, .inr (6, [.int cn, .ref m0, .ref m1, .ref m2, .ref m3, .ref m4, .ref m5, .ref m6, .ref m7, .ref m8, .int mi, .int me, .ref m9, .int gn, .ref m10, .ref m11, .ref m12, .ref m13, .ref m14, .int op, .ref m15, .int tp, .int mb, .int mv, .int mr, .int mf, .int md, .int sp, .int mw, .int it, .int mx, .int fa, .int ro, .int pp, .int fm])), (m7, .inl (cI, 4, .inl (upd uc r.toNatClampNeg ((uc r.toNatClampNeg) - 1)))), (m8, .inl (cI, 40, .inl un)), (m15, .inl (cI, 61, .inl st))] := hD
        refine lv_aload_n hx hb dX9_ofUser_45 rfl (lv_at hl 0 rfl) ?_
        refine lv_aload_n hx hb dX9_ofUser_46 rfl (lv_at hl 0 rfl) ?_
        refine va_get (D := (dC, dI)) (ci := 6) (v := .ref m8) (C := RX9) (T := TX9) (N := 35) hx hb hts i_X9 hown hK hP 0 rfl rfl 9 (by decide) k_3 (fun _ h9 => h9) rfl dX9_ofUser_47 ?_
        refine lv_bipush (v := 10) hx hb dX9_ofUser_50 (by decide) ?_
        refine lv_iload_n hx hb dX9_ofUser_52 rfl (lv_at hl 1 rfl) ?_
        refine lv_imul hx hb dX9_ofUser_53 ?_
        refine lv_aload_n hx hb dX9_ofUser_54 rfl (lv_at hl 0 rfl) ?_
        refine va_get (D := (dC, dI)) (ci := 6) (v := .ref m7) (C := RX9) (T := TX9) (N := 35) hx hb hts i_X9 hown hK hP 0 rfl rfl 8 (by decide) k_1 (fun _ h9 => h9) rfl dX9_ofUser_55 ?_
        refine lv_iload_n hx hb dX9_ofUser_58 rfl (lv_at hl 1 rfl) ?_
        refine va_iald hx hb hK hP 1 0 rfl rfl (q_X9_ofUser_8 ht1 ht2 hu1 hu2 hr_1 c_2 c_4 c_5) dX9_ofUser_59 ?_
        refine lv_iadd hx hb dX9_ofUser_60 ?_
        refine va_iald hx hb hK hP 2 0 rfl rfl (q_X9_ofUser_9 ht1 ht2 hu1 hu2 hr_1 c_2 c_4 c_5) dX9_ofUser_61 ?_
        refine k_wi (w2 := (fun u_13 : (Nat → Int32) × (Int32) => [(aX, .inr (6, [.int cn, .ref m0, .ref m1, .ref m2, .ref m3, .ref m4, .ref m5, .ref m6, .ref m7, .ref m8, .int mi, .int me, .ref m9, .int gn, .ref m10, .ref m11, .ref m12, .ref m13, .ref m14, .int op, .ref m15, .int u_13.2, .int mb, .int mv, .int mr, .int mf, .int md, .int sp, .int mw, .int it, .int mx, .int fa, .int ro, .int pp, .int fm])), (m7, .inl (cI, 4, .inl (upd uc r.toNatClampNeg ((uc r.toNatClampNeg) - 1)))), (m8, .inl (cI, 40, .inl un)), (m15, .inl (cI, 61, .inl u_13.1))])) (wr := [(m7, .inl (cI, 4, .inl (upd uc r.toNatClampNeg ((uc r.toNatClampNeg) - 1)))), (m8, .inl (cI, 40, .inl un))]) (ci := 6) (q0 := 0) (q := (RX9, TX9, 35)) (As := [.int (un ((10 * r) + ((upd uc r.toNatClampNeg ((uc r.toNatClampNeg) - 1)) r.toNatClampNeg)).toNatClampNeg)]) (rest := []) ⟨hx, hb, hml, hown, hts⟩ (c_X9_push l dC dI cI _ aX m0 m1 m2 m3 m4 m5 m6 m7 m8 m9 m10 m11 m12 m13 m14 m15 st cn op mx tp fa ro pp fm sp it gn mi me mb mv mr mf md mw (un ((10 * r) + ((upd uc r.toNatClampNeg ((uc r.toNatClampNeg) - 1)) r.toNatClampNeg)).toNatClampNeg) (q_X9_ofUser_10 ht1 ht2 hu1 hu2 hr_1 c_2 c_4 c_5) (q_X9_ofUser_11 ht1 ht2 hu1 hu2 hr_1 c_2 c_4 c_5)) (cwV 1 hts gX9_ofUser_X9_push rfl rfl rfl (by decide +kernel) ⟨Nat.le_of_ble_eq_true rfl, Nat.le_of_ble_eq_true rfl⟩) hK hP hD hS hA [0, 3] [1, 2] [2, 0, 1, 3] rfl rfl (by decide) (fun _ => rfl) rfl rfl rfl hl.1 rfl (Nat.le_of_ble_eq_true rfl) dX9_ofUser_62 ⟨Nat.zero_le _, Nat.zero_le _⟩ (fun r_12 u_13 H locs hr_12 hP hD hS => ?_)
        obtain ⟨st_14, tp_15⟩ := u_13
        have hP : va_P (dC, dI) vwCl [(aX, .inr (6, [.int cn, .ref m0, .ref m1, .ref m2, .ref m3, .ref m4, .ref m5, .ref m6, .ref m7, .ref m8, .int mi, .int me, .ref m9, .int gn, .ref m10, .ref m11, .ref m12, .ref m13, .ref m14, .int op, .ref m15, .int tp_15, .int mb, .int mv, .int mr, .int mf, .int md, .int sp, .int mw, .int it, .int mx, .int fa, .int ro, .int pp, .int fm])), (m7, .inl (cI, 4, .inl (upd uc r.toNatClampNeg ((uc r.toNatClampNeg) - 1)))), (m8, .inl (cI, 40, .inl un)), (m15, .inl (cI, 61, .inl st_14))] H := hP
        have hD : va_D A [(aX, .inr (6, [.int cn, .ref m0, .ref m1, .ref m2, .ref m3, .ref m4, .ref m5, .ref m6, .ref m7, .ref m8, .int mi, .int me, .ref m9, .int gn, .ref m10, .ref m11, .ref m12, .ref m13, .ref m14, .int op, .ref m15, .int tp_15, .int mb, .int mv, .int mr, .int mf, .int md, .int sp, .int mw, .int it, .int mx, .int fa, .int ro, .int pp, .int fm])), (m7, .inl (cI, 4, .inl (upd uc r.toNatClampNeg ((uc r.toNatClampNeg) - 1)))), (m8, .inl (cI, 40, .inl un)), (m15, .inl (cI, 61, .inl st_14))] := hD
        obtain ⟨hr_12_0, hr_12_1, hr_12_2⟩ := hr_12
        have hr_12_0 : r_12 = if tp = 60 then 8 else 0 := hr_12_0
        have hr_12_1 : st_14 = if tp = 60 then st else upd st tp.toNatClampNeg (sx (un ((10 * r) + ((upd uc r.toNatClampNeg ((uc r.toNatClampNeg) - 1)) r.toNatClampNeg)).toNatClampNeg)) := hr_12_1
        have hr_12_2 : tp_15 = if tp = 60 then tp else tp + 1 := hr_12_2
        exact e_wi hx hb hr hlocks dX9_ofUser_65 hK hS (st_14, tp_15, upd uc r.toNatClampNeg ((uc r.toNatClampNeg) - 1)) hP hD (q_X9_ofUser_16 ht1 ht2 hu1 hu2 hr_1 c_2 c_4 c_5 hr_12_0 hr_12_1 hr_12_2)
      · skip
        refine lv_bipush (v := 8) hx hb dX9_ofUser_32 (by decide) ?_
        exact e_wi hx hb hr hlocks dX9_ofUser_34 hK hS (st, tp, uc) hP hD (q_X9_ofUser_17 ht1 ht2 hu1 hu2 hr_1 c_2 c_4 c_5)
    · skip
      refine lv_iconst (v := 1) hx hb dX9_ofUser_21 (by decide) ?_
      exact e_wi hx hb hr hlocks dX9_ofUser_22 hK hS (st, tp, uc) hP hD (q_X9_ofUser_18 ht1 ht2 hu1 hu2 hr_1 c_2 c_4)
  · skip
    refine lv_bipush (v := 10) hx hb dX9_ofUser_9 (by decide) ?_
    exact e_wi hx hb hr hlocks dX9_ofUser_11 hK hS (st, tp, uc) hP hD (q_X9_ofUser_19 ht1 ht2 hu1 hu2 hr_1 c_2)

theorem q_X9_onLocal_3 {lc : Nat → Int32} {fr : Nat → Int32} {fl : Nat → Int32} {ba : Nat → Int32} {cn : Int32} {op : Int32} {tp : Int32} {o : Int32} {x_1 : Int32} (ho1 : 1 ≤ op) (ho2 : op ≤ 25) (hb1 : 0 ≤ ba (op - 1).toNatClampNeg) (hb2 : ba (op - 1).toNatClampNeg ≤ tp) (ht2 : tp ≤ 60) (hoo : o = 1 ∨ o = 2) (hcn2 : cn ≤ 20) (hlc1 : ∀ j, 0 ≤ lc j) (hlc2 : ∀ j, lc j ≤ 15) (hfg : fl (op - 1).toNatClampNeg = lc (fr (op - 1).toNatClampNeg).toNatClampNeg) (hfr1 : ∀ j, 0 ≤ fr j) (hfr2 : ∀ j, fr j < cn) (ex_1 : x_1 = (op - 1)) (c_2 : ¬ o = 2) : vp_in x_1 25 := by
  exact in_of (c := 25) (by decide) (by (try subst_vars) <;> grind) (by (try subst_vars) <;> grind)
theorem q_X9_onLocal_4 {lc : Nat → Int32} {fr : Nat → Int32} {fl : Nat → Int32} {ba : Nat → Int32} {cn : Int32} {op : Int32} {tp : Int32} {o : Int32} {x_1 : Int32} (ho1 : 1 ≤ op) (ho2 : op ≤ 25) (hb1 : 0 ≤ ba (op - 1).toNatClampNeg) (hb2 : ba (op - 1).toNatClampNeg ≤ tp) (ht2 : tp ≤ 60) (hoo : o = 1 ∨ o = 2) (hcn2 : cn ≤ 20) (hlc1 : ∀ j, 0 ≤ lc j) (hlc2 : ∀ j, lc j ≤ 15) (hfg : fl (op - 1).toNatClampNeg = lc (fr (op - 1).toNatClampNeg).toNatClampNeg) (hfr1 : ∀ j, 0 ≤ fr j) (hfr2 : ∀ j, fr j < cn) (ex_1 : x_1 = (op - 1)) (c_2 : ¬ o = 2) : vp_in (fr x_1.toNatClampNeg) 20 := by
  exact in_of (c := 20) (by decide) (by (try subst_vars) <;> grind) (by (try subst_vars) <;> grind)
theorem q_X9_onLocal_6 {lc : Nat → Int32} {fr : Nat → Int32} {fl : Nat → Int32} {ba : Nat → Int32} {cn : Int32} {op : Int32} {tp : Int32} {o : Int32} {x_1 : Int32} (ho1 : 1 ≤ op) (ho2 : op ≤ 25) (hb1 : 0 ≤ ba (op - 1).toNatClampNeg) (hb2 : ba (op - 1).toNatClampNeg ≤ tp) (ht2 : tp ≤ 60) (hoo : o = 1 ∨ o = 2) (hcn2 : cn ≤ 20) (hlc1 : ∀ j, 0 ≤ lc j) (hlc2 : ∀ j, lc j ≤ 15) (hfg : fl (op - 1).toNatClampNeg = lc (fr (op - 1).toNatClampNeg).toNatClampNeg) (hfr1 : ∀ j, 0 ≤ fr j) (hfr2 : ∀ j, fr j < cn) (ex_1 : x_1 = (op - 1)) (c_2 : ¬ o = 2) : 0 ≤ (lc (fr x_1.toNatClampNeg).toNatClampNeg) := by
  (try subst_vars) <;> grind
theorem q_X9_onLocal_9 {lc : Nat → Int32} {fr : Nat → Int32} {fl : Nat → Int32} {ba : Nat → Int32} {cn : Int32} {op : Int32} {tp : Int32} {k : Int32} {o : Int32} {x_1 : Int32} {r_5 : Int32} (ho1 : 1 ≤ op) (ho2 : op ≤ 25) (hb1 : 0 ≤ ba (op - 1).toNatClampNeg) (hb2 : ba (op - 1).toNatClampNeg ≤ tp) (ht2 : tp ≤ 60) (hoo : o = 1 ∨ o = 2) (hcn2 : cn ≤ 20) (hlc1 : ∀ j, 0 ≤ lc j) (hlc2 : ∀ j, lc j ≤ 15) (hfg : fl (op - 1).toNatClampNeg = lc (fr (op - 1).toNatClampNeg).toNatClampNeg) (hfr1 : ∀ j, 0 ≤ fr j) (hfr2 : ∀ j, fr j < cn) (ex_1 : x_1 = (op - 1)) (c_2 : ¬ o = 2) (hr_5 : r_5 = if 0 ≤ k ∧ k < (lc (fr x_1.toNatClampNeg).toNatClampNeg) then 1 else 0) (c_7 : ¬ r_5 = 0) (c_8 : ¬ o = 1) : vp_in (tp - 1) 61 := by
  exact in_of (c := 61) (by decide) (by (try subst_vars) <;> grind) (by (try subst_vars) <;> grind)
theorem q_X9_onLocal_10 {lc : Nat → Int32} {fr : Nat → Int32} {fl : Nat → Int32} {ba : Nat → Int32} {cn : Int32} {op : Int32} {tp : Int32} {k : Int32} {o : Int32} {x_1 : Int32} {r_5 : Int32} (ho1 : 1 ≤ op) (ho2 : op ≤ 25) (hb1 : 0 ≤ ba (op - 1).toNatClampNeg) (hb2 : ba (op - 1).toNatClampNeg ≤ tp) (ht2 : tp ≤ 60) (hoo : o = 1 ∨ o = 2) (hcn2 : cn ≤ 20) (hlc1 : ∀ j, 0 ≤ lc j) (hlc2 : ∀ j, lc j ≤ 15) (hfg : fl (op - 1).toNatClampNeg = lc (fr (op - 1).toNatClampNeg).toNatClampNeg) (hfr1 : ∀ j, 0 ≤ fr j) (hfr2 : ∀ j, fr j < cn) (ex_1 : x_1 = (op - 1)) (c_2 : ¬ o = 2) (hr_5 : r_5 = if 0 ≤ k ∧ k < (lc (fr x_1.toNatClampNeg).toNatClampNeg) then 1 else 0) (c_7 : ¬ r_5 = 0) (c_8 : ¬ o = 1) : vp_in ((15 * x_1) + k) 375 := by
  exact in_of (c := 375) (by decide) (by (try subst_vars) <;> grind) (by (try subst_vars) <;> grind)
theorem q_X9_onLocal_11 {lc : Nat → Int32} {fr : Nat → Int32} {fl : Nat → Int32} {ba : Nat → Int32} {vs : Nat → Int32} {st : Nat → Int32} {cn : Int32} {op : Int32} {tp : Int32} {k : Int32} {o : Int32} {x_1 : Int32} {r_5 : Int32} (ho1 : 1 ≤ op) (ho2 : op ≤ 25) (hb1 : 0 ≤ ba (op - 1).toNatClampNeg) (hb2 : ba (op - 1).toNatClampNeg ≤ tp) (ht2 : tp ≤ 60) (hoo : o = 1 ∨ o = 2) (hcn2 : cn ≤ 20) (hlc1 : ∀ j, 0 ≤ lc j) (hlc2 : ∀ j, lc j ≤ 15) (hfg : fl (op - 1).toNatClampNeg = lc (fr (op - 1).toNatClampNeg).toNatClampNeg) (hfr1 : ∀ j, 0 ≤ fr j) (hfr2 : ∀ j, fr j < cn) (ex_1 : x_1 = (op - 1)) (c_2 : ¬ o = 2) (hr_5 : r_5 = if 0 ≤ k ∧ k < (lc (fr x_1.toNatClampNeg).toNatClampNeg) then 1 else 0) (c_7 : ¬ r_5 = 0) (c_8 : ¬ o = 1) : (o = 1 → ((0 : Int32), st, (tp - 1)) = f_load k op tp fl vs st ∧ (upd vs ((15 * x_1) + k).toNatClampNeg (st (tp - 1).toNatClampNeg)) = vs) ∧ (o = 2 → ((0 : Int32), (upd vs ((15 * x_1) + k).toNatClampNeg (st (tp - 1).toNatClampNeg)), (tp - 1)) = f_store k op tp fl ba vs st ∧ st = st) := by
  (try subst_vars) <;> (try simp only [upd_s, upd_upd, sb1p, as1] at *) <;> simp only [f_load, f_store, f_push] <;> grind
theorem q_X9_onLocal_12 {lc : Nat → Int32} {fr : Nat → Int32} {fl : Nat → Int32} {ba : Nat → Int32} {cn : Int32} {op : Int32} {tp : Int32} {k : Int32} {o : Int32} {x_1 : Int32} {r_5 : Int32} (ho1 : 1 ≤ op) (ho2 : op ≤ 25) (hb1 : 0 ≤ ba (op - 1).toNatClampNeg) (hb2 : ba (op - 1).toNatClampNeg ≤ tp) (ht2 : tp ≤ 60) (hoo : o = 1 ∨ o = 2) (hcn2 : cn ≤ 20) (hlc1 : ∀ j, 0 ≤ lc j) (hlc2 : ∀ j, lc j ≤ 15) (hfg : fl (op - 1).toNatClampNeg = lc (fr (op - 1).toNatClampNeg).toNatClampNeg) (hfr1 : ∀ j, 0 ≤ fr j) (hfr2 : ∀ j, fr j < cn) (ex_1 : x_1 = (op - 1)) (c_2 : ¬ o = 2) (hr_5 : r_5 = if 0 ≤ k ∧ k < (lc (fr x_1.toNatClampNeg).toNatClampNeg) then 1 else 0) (c_7 : ¬ r_5 = 0) (c_8 : o = 1) : vp_in ((15 * x_1) + k) 375 := by
  exact in_of (c := 375) (by decide) (by (try subst_vars) <;> grind) (by (try subst_vars) <;> grind)
theorem q_X9_onLocal_13 {lc : Nat → Int32} {fr : Nat → Int32} {fl : Nat → Int32} {ba : Nat → Int32} {cn : Int32} {op : Int32} {tp : Int32} {k : Int32} {o : Int32} {x_1 : Int32} {r_5 : Int32} (ho1 : 1 ≤ op) (ho2 : op ≤ 25) (hb1 : 0 ≤ ba (op - 1).toNatClampNeg) (hb2 : ba (op - 1).toNatClampNeg ≤ tp) (ht2 : tp ≤ 60) (hoo : o = 1 ∨ o = 2) (hcn2 : cn ≤ 20) (hlc1 : ∀ j, 0 ≤ lc j) (hlc2 : ∀ j, lc j ≤ 15) (hfg : fl (op - 1).toNatClampNeg = lc (fr (op - 1).toNatClampNeg).toNatClampNeg) (hfr1 : ∀ j, 0 ≤ fr j) (hfr2 : ∀ j, fr j < cn) (ex_1 : x_1 = (op - 1)) (c_2 : ¬ o = 2) (hr_5 : r_5 = if 0 ≤ k ∧ k < (lc (fr x_1.toNatClampNeg).toNatClampNeg) then 1 else 0) (c_7 : ¬ r_5 = 0) (c_8 : o = 1) : 0 ≤ tp := by
  (try subst_vars) <;> grind
theorem q_X9_onLocal_14 {lc : Nat → Int32} {fr : Nat → Int32} {fl : Nat → Int32} {ba : Nat → Int32} {cn : Int32} {op : Int32} {tp : Int32} {k : Int32} {o : Int32} {x_1 : Int32} {r_5 : Int32} (ho1 : 1 ≤ op) (ho2 : op ≤ 25) (hb1 : 0 ≤ ba (op - 1).toNatClampNeg) (hb2 : ba (op - 1).toNatClampNeg ≤ tp) (ht2 : tp ≤ 60) (hoo : o = 1 ∨ o = 2) (hcn2 : cn ≤ 20) (hlc1 : ∀ j, 0 ≤ lc j) (hlc2 : ∀ j, lc j ≤ 15) (hfg : fl (op - 1).toNatClampNeg = lc (fr (op - 1).toNatClampNeg).toNatClampNeg) (hfr1 : ∀ j, 0 ≤ fr j) (hfr2 : ∀ j, fr j < cn) (ex_1 : x_1 = (op - 1)) (c_2 : ¬ o = 2) (hr_5 : r_5 = if 0 ≤ k ∧ k < (lc (fr x_1.toNatClampNeg).toNatClampNeg) then 1 else 0) (c_7 : ¬ r_5 = 0) (c_8 : o = 1) : tp ≤ 60 := by
  (try subst_vars) <;> grind
theorem q_X9_onLocal_19 {lc : Nat → Int32} {fr : Nat → Int32} {fl : Nat → Int32} {ba : Nat → Int32} {vs : Nat → Int32} {st : Nat → Int32} {cn : Int32} {op : Int32} {tp : Int32} {k : Int32} {o : Int32} {x_1 : Int32} {r_5 : Int32} {st_17 : Nat → Int32} {tp_18 : Int32} {r_15 : Int32} (ho1 : 1 ≤ op) (ho2 : op ≤ 25) (hb1 : 0 ≤ ba (op - 1).toNatClampNeg) (hb2 : ba (op - 1).toNatClampNeg ≤ tp) (ht2 : tp ≤ 60) (hoo : o = 1 ∨ o = 2) (hcn2 : cn ≤ 20) (hlc1 : ∀ j, 0 ≤ lc j) (hlc2 : ∀ j, lc j ≤ 15) (hfg : fl (op - 1).toNatClampNeg = lc (fr (op - 1).toNatClampNeg).toNatClampNeg) (hfr1 : ∀ j, 0 ≤ fr j) (hfr2 : ∀ j, fr j < cn) (ex_1 : x_1 = (op - 1)) (c_2 : ¬ o = 2) (hr_5 : r_5 = if 0 ≤ k ∧ k < (lc (fr x_1.toNatClampNeg).toNatClampNeg) then 1 else 0) (c_7 : ¬ r_5 = 0) (c_8 : o = 1) (hr_15_0 : r_15 = if tp = 60 then 8 else 0) (hr_15_1 : st_17 = if tp = 60 then st else upd st tp.toNatClampNeg (sx (vs ((15 * x_1) + k).toNatClampNeg))) (hr_15_2 : tp_18 = if tp = 60 then tp else tp + 1) : (o = 1 → (r_15, st_17, tp_18) = f_load k op tp fl vs st ∧ vs = vs) ∧ (o = 2 → (r_15, vs, tp_18) = f_store k op tp fl ba vs st ∧ st_17 = st) := by
  (try subst_vars) <;> (try simp only [upd_s, upd_upd, sb1p, as1] at *) <;> simp only [f_load, f_store, f_push] <;> grind
theorem q_X9_onLocal_20 {lc : Nat → Int32} {fr : Nat → Int32} {fl : Nat → Int32} {ba : Nat → Int32} {vs : Nat → Int32} {st : Nat → Int32} {cn : Int32} {op : Int32} {tp : Int32} {k : Int32} {o : Int32} {x_1 : Int32} {r_5 : Int32} (ho1 : 1 ≤ op) (ho2 : op ≤ 25) (hb1 : 0 ≤ ba (op - 1).toNatClampNeg) (hb2 : ba (op - 1).toNatClampNeg ≤ tp) (ht2 : tp ≤ 60) (hoo : o = 1 ∨ o = 2) (hcn2 : cn ≤ 20) (hlc1 : ∀ j, 0 ≤ lc j) (hlc2 : ∀ j, lc j ≤ 15) (hfg : fl (op - 1).toNatClampNeg = lc (fr (op - 1).toNatClampNeg).toNatClampNeg) (hfr1 : ∀ j, 0 ≤ fr j) (hfr2 : ∀ j, fr j < cn) (ex_1 : x_1 = (op - 1)) (c_2 : ¬ o = 2) (hr_5 : r_5 = if 0 ≤ k ∧ k < (lc (fr x_1.toNatClampNeg).toNatClampNeg) then 1 else 0) (c_7 : r_5 = 0) : (o = 1 → ((2 : Int32), st, tp) = f_load k op tp fl vs st ∧ vs = vs) ∧ (o = 2 → ((2 : Int32), vs, tp) = f_store k op tp fl ba vs st ∧ st = st) := by
  (try subst_vars) <;> (try simp only [upd_s, upd_upd, sb1p, as1] at *) <;> simp only [f_load, f_store, f_push] <;> grind
theorem q_X9_onLocal_21 {lc : Nat → Int32} {fr : Nat → Int32} {fl : Nat → Int32} {ba : Nat → Int32} {cn : Int32} {op : Int32} {tp : Int32} {o : Int32} {x_1 : Int32} (ho1 : 1 ≤ op) (ho2 : op ≤ 25) (hb1 : 0 ≤ ba (op - 1).toNatClampNeg) (hb2 : ba (op - 1).toNatClampNeg ≤ tp) (ht2 : tp ≤ 60) (hoo : o = 1 ∨ o = 2) (hcn2 : cn ≤ 20) (hlc1 : ∀ j, 0 ≤ lc j) (hlc2 : ∀ j, lc j ≤ 15) (hfg : fl (op - 1).toNatClampNeg = lc (fr (op - 1).toNatClampNeg).toNatClampNeg) (hfr1 : ∀ j, 0 ≤ fr j) (hfr2 : ∀ j, fr j < cn) (ex_1 : x_1 = (op - 1)) (c_2 : o = 2) : 1 ≤ op := by
  (try subst_vars) <;> grind
theorem q_X9_onLocal_22 {lc : Nat → Int32} {fr : Nat → Int32} {fl : Nat → Int32} {ba : Nat → Int32} {cn : Int32} {op : Int32} {tp : Int32} {o : Int32} {x_1 : Int32} (ho1 : 1 ≤ op) (ho2 : op ≤ 25) (hb1 : 0 ≤ ba (op - 1).toNatClampNeg) (hb2 : ba (op - 1).toNatClampNeg ≤ tp) (ht2 : tp ≤ 60) (hoo : o = 1 ∨ o = 2) (hcn2 : cn ≤ 20) (hlc1 : ∀ j, 0 ≤ lc j) (hlc2 : ∀ j, lc j ≤ 15) (hfg : fl (op - 1).toNatClampNeg = lc (fr (op - 1).toNatClampNeg).toNatClampNeg) (hfr1 : ∀ j, 0 ≤ fr j) (hfr2 : ∀ j, fr j < cn) (ex_1 : x_1 = (op - 1)) (c_2 : o = 2) : op ≤ 25 := by
  (try subst_vars) <;> grind
theorem q_X9_onLocal_25 {lc : Nat → Int32} {fr : Nat → Int32} {fl : Nat → Int32} {ba : Nat → Int32} {cn : Int32} {op : Int32} {tp : Int32} {o : Int32} {x_1 : Int32} {r_23 : Int32} (ho1 : 1 ≤ op) (ho2 : op ≤ 25) (hb1 : 0 ≤ ba (op - 1).toNatClampNeg) (hb2 : ba (op - 1).toNatClampNeg ≤ tp) (ht2 : tp ≤ 60) (hoo : o = 1 ∨ o = 2) (hcn2 : cn ≤ 20) (hlc1 : ∀ j, 0 ≤ lc j) (hlc2 : ∀ j, lc j ≤ 15) (hfg : fl (op - 1).toNatClampNeg = lc (fr (op - 1).toNatClampNeg).toNatClampNeg) (hfr1 : ∀ j, 0 ≤ fr j) (hfr2 : ∀ j, fr j < cn) (ex_1 : x_1 = (op - 1)) (c_2 : o = 2) (hr_23 : r_23 = tp - ba (op - 1).toNatClampNeg) (c_24 : 1 ≤ r_23) : vp_in x_1 25 := by
  exact in_of (c := 25) (by decide) (by (try subst_vars) <;> grind) (by (try subst_vars) <;> grind)
theorem q_X9_onLocal_26 {lc : Nat → Int32} {fr : Nat → Int32} {fl : Nat → Int32} {ba : Nat → Int32} {cn : Int32} {op : Int32} {tp : Int32} {o : Int32} {x_1 : Int32} {r_23 : Int32} (ho1 : 1 ≤ op) (ho2 : op ≤ 25) (hb1 : 0 ≤ ba (op - 1).toNatClampNeg) (hb2 : ba (op - 1).toNatClampNeg ≤ tp) (ht2 : tp ≤ 60) (hoo : o = 1 ∨ o = 2) (hcn2 : cn ≤ 20) (hlc1 : ∀ j, 0 ≤ lc j) (hlc2 : ∀ j, lc j ≤ 15) (hfg : fl (op - 1).toNatClampNeg = lc (fr (op - 1).toNatClampNeg).toNatClampNeg) (hfr1 : ∀ j, 0 ≤ fr j) (hfr2 : ∀ j, fr j < cn) (ex_1 : x_1 = (op - 1)) (c_2 : o = 2) (hr_23 : r_23 = tp - ba (op - 1).toNatClampNeg) (c_24 : 1 ≤ r_23) : vp_in (fr x_1.toNatClampNeg) 20 := by
  exact in_of (c := 20) (by decide) (by (try subst_vars) <;> grind) (by (try subst_vars) <;> grind)
theorem q_X9_onLocal_28 {lc : Nat → Int32} {fr : Nat → Int32} {fl : Nat → Int32} {ba : Nat → Int32} {cn : Int32} {op : Int32} {tp : Int32} {o : Int32} {x_1 : Int32} {r_23 : Int32} (ho1 : 1 ≤ op) (ho2 : op ≤ 25) (hb1 : 0 ≤ ba (op - 1).toNatClampNeg) (hb2 : ba (op - 1).toNatClampNeg ≤ tp) (ht2 : tp ≤ 60) (hoo : o = 1 ∨ o = 2) (hcn2 : cn ≤ 20) (hlc1 : ∀ j, 0 ≤ lc j) (hlc2 : ∀ j, lc j ≤ 15) (hfg : fl (op - 1).toNatClampNeg = lc (fr (op - 1).toNatClampNeg).toNatClampNeg) (hfr1 : ∀ j, 0 ≤ fr j) (hfr2 : ∀ j, fr j < cn) (ex_1 : x_1 = (op - 1)) (c_2 : o = 2) (hr_23 : r_23 = tp - ba (op - 1).toNatClampNeg) (c_24 : 1 ≤ r_23) : 0 ≤ (lc (fr x_1.toNatClampNeg).toNatClampNeg) := by
  (try subst_vars) <;> grind
theorem q_X9_onLocal_31 {lc : Nat → Int32} {fr : Nat → Int32} {fl : Nat → Int32} {ba : Nat → Int32} {cn : Int32} {op : Int32} {tp : Int32} {k : Int32} {o : Int32} {x_1 : Int32} {r_23 : Int32} {r_27 : Int32} (ho1 : 1 ≤ op) (ho2 : op ≤ 25) (hb1 : 0 ≤ ba (op - 1).toNatClampNeg) (hb2 : ba (op - 1).toNatClampNeg ≤ tp) (ht2 : tp ≤ 60) (hoo : o = 1 ∨ o = 2) (hcn2 : cn ≤ 20) (hlc1 : ∀ j, 0 ≤ lc j) (hlc2 : ∀ j, lc j ≤ 15) (hfg : fl (op - 1).toNatClampNeg = lc (fr (op - 1).toNatClampNeg).toNatClampNeg) (hfr1 : ∀ j, 0 ≤ fr j) (hfr2 : ∀ j, fr j < cn) (ex_1 : x_1 = (op - 1)) (c_2 : o = 2) (hr_23 : r_23 = tp - ba (op - 1).toNatClampNeg) (c_24 : 1 ≤ r_23) (hr_27 : r_27 = if 0 ≤ k ∧ k < (lc (fr x_1.toNatClampNeg).toNatClampNeg) then 1 else 0) (c_29 : ¬ r_27 = 0) (c_30 : ¬ o = 1) : vp_in (tp - 1) 61 := by
  exact in_of (c := 61) (by decide) (by (try subst_vars) <;> grind) (by (try subst_vars) <;> grind)
theorem q_X9_onLocal_32 {lc : Nat → Int32} {fr : Nat → Int32} {fl : Nat → Int32} {ba : Nat → Int32} {cn : Int32} {op : Int32} {tp : Int32} {k : Int32} {o : Int32} {x_1 : Int32} {r_23 : Int32} {r_27 : Int32} (ho1 : 1 ≤ op) (ho2 : op ≤ 25) (hb1 : 0 ≤ ba (op - 1).toNatClampNeg) (hb2 : ba (op - 1).toNatClampNeg ≤ tp) (ht2 : tp ≤ 60) (hoo : o = 1 ∨ o = 2) (hcn2 : cn ≤ 20) (hlc1 : ∀ j, 0 ≤ lc j) (hlc2 : ∀ j, lc j ≤ 15) (hfg : fl (op - 1).toNatClampNeg = lc (fr (op - 1).toNatClampNeg).toNatClampNeg) (hfr1 : ∀ j, 0 ≤ fr j) (hfr2 : ∀ j, fr j < cn) (ex_1 : x_1 = (op - 1)) (c_2 : o = 2) (hr_23 : r_23 = tp - ba (op - 1).toNatClampNeg) (c_24 : 1 ≤ r_23) (hr_27 : r_27 = if 0 ≤ k ∧ k < (lc (fr x_1.toNatClampNeg).toNatClampNeg) then 1 else 0) (c_29 : ¬ r_27 = 0) (c_30 : ¬ o = 1) : vp_in ((15 * x_1) + k) 375 := by
  exact in_of (c := 375) (by decide) (by (try subst_vars) <;> grind) (by (try subst_vars) <;> grind)
theorem q_X9_onLocal_33 {lc : Nat → Int32} {fr : Nat → Int32} {fl : Nat → Int32} {ba : Nat → Int32} {vs : Nat → Int32} {st : Nat → Int32} {cn : Int32} {op : Int32} {tp : Int32} {k : Int32} {o : Int32} {x_1 : Int32} {r_23 : Int32} {r_27 : Int32} (ho1 : 1 ≤ op) (ho2 : op ≤ 25) (hb1 : 0 ≤ ba (op - 1).toNatClampNeg) (hb2 : ba (op - 1).toNatClampNeg ≤ tp) (ht2 : tp ≤ 60) (hoo : o = 1 ∨ o = 2) (hcn2 : cn ≤ 20) (hlc1 : ∀ j, 0 ≤ lc j) (hlc2 : ∀ j, lc j ≤ 15) (hfg : fl (op - 1).toNatClampNeg = lc (fr (op - 1).toNatClampNeg).toNatClampNeg) (hfr1 : ∀ j, 0 ≤ fr j) (hfr2 : ∀ j, fr j < cn) (ex_1 : x_1 = (op - 1)) (c_2 : o = 2) (hr_23 : r_23 = tp - ba (op - 1).toNatClampNeg) (c_24 : 1 ≤ r_23) (hr_27 : r_27 = if 0 ≤ k ∧ k < (lc (fr x_1.toNatClampNeg).toNatClampNeg) then 1 else 0) (c_29 : ¬ r_27 = 0) (c_30 : ¬ o = 1) : (o = 1 → ((0 : Int32), st, (tp - 1)) = f_load k op tp fl vs st ∧ (upd vs ((15 * x_1) + k).toNatClampNeg (st (tp - 1).toNatClampNeg)) = vs) ∧ (o = 2 → ((0 : Int32), (upd vs ((15 * x_1) + k).toNatClampNeg (st (tp - 1).toNatClampNeg)), (tp - 1)) = f_store k op tp fl ba vs st ∧ st = st) := by
  (try subst_vars) <;> (try simp only [upd_s, upd_upd, sb1p, as1] at *) <;> simp only [f_load, f_store, f_push] <;> grind
theorem q_X9_onLocal_34 {lc : Nat → Int32} {fr : Nat → Int32} {fl : Nat → Int32} {ba : Nat → Int32} {cn : Int32} {op : Int32} {tp : Int32} {k : Int32} {o : Int32} {x_1 : Int32} {r_23 : Int32} {r_27 : Int32} (ho1 : 1 ≤ op) (ho2 : op ≤ 25) (hb1 : 0 ≤ ba (op - 1).toNatClampNeg) (hb2 : ba (op - 1).toNatClampNeg ≤ tp) (ht2 : tp ≤ 60) (hoo : o = 1 ∨ o = 2) (hcn2 : cn ≤ 20) (hlc1 : ∀ j, 0 ≤ lc j) (hlc2 : ∀ j, lc j ≤ 15) (hfg : fl (op - 1).toNatClampNeg = lc (fr (op - 1).toNatClampNeg).toNatClampNeg) (hfr1 : ∀ j, 0 ≤ fr j) (hfr2 : ∀ j, fr j < cn) (ex_1 : x_1 = (op - 1)) (c_2 : o = 2) (hr_23 : r_23 = tp - ba (op - 1).toNatClampNeg) (c_24 : 1 ≤ r_23) (hr_27 : r_27 = if 0 ≤ k ∧ k < (lc (fr x_1.toNatClampNeg).toNatClampNeg) then 1 else 0) (c_29 : ¬ r_27 = 0) (c_30 : o = 1) : vp_in ((15 * x_1) + k) 375 := by
  exact in_of (c := 375) (by decide) (by (try subst_vars) <;> grind) (by (try subst_vars) <;> grind)
theorem q_X9_onLocal_35 {lc : Nat → Int32} {fr : Nat → Int32} {fl : Nat → Int32} {ba : Nat → Int32} {cn : Int32} {op : Int32} {tp : Int32} {k : Int32} {o : Int32} {x_1 : Int32} {r_23 : Int32} {r_27 : Int32} (ho1 : 1 ≤ op) (ho2 : op ≤ 25) (hb1 : 0 ≤ ba (op - 1).toNatClampNeg) (hb2 : ba (op - 1).toNatClampNeg ≤ tp) (ht2 : tp ≤ 60) (hoo : o = 1 ∨ o = 2) (hcn2 : cn ≤ 20) (hlc1 : ∀ j, 0 ≤ lc j) (hlc2 : ∀ j, lc j ≤ 15) (hfg : fl (op - 1).toNatClampNeg = lc (fr (op - 1).toNatClampNeg).toNatClampNeg) (hfr1 : ∀ j, 0 ≤ fr j) (hfr2 : ∀ j, fr j < cn) (ex_1 : x_1 = (op - 1)) (c_2 : o = 2) (hr_23 : r_23 = tp - ba (op - 1).toNatClampNeg) (c_24 : 1 ≤ r_23) (hr_27 : r_27 = if 0 ≤ k ∧ k < (lc (fr x_1.toNatClampNeg).toNatClampNeg) then 1 else 0) (c_29 : ¬ r_27 = 0) (c_30 : o = 1) : 0 ≤ tp := by
  (try subst_vars) <;> grind
theorem q_X9_onLocal_36 {lc : Nat → Int32} {fr : Nat → Int32} {fl : Nat → Int32} {ba : Nat → Int32} {cn : Int32} {op : Int32} {tp : Int32} {k : Int32} {o : Int32} {x_1 : Int32} {r_23 : Int32} {r_27 : Int32} (ho1 : 1 ≤ op) (ho2 : op ≤ 25) (hb1 : 0 ≤ ba (op - 1).toNatClampNeg) (hb2 : ba (op - 1).toNatClampNeg ≤ tp) (ht2 : tp ≤ 60) (hoo : o = 1 ∨ o = 2) (hcn2 : cn ≤ 20) (hlc1 : ∀ j, 0 ≤ lc j) (hlc2 : ∀ j, lc j ≤ 15) (hfg : fl (op - 1).toNatClampNeg = lc (fr (op - 1).toNatClampNeg).toNatClampNeg) (hfr1 : ∀ j, 0 ≤ fr j) (hfr2 : ∀ j, fr j < cn) (ex_1 : x_1 = (op - 1)) (c_2 : o = 2) (hr_23 : r_23 = tp - ba (op - 1).toNatClampNeg) (c_24 : 1 ≤ r_23) (hr_27 : r_27 = if 0 ≤ k ∧ k < (lc (fr x_1.toNatClampNeg).toNatClampNeg) then 1 else 0) (c_29 : ¬ r_27 = 0) (c_30 : o = 1) : tp ≤ 60 := by
  (try subst_vars) <;> grind
theorem q_X9_onLocal_41 {lc : Nat → Int32} {fr : Nat → Int32} {fl : Nat → Int32} {ba : Nat → Int32} {vs : Nat → Int32} {st : Nat → Int32} {cn : Int32} {op : Int32} {tp : Int32} {k : Int32} {o : Int32} {x_1 : Int32} {r_23 : Int32} {r_27 : Int32} {st_39 : Nat → Int32} {tp_40 : Int32} {r_37 : Int32} (ho1 : 1 ≤ op) (ho2 : op ≤ 25) (hb1 : 0 ≤ ba (op - 1).toNatClampNeg) (hb2 : ba (op - 1).toNatClampNeg ≤ tp) (ht2 : tp ≤ 60) (hoo : o = 1 ∨ o = 2) (hcn2 : cn ≤ 20) (hlc1 : ∀ j, 0 ≤ lc j) (hlc2 : ∀ j, lc j ≤ 15) (hfg : fl (op - 1).toNatClampNeg = lc (fr (op - 1).toNatClampNeg).toNatClampNeg) (hfr1 : ∀ j, 0 ≤ fr j) (hfr2 : ∀ j, fr j < cn) (ex_1 : x_1 = (op - 1)) (c_2 : o = 2) (hr_23 : r_23 = tp - ba (op - 1).toNatClampNeg) (c_24 : 1 ≤ r_23) (hr_27 : r_27 = if 0 ≤ k ∧ k < (lc (fr x_1.toNatClampNeg).toNatClampNeg) then 1 else 0) (c_29 : ¬ r_27 = 0) (c_30 : o = 1) (hr_37_0 : r_37 = if tp = 60 then 8 else 0) (hr_37_1 : st_39 = if tp = 60 then st else upd st tp.toNatClampNeg (sx (vs ((15 * x_1) + k).toNatClampNeg))) (hr_37_2 : tp_40 = if tp = 60 then tp else tp + 1) : (o = 1 → (r_37, st_39, tp_40) = f_load k op tp fl vs st ∧ vs = vs) ∧ (o = 2 → (r_37, vs, tp_40) = f_store k op tp fl ba vs st ∧ st_39 = st) := by
  (try subst_vars) <;> (try simp only [upd_s, upd_upd, sb1p, as1] at *) <;> simp only [f_load, f_store, f_push] <;> grind
theorem q_X9_onLocal_42 {lc : Nat → Int32} {fr : Nat → Int32} {fl : Nat → Int32} {ba : Nat → Int32} {vs : Nat → Int32} {st : Nat → Int32} {cn : Int32} {op : Int32} {tp : Int32} {k : Int32} {o : Int32} {x_1 : Int32} {r_23 : Int32} {r_27 : Int32} (ho1 : 1 ≤ op) (ho2 : op ≤ 25) (hb1 : 0 ≤ ba (op - 1).toNatClampNeg) (hb2 : ba (op - 1).toNatClampNeg ≤ tp) (ht2 : tp ≤ 60) (hoo : o = 1 ∨ o = 2) (hcn2 : cn ≤ 20) (hlc1 : ∀ j, 0 ≤ lc j) (hlc2 : ∀ j, lc j ≤ 15) (hfg : fl (op - 1).toNatClampNeg = lc (fr (op - 1).toNatClampNeg).toNatClampNeg) (hfr1 : ∀ j, 0 ≤ fr j) (hfr2 : ∀ j, fr j < cn) (ex_1 : x_1 = (op - 1)) (c_2 : o = 2) (hr_23 : r_23 = tp - ba (op - 1).toNatClampNeg) (c_24 : 1 ≤ r_23) (hr_27 : r_27 = if 0 ≤ k ∧ k < (lc (fr x_1.toNatClampNeg).toNatClampNeg) then 1 else 0) (c_29 : r_27 = 0) : (o = 1 → ((2 : Int32), st, tp) = f_load k op tp fl vs st ∧ vs = vs) ∧ (o = 2 → ((2 : Int32), vs, tp) = f_store k op tp fl ba vs st ∧ st = st) := by
  (try subst_vars) <;> (try simp only [upd_s, upd_upd, sb1p, as1] at *) <;> simp only [f_load, f_store, f_push] <;> grind
theorem q_X9_onLocal_43 {lc : Nat → Int32} {fr : Nat → Int32} {fl : Nat → Int32} {ba : Nat → Int32} {vs : Nat → Int32} {st : Nat → Int32} {cn : Int32} {op : Int32} {tp : Int32} {k : Int32} {o : Int32} {x_1 : Int32} {r_23 : Int32} (ho1 : 1 ≤ op) (ho2 : op ≤ 25) (hb1 : 0 ≤ ba (op - 1).toNatClampNeg) (hb2 : ba (op - 1).toNatClampNeg ≤ tp) (ht2 : tp ≤ 60) (hoo : o = 1 ∨ o = 2) (hcn2 : cn ≤ 20) (hlc1 : ∀ j, 0 ≤ lc j) (hlc2 : ∀ j, lc j ≤ 15) (hfg : fl (op - 1).toNatClampNeg = lc (fr (op - 1).toNatClampNeg).toNatClampNeg) (hfr1 : ∀ j, 0 ≤ fr j) (hfr2 : ∀ j, fr j < cn) (ex_1 : x_1 = (op - 1)) (c_2 : o = 2) (hr_23 : r_23 = tp - ba (op - 1).toNatClampNeg) (c_24 : ¬ 1 ≤ r_23) : (o = 1 → ((1 : Int32), st, tp) = f_load k op tp fl vs st ∧ vs = vs) ∧ (o = 2 → ((1 : Int32), vs, tp) = f_store k op tp fl ba vs st ∧ st = st) := by
  (try subst_vars) <;> (try simp only [upd_s, upd_upd, sb1p, as1] at *) <;> simp only [f_load, f_store, f_push] <;> grind
set_option maxHeartbeats 4000000 in
set_option maxRecDepth 100000 in
theorem c_X9_onLocal (l : Launch) (dC : Nat → ClassId) (dI : Nat → Nat → Nat) (cI : ClassId) (sz : Nat) (aX : Nat) (m0 : Nat) (m1 : Nat) (m2 : Nat) (m3 : Nat) (m4 : Nat) (m5 : Nat) (m6 : Nat) (m7 : Nat) (m8 : Nat) (m9 : Nat) (m10 : Nat) (m11 : Nat) (m12 : Nat) (m13 : Nat) (m14 : Nat) (m15 : Nat) (lc : Nat → Int32) (fr : Nat → Int32) (fl : Nat → Int32) (ba : Nat → Int32) (vs : Nat → Int32) (st : Nat → Int32) (cn : Int32) (op : Int32) (mx : Int32) (tp : Int32) (fa : Int32) (ro : Int32) (pp : Int32) (fm : Int32) (sp : Int32) (it : Int32) (gn : Int32) (mi : Int32) (me : Int32) (mb : Int32) (mv : Int32) (mr : Int32) (mf : Int32) (md : Int32) (mw : Int32) (k : Int32) (o : Int32) (ho1 : 1 ≤ op) (ho2 : op ≤ 25) (hb1 : 0 ≤ ba (op - 1).toNatClampNeg) (hb2 : ba (op - 1).toNatClampNeg ≤ tp) (ht2 : tp ≤ 60) (hoo : o = 1 ∨ o = 2) (hcn2 : cn ≤ 20) (hlc1 : ∀ j, 0 ≤ lc j) (hlc2 : ∀ j, lc j ≤ 15) (hfg : fl (op - 1).toNatClampNeg = lc (fr (op - 1).toNatClampNeg).toNatClampNeg) (hfr1 : ∀ j, 0 ≤ fr j) (hfr2 : ∀ j, fr j < cn) : mWi l yX9_onLocal wsX9_onLocal ({ frames := 1, cells := 0, slots := 0, locals := 22 }) [.ref aX, .int o, .int k] (dC, dI) [(cI, .int)] [(aX, .inr (6, [.int cn, .ref m0, .ref m1, .ref m2, .ref m3, .ref m4, .ref m5, .ref m6, .ref m7, .ref m8, .int mi, .int me, .ref m9, .int gn, .ref m10, .ref m11, .ref m12, .ref m13, .ref m14, .int op, .ref m15, .int tp, .int mb, .int mv, .int mr, .int mf, .int md, .int sp, .int mw, .int it, .int mx, .int fa, .int ro, .int pp, .int fm])), (m0, .inl (cI, 20, .inl lc)), (m10, .inl (cI, 25, .inl fr)), (m12, .inl (cI, 25, .inl ba)), (m14, .inl (cI, 375, .inl vs)), (m15, .inl (cI, 61, .inl st))] sz (fun (v : Int32) (u : (Nat → Int32) × (Int32) × (Nat → Int32)) => (o = 1 → (v, u.1, u.2.1) = f_load k op tp fl vs st ∧ u.2.2 = vs) ∧ (o = 2 → (v, u.2.2, u.2.1) = f_store k op tp fl ba vs st ∧ u.1 = st)) (fun u : (Nat → Int32) × (Int32) × (Nat → Int32) => [(aX, .inr (6, [.int cn, .ref m0, .ref m1, .ref m2, .ref m3, .ref m4, .ref m5, .ref m6, .ref m7, .ref m8, .int mi, .int me, .ref m9, .int gn, .ref m10, .ref m11, .ref m12, .ref m13, .ref m14, .int op, .ref m15, .int u.2.1, .int mb, .int mv, .int mr, .int mf, .int md, .int sp, .int mw, .int it, .int mx, .int fa, .int ro, .int pp, .int fm])), (m0, .inl (cI, 20, .inl lc)), (m10, .inl (cI, 25, .inl fr)), (m12, .inl (cI, 25, .inl ba)), (m14, .inl (cI, 375, .inl u.2.2)), (m15, .inl (cI, 61, .inl u.1))]) := by
  refine o_wi (cc := cX9_onLocal) (maxL := 4) (ret := (some .int)) (by decide) rfl (Nat.le_of_ble_eq_true rfl) ?_
  intro p e s m below meth c ls A hx hb hr hml hts hown hlocks hP hK hD hS hA hl
  have hown : s.vm.findClass RX9 = some m.cls := hown
  have hl : lv_has ls 4 [(0, .ref aX), (1, .int o), (2, .int k)] := hl
  have k_1 := hts (.fieldLink RX9 81 "ZRoutinesModel" "frames" "I") (List.mem_of_getElem? (i := 1) rfl)
  have k_2 := hts (.fieldLink RX9 7 "ZRoutinesModel" "locals" "[I") (List.mem_of_getElem? (i := 2) rfl)
  have k_3 := hts (.fieldLink RX9 47 "ZRoutinesModel" "of" "[I") (List.mem_of_getElem? (i := 3) rfl)
  have k_4 := hts (.fieldLink RX9 84 "ZRoutinesModel" "top" "I") (List.mem_of_getElem? (i := 5) rfl)
  have k_5 := hts (.fieldLink RX9 59 "ZRoutinesModel" "values" "[I") (List.mem_of_getElem? (i := 4) rfl)
  have k_6 := hts (.fieldLink RX9 62 "ZRoutinesModel" "stack" "[I") (List.mem_of_getElem? (i := 6) rfl)
  have i_X9 : ∀ w ∈ u_ws RX9 TX9 35, w ∈ wsX9_onLocal := fun _ h => List.mem_cons_of_mem _ (List.mem_append_right _ h)
  refine lv_aload_n hx hb dX9_onLocal_0 rfl (lv_at hl 0 rfl) ?_
  refine va_get (D := (dC, dI)) (ci := 6) (v := .int op) (C := RX9) (T := TX9) (N := 35) hx hb hts i_X9 hown hK hP 0 rfl rfl 19 (by decide) k_1 (fun _ h9 => h9) rfl dX9_onLocal_1 ?_
  refine lv_iconst (v := 1) hx hb dX9_onLocal_4 (by decide) ?_
  refine lv_isub hx hb dX9_onLocal_5 ?_
  refine lv_topi (fun x_1 ex_1 => ?_)
  refine lv_istore_n (lv' := [(3, .int x_1), (0, .ref aX), (1, .int o), (2, .int k)]) hx hb dX9_onLocal_6 rfl hl (by decide) rfl (fun ls hl => ?_)
  refine lv_iload_n hx hb dX9_onLocal_7 rfl (lv_at hl 2 rfl) ?_
  refine lv_iconst (v := 2) hx hb dX9_onLocal_8 (by decide) ?_
  refine lv_icmp_ne (tgt := 22) hx hb dX9_onLocal_9 (by decide) (fun c_2 => ?_) (fun c_2 => ?_)
  · skip
    refine lv_iload_n hx hb dX9_onLocal_22 rfl (lv_at hl 3 rfl) ?_
    refine lv_iconst (v := 0) hx hb dX9_onLocal_23 (by decide) ?_
    refine lv_aload_n hx hb dX9_onLocal_24 rfl (lv_at hl 1 rfl) ?_
    refine va_get (D := (dC, dI)) (ci := 6) (v := .ref m0) (C := RX9) (T := TX9) (N := 35) hx hb hts i_X9 hown hK hP 0 rfl rfl 1 (by decide) k_2 (fun _ h9 => h9) rfl dX9_onLocal_25 ?_
    refine lv_aload_n hx hb dX9_onLocal_28 rfl (lv_at hl 1 rfl) ?_
    refine va_get (D := (dC, dI)) (ci := 6) (v := .ref m10) (C := RX9) (T := TX9) (N := 35) hx hb hts i_X9 hown hK hP 0 rfl rfl 14 (by decide) k_3 (fun _ h9 => h9) rfl dX9_onLocal_29 ?_
    refine lv_iload_n hx hb dX9_onLocal_32 rfl (lv_at hl 0 rfl) ?_
    refine va_iald hx hb hK hP 2 0 rfl rfl (q_X9_onLocal_3 ho1 ho2 hb1 hb2 ht2 hoo hcn2 hlc1 hlc2 hfg hfr1 hfr2 ex_1 c_2) dX9_onLocal_33 ?_
    refine va_iald hx hb hK hP 1 0 rfl rfl (q_X9_onLocal_4 ho1 ho2 hb1 hb2 ht2 hoo hcn2 hlc1 hlc2 hfg hfr1 hfr2 ex_1 c_2) dX9_onLocal_34 ?_
    refine lv_iconst (v := 1) hx hb dX9_onLocal_35 (by decide) ?_
    refine lv_isub hx hb dX9_onLocal_36 ?_
    refine k_rs (As := [.int k, .int 0, .int ((lc (fr x_1.toNatClampNeg).toNatClampNeg) - 1)]) (rest := []) ⟨hx, hb, hml, hown, hts⟩ (c_X9_in l dC dI cI k 0 ((lc (fr x_1.toNatClampNeg).toNatClampNeg) - 1) ) (va_cwS 3 hts gX9_onLocal_X9_in rfl rfl rfl (by decide +kernel) ⟨Nat.le_of_ble_eq_true rfl, Nat.le_of_ble_eq_true rfl⟩) hK hP [] rfl rfl hl.1 rfl (Nat.le_of_ble_eq_true rfl) dX9_onLocal_37 ⟨Nat.zero_le _, Nat.zero_le _⟩ (fun r_5 hr_5 => ?_)
    have hr_5 : r_5 = if (0 : Int32) ≤ k ∧ k ≤ ((lc (fr x_1.toNatClampNeg).toNatClampNeg) - 1) then 1 else 0 := hr_5
    have hr_5 : r_5 = if 0 ≤ k ∧ k < (lc (fr x_1.toNatClampNeg).toNatClampNeg) then 1 else 0 := hr_5.trans (in_sub (q_X9_onLocal_6 ho1 ho2 hb1 hb2 ht2 hoo hcn2 hlc1 hlc2 hfg hfr1 hfr2 ex_1 c_2))
    refine lv_if_ne (tgt := 45) hx hb dX9_onLocal_40 (by decide) (fun c_7 => ?_) (fun c_7 => ?_)
    · skip
      refine lv_iload_n hx hb dX9_onLocal_45 rfl (lv_at hl 2 rfl) ?_
      refine lv_iconst (v := 1) hx hb dX9_onLocal_46 (by decide) ?_
      refine lv_icmp_ne (tgt := 66) hx hb dX9_onLocal_47 (by decide) (fun c_8 => ?_) (fun c_8 => ?_)
      · skip
        refine lv_aload_n hx hb dX9_onLocal_66 rfl (lv_at hl 1 rfl) ?_
        refine lv_dup hx hb dX9_onLocal_67 rfl ?_
        refine va_get (D := (dC, dI)) (ci := 6) (v := .int tp) (C := RX9) (T := TX9) (N := 35) hx hb hts i_X9 hown hK hP 0 rfl rfl 21 (by decide) k_4 (fun _ h9 => h9) rfl dX9_onLocal_68 ?_
        refine lv_iconst (v := 1) hx hb dX9_onLocal_71 (by decide) ?_
        refine lv_isub hx hb dX9_onLocal_72 ?_
        refine va_put (D := (dC, dI)) (ci := 6) (v := .int (tp - 1)) (ty := .int) (C := RX9) (T := TX9) (N := 35) hx hb hts i_X9 tyX9 tyX9_ok nmX9 hown hK hP hD hS 0 rfl rfl 21 (by decide) k_4 (fun _ h9 => h9) rfl (by decide +kernel) rfl rfl (Nat.le_of_ble_eq_true rfl) dX9_onLocal_73 (fun H locs hP hD hS => ?_)
        have hP : va_P (dC, dI) vwCl [(aX, .inr (6, [.int cn, .ref m0, .ref m1, .ref m2, .ref m3, .ref m4, .ref m5, .ref m6, .ref m7, .ref m8, .int mi, .int me, .ref m9, .int gn, .ref m10, .ref m11, .ref m12, .ref m13, .ref m14, .int op, .ref m15, .int (tp - 1), .int mb, .int mv, .int mr, .int mf, .int md, .int sp, .int mw, .int it, .int mx, .int fa, .int ro, .int pp, .int fm])), (m0, .inl (cI, 20, .inl lc)), (m10, .inl (cI, 25, .inl fr)), (m12, .inl (cI, 25, .inl ba)), (m14, .inl (cI, 375, .inl vs)), (m15, .inl (cI, 61, .inl st))] H := hP
        have hD : va_D A [(aX, .inr (6, [.int cn, .ref m0, .ref m1, .ref m2, .ref m3, .ref m4, .ref m5, .ref m6, .ref m7, .ref m8, .int mi, .int me, .ref m9, .int gn, .ref m10, .ref m11, .ref m12, .ref m13, .ref m14, .int op, .ref m15, .int (tp - 1), .int mb, .int mv, .int mr, .int mf, .int md, .int sp, .int mw, .int it, .int mx, .int fa, .int ro, .int pp, .int fm])), (m0, .inl (cI, 20, .inl lc)), (m10, .inl (cI, 25, .inl fr)), (m12, .inl (cI, 25, .inl ba)), (m14, .inl (cI, 375, .inl vs)), (m15, .inl (cI, 61, .inl st))] := hD
        refine lv_aload_n hx hb dX9_onLocal_76 rfl (lv_at hl 1 rfl) ?_
        refine va_get (D := (dC, dI)) (ci := 6) (v := .ref m14) (C := RX9) (T := TX9) (N := 35) hx hb hts i_X9 hown hK hP 0 rfl rfl 18 (by decide) k_5 (fun _ h9 => h9) rfl dX9_onLocal_77 ?_
        refine lv_bipush (v := 15) hx hb dX9_onLocal_80 (by decide) ?_
        refine lv_iload_n hx hb dX9_onLocal_82 rfl (lv_at hl 0 rfl) ?_
        refine lv_imul hx hb dX9_onLocal_83 ?_
        refine lv_iload_n hx hb dX9_onLocal_84 rfl (lv_at hl 3 rfl) ?_
        refine lv_iadd hx hb dX9_onLocal_85 ?_
        refine lv_aload_n hx hb dX9_onLocal_86 rfl (lv_at hl 1 rfl) ?_
        refine va_get (D := (dC, dI)) (ci := 6) (v := .ref m15) (C := RX9) (T := TX9) (N := 35) hx hb hts i_X9 hown hK hP 0 rfl rfl 20 (by decide) k_6 (fun _ h9 => h9) rfl dX9_onLocal_87 ?_
        refine lv_aload_n hx hb dX9_onLocal_90 rfl (lv_at hl 1 rfl) ?_
        refine va_get (D := (dC, dI)) (ci := 6) (v := .int (tp - 1)) (C := RX9) (T := TX9) (N := 35) hx hb hts i_X9 hown hK hP 0 rfl rfl 21 (by decide) k_4 (fun _ h9 => h9) rfl dX9_onLocal_91 ?_
        refine va_iald hx hb hK hP 5 0 rfl rfl (q_X9_onLocal_9 ho1 ho2 hb1 hb2 ht2 hoo hcn2 hlc1 hlc2 hfg hfr1 hfr2 ex_1 c_2 hr_5 c_7 c_8) dX9_onLocal_94 ?_
        refine va_iast hx hb hK hP hD hS 4 0 rfl rfl (q_X9_onLocal_10 ho1 ho2 hb1 hb2 ht2 hoo hcn2 hlc1 hlc2 hfg hfr1 hfr2 ex_1 c_2 hr_5 c_7 c_8) dX9_onLocal_95 (fun H locs hP hD hS => ?_)
        have hP : va_P (dC, dI) vwCl [(aX, .inr (6, [.int cn, .ref m0, .ref m1, .ref m2, .ref m3, .ref m4, .ref m5, .ref m6, .ref m7, .ref m8, .int mi, .int me, .ref m9, .int gn, .ref m10, .ref m11, .ref m12, .ref m13, .ref m14, .int op, .ref m15, .int (tp - 1), .int mb, .int mv, .int mr, .int mf, .int md, .int sp, .int mw, .int it, .int mx, .int fa, .int ro, .int pp, .int fm])), (m0, .inl (cI, 20, .inl lc)), (m10, .inl (cI, 25, .inl fr)), (m12, .inl (cI, 25, .inl ba)), (m14, .inl (cI, 375, .inl (upd vs ((15 * x_1) + k).toNatClampNeg (st (tp - 1).toNatClampNeg)))), (m15, .inl (cI, 61, .inl st))] H := hP
        have hD : va_D A [(aX, .inr (6, [.int cn, .ref m0, .ref m1, .ref m2, .ref m3, .ref m4, .ref m5, .ref m6, .ref m7, .ref m8, .int mi, .int me, .ref m9, .int gn, .ref m10, .ref m11, .ref m12, .ref m13, .ref m14, .int op, .ref m15, .int (tp - 1), .int mb, .int mv, .int mr, .int mf, .int md, .int sp, .int mw, .int it, .int mx, .int fa, .int ro, .int pp, .int fm])), (m0, .inl (cI, 20, .inl lc)), (m10, .inl (cI, 25, .inl fr)), (m12, .inl (cI, 25, .inl ba)), (m14, .inl (cI, 375, .inl (upd vs ((15 * x_1) + k).toNatClampNeg (st (tp - 1).toNatClampNeg)))), (m15, .inl (cI, 61, .inl st))] := hD
        refine lv_iconst (v := 0) hx hb dX9_onLocal_96 (by decide) ?_
        exact e_wi hx hb hr hlocks dX9_onLocal_97 hK hS (st, (tp - 1), upd vs ((15 * x_1) + k).toNatClampNeg (st (tp - 1).toNatClampNeg)) hP hD (q_X9_onLocal_11 ho1 ho2 hb1 hb2 ht2 hoo hcn2 hlc1 hlc2 hfg hfr1 hfr2 ex_1 c_2 hr_5 c_7 c_8)
      · skip
        refine lv_aload_n hx hb dX9_onLocal_50 rfl (lv_at hl 1 rfl) ?_
        refine lv_aload_n hx hb dX9_onLocal_51 rfl (lv_at hl 1 rfl) ?_
        refine va_get (D := (dC, dI)) (ci := 6) (v := .ref m14) (C := RX9) (T := TX9) (N := 35) hx hb hts i_X9 hown hK hP 0 rfl rfl 18 (by decide) k_5 (fun _ h9 => h9) rfl dX9_onLocal_52 ?_
        refine lv_bipush (v := 15) hx hb dX9_onLocal_55 (by decide) ?_
        refine lv_iload_n hx hb dX9_onLocal_57 rfl (lv_at hl 0 rfl) ?_
        refine lv_imul hx hb dX9_onLocal_58 ?_
        refine lv_iload_n hx hb dX9_onLocal_59 rfl (lv_at hl 3 rfl) ?_
        refine lv_iadd hx hb dX9_onLocal_60 ?_
        refine va_iald hx hb hK hP 4 0 rfl rfl (q_X9_onLocal_12 ho1 ho2 hb1 hb2 ht2 hoo hcn2 hlc1 hlc2 hfg hfr1 hfr2 ex_1 c_2 hr_5 c_7 c_8) dX9_onLocal_61 ?_
        refine k_wi (w2 := (fun u_16 : (Nat → Int32) × (Int32) => [(aX, .inr (6, [.int cn, .ref m0, .ref m1, .ref m2, .ref m3, .ref m4, .ref m5, .ref m6, .ref m7, .ref m8, .int mi, .int me, .ref m9, .int gn, .ref m10, .ref m11, .ref m12, .ref m13, .ref m14, .int op, .ref m15, .int u_16.2, .int mb, .int mv, .int mr, .int mf, .int md, .int sp, .int mw, .int it, .int mx, .int fa, .int ro, .int pp, .int fm])), (m0, .inl (cI, 20, .inl lc)), (m10, .inl (cI, 25, .inl fr)), (m12, .inl (cI, 25, .inl ba)), (m14, .inl (cI, 375, .inl vs)), (m15, .inl (cI, 61, .inl u_16.1))])) (wr := [(m0, .inl (cI, 20, .inl lc)), (m10, .inl (cI, 25, .inl fr)), (m12, .inl (cI, 25, .inl ba)), (m14, .inl (cI, 375, .inl vs))]) (ci := 6) (q0 := 0) (q := (RX9, TX9, 35)) (As := [.int (vs ((15 * x_1) + k).toNatClampNeg)]) (rest := []) ⟨hx, hb, hml, hown, hts⟩ (c_X9_push l dC dI cI _ aX m0 m1 m2 m3 m4 m5 m6 m7 m8 m9 m10 m11 m12 m13 m14 m15 st cn op mx tp fa ro pp fm sp it gn mi me mb mv mr mf md mw (vs ((15 * x_1) + k).toNatClampNeg) (q_X9_onLocal_13 ho1 ho2 hb1 hb2 ht2 hoo hcn2 hlc1 hlc2 hfg hfr1 hfr2 ex_1 c_2 hr_5 c_7 c_8) (q_X9_onLocal_14 ho1 ho2 hb1 hb2 ht2 hoo hcn2 hlc1 hlc2 hfg hfr1 hfr2 ex_1 c_2 hr_5 c_7 c_8)) (cwV 1 hts gX9_onLocal_X9_push rfl rfl rfl (by decide +kernel) ⟨Nat.le_of_ble_eq_true rfl, Nat.le_of_ble_eq_true rfl⟩) hK hP hD hS hA [0, 5] [1, 2, 3, 4] [4, 0, 1, 2, 3, 5] rfl rfl (by decide) (fun _ => rfl) rfl rfl rfl hl.1 rfl (Nat.le_of_ble_eq_true rfl) dX9_onLocal_62 ⟨Nat.zero_le _, Nat.zero_le _⟩ (fun r_15 u_16 H locs hr_15 hP hD hS => ?_)
        obtain ⟨st_17, tp_18⟩ := u_16
        have hP : va_P (dC, dI) vwCl [(aX, .inr (6, [.int cn, .ref m0, .ref m1, .ref m2, .ref m3, .ref m4, .ref m5, .ref m6, .ref m7, .ref m8, .int mi, .int me, .ref m9, .int gn, .ref m10, .ref m11, .ref m12, .ref m13, .ref m14, .int op, .ref m15, .int tp_18, .int mb, .int mv, .int mr, .int mf, .int md, .int sp, .int mw, .int it, .int mx, .int fa, .int ro, .int pp, .int fm])), (m0, .inl (cI, 20, .inl lc)), (m10, .inl (cI, 25, .inl fr)), (m12, .inl (cI, 25, .inl ba)), (m14, .inl (cI, 375, .inl vs)), (m15, .inl (cI, 61, .inl st_17))] H := hP
        have hD : va_D A [(aX, .inr (6, [.int cn, .ref m0, .ref m1, .ref m2, .ref m3, .ref m4, .ref m5, .ref m6, .ref m7, .ref m8, .int mi, .int me, .ref m9, .int gn, .ref m10, .ref m11, .ref m12, .ref m13, .ref m14, .int op, .ref m15, .int tp_18, .int mb, .int mv, .int mr, .int mf, .int md, .int sp, .int mw, .int it, .int mx, .int fa, .int ro, .int pp, .int fm])), (m0, .inl (cI, 20, .inl lc)), (m10, .inl (cI, 25, .inl fr)), (m12, .inl (cI, 25, .inl ba)), (m14, .inl (cI, 375, .inl vs)), (m15, .inl (cI, 61, .inl st_17))] := hD
        obtain ⟨hr_15_0, hr_15_1, hr_15_2⟩ := hr_15
        have hr_15_0 : r_15 = if tp = 60 then 8 else 0 := hr_15_0
        have hr_15_1 : st_17 = if tp = 60 then st else upd st tp.toNatClampNeg (sx (vs ((15 * x_1) + k).toNatClampNeg)) := hr_15_1
        have hr_15_2 : tp_18 = if tp = 60 then tp else tp + 1 := hr_15_2
        exact e_wi hx hb hr hlocks dX9_onLocal_65 hK hS (st_17, tp_18, vs) hP hD (q_X9_onLocal_19 ho1 ho2 hb1 hb2 ht2 hoo hcn2 hlc1 hlc2 hfg hfr1 hfr2 ex_1 c_2 hr_5 c_7 c_8 hr_15_0 hr_15_1 hr_15_2)
    · skip
      refine lv_iconst (v := 2) hx hb dX9_onLocal_43 (by decide) ?_
      exact e_wi hx hb hr hlocks dX9_onLocal_44 hK hS (st, tp, vs) hP hD (q_X9_onLocal_20 ho1 ho2 hb1 hb2 ht2 hoo hcn2 hlc1 hlc2 hfg hfr1 hfr2 ex_1 c_2 hr_5 c_7)
  · skip
    refine lv_aload_n hx hb dX9_onLocal_12 rfl (lv_at hl 1 rfl) ?_
    refine k_rd (ci := 6) (q0 := 0) (q := (RX9, TX9, 35)) (As := []) (rest := []) ⟨hx, hb, hml, hown, hts⟩ (c_X9_has l dC dI cI aX m0 m1 m2 m3 m4 m5 m6 m7 m8 m9 m10 m11 m12 m13 m14 m15 ba cn op mx tp fa ro pp fm sp it gn mi me mb mv mr mf md mw (q_X9_onLocal_21 ho1 ho2 hb1 hb2 ht2 hoo hcn2 hlc1 hlc2 hfg hfr1 hfr2 ex_1 c_2) (q_X9_onLocal_22 ho1 ho2 hb1 hb2 ht2 hoo hcn2 hlc1 hlc2 hfg hfr1 hfr2 ex_1 c_2)) (cwV 0 hts gX9_onLocal_X9_has rfl rfl rfl (by decide +kernel) ⟨Nat.le_of_ble_eq_true rfl, Nat.le_of_ble_eq_true rfl⟩) hK hP [0, 3] rfl rfl rfl rfl hl.1 rfl (Nat.le_of_ble_eq_true rfl) dX9_onLocal_13 ⟨Nat.zero_le _, Nat.zero_le _⟩ (fun r_23 hr_23 => ?_)
    have hr_23 : r_23 = tp - ba (op - 1).toNatClampNeg := hr_23
    refine lv_iconst (v := 1) hx hb dX9_onLocal_16 (by decide) ?_
    refine lv_icmp_ge (tgt := 22) hx hb dX9_onLocal_17 (by decide) (fun c_24 => ?_) (fun c_24 => ?_)
    · skip
      refine lv_iload_n hx hb dX9_onLocal_22 rfl (lv_at hl 3 rfl) ?_
      refine lv_iconst (v := 0) hx hb dX9_onLocal_23 (by decide) ?_
      refine lv_aload_n hx hb dX9_onLocal_24 rfl (lv_at hl 1 rfl) ?_
      refine va_get (D := (dC, dI)) (ci := 6) (v := .ref m0) (C := RX9) (T := TX9) (N := 35) hx hb hts i_X9 hown hK hP 0 rfl rfl 1 (by decide) k_2 (fun _ h9 => h9) rfl dX9_onLocal_25 ?_
      refine lv_aload_n hx hb dX9_onLocal_28 rfl (lv_at hl 1 rfl) ?_
      refine va_get (D := (dC, dI)) (ci := 6) (v := .ref m10) (C := RX9) (T := TX9) (N := 35) hx hb hts i_X9 hown hK hP 0 rfl rfl 14 (by decide) k_3 (fun _ h9 => h9) rfl dX9_onLocal_29 ?_
      refine lv_iload_n hx hb dX9_onLocal_32 rfl (lv_at hl 0 rfl) ?_
      refine va_iald hx hb hK hP 2 0 rfl rfl (q_X9_onLocal_25 ho1 ho2 hb1 hb2 ht2 hoo hcn2 hlc1 hlc2 hfg hfr1 hfr2 ex_1 c_2 hr_23 c_24) dX9_onLocal_33 ?_
      refine va_iald hx hb hK hP 1 0 rfl rfl (q_X9_onLocal_26 ho1 ho2 hb1 hb2 ht2 hoo hcn2 hlc1 hlc2 hfg hfr1 hfr2 ex_1 c_2 hr_23 c_24) dX9_onLocal_34 ?_
      refine lv_iconst (v := 1) hx hb dX9_onLocal_35 (by decide) ?_
      refine lv_isub hx hb dX9_onLocal_36 ?_
      refine k_rs (As := [.int k, .int 0, .int ((lc (fr x_1.toNatClampNeg).toNatClampNeg) - 1)]) (rest := []) ⟨hx, hb, hml, hown, hts⟩ (c_X9_in l dC dI cI k 0 ((lc (fr x_1.toNatClampNeg).toNatClampNeg) - 1) ) (va_cwS 3 hts gX9_onLocal_X9_in rfl rfl rfl (by decide +kernel) ⟨Nat.le_of_ble_eq_true rfl, Nat.le_of_ble_eq_true rfl⟩) hK hP [] rfl rfl hl.1 rfl (Nat.le_of_ble_eq_true rfl) dX9_onLocal_37 ⟨Nat.zero_le _, Nat.zero_le _⟩ (fun r_27 hr_27 => ?_)
      have hr_27 : r_27 = if (0 : Int32) ≤ k ∧ k ≤ ((lc (fr x_1.toNatClampNeg).toNatClampNeg) - 1) then 1 else 0 := hr_27
      have hr_27 : r_27 = if 0 ≤ k ∧ k < (lc (fr x_1.toNatClampNeg).toNatClampNeg) then 1 else 0 := hr_27.trans (in_sub (q_X9_onLocal_28 ho1 ho2 hb1 hb2 ht2 hoo hcn2 hlc1 hlc2 hfg hfr1 hfr2 ex_1 c_2 hr_23 c_24))
      refine lv_if_ne (tgt := 45) hx hb dX9_onLocal_40 (by decide) (fun c_29 => ?_) (fun c_29 => ?_)
      · skip
        refine lv_iload_n hx hb dX9_onLocal_45 rfl (lv_at hl 2 rfl) ?_
        refine lv_iconst (v := 1) hx hb dX9_onLocal_46 (by decide) ?_
        refine lv_icmp_ne (tgt := 66) hx hb dX9_onLocal_47 (by decide) (fun c_30 => ?_) (fun c_30 => ?_)
        · skip
          refine lv_aload_n hx hb dX9_onLocal_66 rfl (lv_at hl 1 rfl) ?_
          refine lv_dup hx hb dX9_onLocal_67 rfl ?_
          refine va_get (D := (dC, dI)) (ci := 6) (v := .int tp) (C := RX9) (T := TX9) (N := 35) hx hb hts i_X9 hown hK hP 0 rfl rfl 21 (by decide) k_4 (fun _ h9 => h9) rfl dX9_onLocal_68 ?_
          refine lv_iconst (v := 1) hx hb dX9_onLocal_71 (by decide) ?_
          refine lv_isub hx hb dX9_onLocal_72 ?_
          refine va_put (D := (dC, dI)) (ci := 6) (v := .int (tp - 1)) (ty := .int) (C := RX9) (T := TX9) (N := 35) hx hb hts i_X9 tyX9 tyX9_ok nmX9 hown hK hP hD hS 0 rfl rfl 21 (by decide) k_4 (fun _ h9 => h9) rfl (by decide +kernel) rfl rfl (Nat.le_of_ble_eq_true rfl) dX9_onLocal_73 (fun H locs hP hD hS => ?_)
          have hP : va_P (dC, dI) vwCl [(aX, .inr (6, [.int cn, .ref m0, .ref m1, .ref m2, .ref m3, .ref m4, .ref m5, .ref m6, .ref m7, .ref m8, .int mi, .int me, .ref m9, .int gn, .ref m10, .ref m11, .ref m12, .ref m13, .ref m14, .int op, .ref m15, .int (tp - 1), .int mb, .int mv, .int mr, .int mf, .int md, .int sp, .int mw, .int it, .int mx, .int fa, .int ro, .int pp, .int fm])), (m0, .inl (cI, 20, .inl lc)), (m10, .inl (cI, 25, .inl fr)), (m12, .inl (cI, 25, .inl ba)), (m14, .inl (cI, 375, .inl vs)), (m15, .inl (cI, 61, .inl st))] H := hP
          have hD : va_D A [(aX, .inr (6, [.int cn, .ref m0, .ref m1, .ref m2, .ref m3, .ref m4, .ref m5, .ref m6, .ref m7, .ref m8, .int mi, .int me, .ref m9, .int gn, .ref m10, .ref m11, .ref m12, .ref m13, .ref m14, .int op, .ref m15, .int (tp - 1), .int mb, .int mv, .int mr, .int mf, .int md, .int sp, .int mw, .int it, .int mx, .int fa, .int ro, .int pp, .int fm])), (m0, .inl (cI, 20, .inl lc)), (m10, .inl (cI, 25, .inl fr)), (m12, .inl (cI, 25, .inl ba)), (m14, .inl (cI, 375, .inl vs)), (m15, .inl (cI, 61, .inl st))] := hD
          refine lv_aload_n hx hb dX9_onLocal_76 rfl (lv_at hl 1 rfl) ?_
          refine va_get (D := (dC, dI)) (ci := 6) (v := .ref m14) (C := RX9) (T := TX9) (N := 35) hx hb hts i_X9 hown hK hP 0 rfl rfl 18 (by decide) k_5 (fun _ h9 => h9) rfl dX9_onLocal_77 ?_
          refine lv_bipush (v := 15) hx hb dX9_onLocal_80 (by decide) ?_
          refine lv_iload_n hx hb dX9_onLocal_82 rfl (lv_at hl 0 rfl) ?_
          refine lv_imul hx hb dX9_onLocal_83 ?_
          refine lv_iload_n hx hb dX9_onLocal_84 rfl (lv_at hl 3 rfl) ?_
          refine lv_iadd hx hb dX9_onLocal_85 ?_
          refine lv_aload_n hx hb dX9_onLocal_86 rfl (lv_at hl 1 rfl) ?_
          refine va_get (D := (dC, dI)) (ci := 6) (v := .ref m15) (C := RX9) (T := TX9) (N := 35) hx hb hts i_X9 hown hK hP 0 rfl rfl 20 (by decide) k_6 (fun _ h9 => h9) rfl dX9_onLocal_87 ?_
          refine lv_aload_n hx hb dX9_onLocal_90 rfl (lv_at hl 1 rfl) ?_
          refine va_get (D := (dC, dI)) (ci := 6) (v := .int (tp - 1)) (C := RX9) (T := TX9) (N := 35) hx hb hts i_X9 hown hK hP 0 rfl rfl 21 (by decide) k_4 (fun _ h9 => h9) rfl dX9_onLocal_91 ?_
          refine va_iald hx hb hK hP 5 0 rfl rfl (q_X9_onLocal_31 ho1 ho2 hb1 hb2 ht2 hoo hcn2 hlc1 hlc2 hfg hfr1 hfr2 ex_1 c_2 hr_23 c_24 hr_27 c_29 c_30) dX9_onLocal_94 ?_
          refine va_iast hx hb hK hP hD hS 4 0 rfl rfl (q_X9_onLocal_32 ho1 ho2 hb1 hb2 ht2 hoo hcn2 hlc1 hlc2 hfg hfr1 hfr2 ex_1 c_2 hr_23 c_24 hr_27 c_29 c_30) dX9_onLocal_95 (fun H locs hP hD hS => ?_)
          have hP : va_P (dC, dI) vwCl [(aX, .inr (6, [.int cn, .ref m0, .ref m1, .ref m2, .ref m3, .ref m4, .ref m5, .ref m6, .ref m7, .ref m8, .int mi, .int me, .ref m9, .int gn, .ref m10, .ref m11, .ref m12, .ref m13, .ref m14, .int op, .ref m15, .int (tp - 1), .int mb, .int mv, .int mr, .int mf, .int md, .int sp, .int mw, .int it, .int mx, .int fa, .int ro, .int pp, .int fm])), (m0, .inl (cI, 20, .inl lc)), (m10, .inl (cI, 25, .inl fr)), (m12, .inl (cI, 25, .inl ba)), (m14, .inl (cI, 375, .inl (upd vs ((15 * x_1) + k).toNatClampNeg (st (tp - 1).toNatClampNeg)))), (m15, .inl (cI, 61, .inl st))] H := hP
          have hD : va_D A [(aX, .inr (6, [.int cn, .ref m0, .ref m1, .ref m2, .ref m3, .ref m4, .ref m5, .ref m6, .ref m7, .ref m8, .int mi, .int me, .ref m9, .int gn, .ref m10, .ref m11, .ref m12, .ref m13, .ref m14, .int op, .ref m15, .int (tp - 1), .int mb, .int mv, .int mr, .int mf, .int md, .int sp, .int mw, .int it, .int mx, .int fa, .int ro, .int pp, .int fm])), (m0, .inl (cI, 20, .inl lc)), (m10, .inl (cI, 25, .inl fr)), (m12, .inl (cI, 25, .inl ba)), (m14, .inl (cI, 375, .inl (upd vs ((15 * x_1) + k).toNatClampNeg (st (tp - 1).toNatClampNeg)))), (m15, .inl (cI, 61, .inl st))] := hD
          refine lv_iconst (v := 0) hx hb dX9_onLocal_96 (by decide) ?_
          exact e_wi hx hb hr hlocks dX9_onLocal_97 hK hS (st, (tp - 1), upd vs ((15 * x_1) + k).toNatClampNeg (st (tp - 1).toNatClampNeg)) hP hD (q_X9_onLocal_33 ho1 ho2 hb1 hb2 ht2 hoo hcn2 hlc1 hlc2 hfg hfr1 hfr2 ex_1 c_2 hr_23 c_24 hr_27 c_29 c_30)
        · skip
          refine lv_aload_n hx hb dX9_onLocal_50 rfl (lv_at hl 1 rfl) ?_
          refine lv_aload_n hx hb dX9_onLocal_51 rfl (lv_at hl 1 rfl) ?_
          refine va_get (D := (dC, dI)) (ci := 6) (v := .ref m14) (C := RX9) (T := TX9) (N := 35) hx hb hts i_X9 hown hK hP 0 rfl rfl 18 (by decide) k_5 (fun _ h9 => h9) rfl dX9_onLocal_52 ?_
          refine lv_bipush (v := 15) hx hb dX9_onLocal_55 (by decide) ?_
          refine lv_iload_n hx hb dX9_onLocal_57 rfl (lv_at hl 0 rfl) ?_
          refine lv_imul hx hb dX9_onLocal_58 ?_
          refine lv_iload_n hx hb dX9_onLocal_59 rfl (lv_at hl 3 rfl) ?_
          refine lv_iadd hx hb dX9_onLocal_60 ?_
          refine va_iald hx hb hK hP 4 0 rfl rfl (q_X9_onLocal_34 ho1 ho2 hb1 hb2 ht2 hoo hcn2 hlc1 hlc2 hfg hfr1 hfr2 ex_1 c_2 hr_23 c_24 hr_27 c_29 c_30) dX9_onLocal_61 ?_
          refine k_wi (w2 := (fun u_38 : (Nat → Int32) × (Int32) => [(aX, .inr (6, [.int cn, .ref m0, .ref m1, .ref m2, .ref m3, .ref m4, .ref m5, .ref m6, .ref m7, .ref m8, .int mi, .int me, .ref m9, .int gn, .ref m10, .ref m11, .ref m12, .ref m13, .ref m14, .int op, .ref m15, .int u_38.2, .int mb, .int mv, .int mr, .int mf, .int md, .int sp, .int mw, .int it, .int mx, .int fa, .int ro, .int pp, .int fm])), (m0, .inl (cI, 20, .inl lc)), (m10, .inl (cI, 25, .inl fr)), (m12, .inl (cI, 25, .inl ba)), (m14, .inl (cI, 375, .inl vs)), (m15, .inl (cI, 61, .inl u_38.1))])) (wr := [(m0, .inl (cI, 20, .inl lc)), (m10, .inl (cI, 25, .inl fr)), (m12, .inl (cI, 25, .inl ba)), (m14, .inl (cI, 375, .inl vs))]) (ci := 6) (q0 := 0) (q := (RX9, TX9, 35)) (As := [.int (vs ((15 * x_1) + k).toNatClampNeg)]) (rest := []) ⟨hx, hb, hml, hown, hts⟩ (c_X9_push l dC dI cI _ aX m0 m1 m2 m3 m4 m5 m6 m7 m8 m9 m10 m11 m12 m13 m14 m15 st cn op mx tp fa ro pp fm sp it gn mi me mb mv mr mf md mw (vs ((15 * x_1) + k).toNatClampNeg) (q_X9_onLocal_35 ho1 ho2 hb1 hb2 ht2 hoo hcn2 hlc1 hlc2 hfg hfr1 hfr2 ex_1 c_2 hr_23 c_24 hr_27 c_29 c_30) (q_X9_onLocal_36 ho1 ho2 hb1 hb2 ht2 hoo hcn2 hlc1 hlc2 hfg hfr1 hfr2 ex_1 c_2 hr_23 c_24 hr_27 c_29 c_30)) (cwV 1 hts gX9_onLocal_X9_push rfl rfl rfl (by decide +kernel) ⟨Nat.le_of_ble_eq_true rfl, Nat.le_of_ble_eq_true rfl⟩) hK hP hD hS hA [0, 5] [1, 2, 3, 4] [4, 0, 1, 2, 3, 5] rfl rfl (by decide) (fun _ => rfl) rfl rfl rfl hl.1 rfl (Nat.le_of_ble_eq_true rfl) dX9_onLocal_62 ⟨Nat.zero_le _, Nat.zero_le _⟩ (fun r_37 u_38 H locs hr_37 hP hD hS => ?_)
          obtain ⟨st_39, tp_40⟩ := u_38
          have hP : va_P (dC, dI) vwCl [(aX, .inr (6, [.int cn, .ref m0, .ref m1, .ref m2, .ref m3, .ref m4, .ref m5, .ref m6, .ref m7, .ref m8, .int mi, .int me, .ref m9, .int gn, .ref m10, .ref m11, .ref m12, .ref m13, .ref m14, .int op, .ref m15, .int tp_40, .int mb, .int mv, .int mr, .int mf, .int md, .int sp, .int mw, .int it, .int mx, .int fa, .int ro, .int pp, .int fm])), (m0, .inl (cI, 20, .inl lc)), (m10, .inl (cI, 25, .inl fr)), (m12, .inl (cI, 25, .inl ba)), (m14, .inl (cI, 375, .inl vs)), (m15, .inl (cI, 61, .inl st_39))] H := hP
          have hD : va_D A [(aX, .inr (6, [.int cn, .ref m0, .ref m1, .ref m2, .ref m3, .ref m4, .ref m5, .ref m6, .ref m7, .ref m8, .int mi, .int me, .ref m9, .int gn, .ref m10, .ref m11, .ref m12, .ref m13, .ref m14, .int op, .ref m15, .int tp_40, .int mb, .int mv, .int mr, .int mf, .int md, .int sp, .int mw, .int it, .int mx, .int fa, .int ro, .int pp, .int fm])), (m0, .inl (cI, 20, .inl lc)), (m10, .inl (cI, 25, .inl fr)), (m12, .inl (cI, 25, .inl ba)), (m14, .inl (cI, 375, .inl vs)), (m15, .inl (cI, 61, .inl st_39))] := hD
          obtain ⟨hr_37_0, hr_37_1, hr_37_2⟩ := hr_37
          have hr_37_0 : r_37 = if tp = 60 then 8 else 0 := hr_37_0
          have hr_37_1 : st_39 = if tp = 60 then st else upd st tp.toNatClampNeg (sx (vs ((15 * x_1) + k).toNatClampNeg)) := hr_37_1
          have hr_37_2 : tp_40 = if tp = 60 then tp else tp + 1 := hr_37_2
          exact e_wi hx hb hr hlocks dX9_onLocal_65 hK hS (st_39, tp_40, vs) hP hD (q_X9_onLocal_41 ho1 ho2 hb1 hb2 ht2 hoo hcn2 hlc1 hlc2 hfg hfr1 hfr2 ex_1 c_2 hr_23 c_24 hr_27 c_29 c_30 hr_37_0 hr_37_1 hr_37_2)
      · skip
        refine lv_iconst (v := 2) hx hb dX9_onLocal_43 (by decide) ?_
        exact e_wi hx hb hr hlocks dX9_onLocal_44 hK hS (st, tp, vs) hP hD (q_X9_onLocal_42 ho1 ho2 hb1 hb2 ht2 hoo hcn2 hlc1 hlc2 hfg hfr1 hfr2 ex_1 c_2 hr_23 c_24 hr_27 c_29)
    · skip
      refine lv_iconst (v := 1) hx hb dX9_onLocal_20 (by decide) ?_
      exact e_wi hx hb hr hlocks dX9_onLocal_21 hK hS (st, tp, vs) hP hD (q_X9_onLocal_43 ho1 ho2 hb1 hb2 ht2 hoo hcn2 hlc1 hlc2 hfg hfr1 hfr2 ex_1 c_2 hr_23 c_24)

theorem q_X9_fails_2 {op : Int32} {mb : Int32} (ho1 : 1 ≤ op) (ho2 : op ≤ 25) (c_1 : mb < 0) : vp_in (op - 1) 25 := by
  exact in_of (c := 25) (by decide) (by grind) (by grind)
theorem q_X9_fails_3 {fr : Nat → Int32} {op : Int32} {mb : Int32} {k : Int32} {w : Int32} (ho1 : 1 ≤ op) (ho2 : op ≤ 25) (c_1 : mb < 0) : ((1 : Int32) = 1) ∧ ((3 : Int32) = 3) ∧ (k = if 0 ≤ mb then 11 else k) ∧ (k = if 0 ≤ mb then 11 else k) ∧ ((fr (op - 1).toNatClampNeg) = fr (op - 1).toNatClampNeg) ∧ (w = w) ∧ (op = op) := by
  grind
theorem q_X9_fails_4 {op : Int32} {mb : Int32} (ho1 : 1 ≤ op) (ho2 : op ≤ 25) (c_1 : ¬ mb < 0) : vp_in (op - 1) 25 := by
  exact in_of (c := 25) (by decide) (by grind) (by grind)
theorem q_X9_fails_5 {fr : Nat → Int32} {op : Int32} {mb : Int32} {k : Int32} {w : Int32} (ho1 : 1 ≤ op) (ho2 : op ≤ 25) (c_1 : ¬ mb < 0) : ((1 : Int32) = 1) ∧ ((3 : Int32) = 3) ∧ ((11 : Int32) = if 0 ≤ mb then 11 else k) ∧ ((11 : Int32) = if 0 ≤ mb then 11 else k) ∧ ((fr (op - 1).toNatClampNeg) = fr (op - 1).toNatClampNeg) ∧ (w = w) ∧ (op = op) := by
  grind
set_option maxHeartbeats 4000000 in
set_option maxRecDepth 100000 in
theorem c_X9_fails (l : Launch) (dC : Nat → ClassId) (dI : Nat → Nat → Nat) (cI : ClassId) (sz : Nat) (aX : Nat) (m0 : Nat) (m1 : Nat) (m2 : Nat) (m3 : Nat) (m4 : Nat) (m5 : Nat) (m6 : Nat) (m7 : Nat) (m8 : Nat) (m9 : Nat) (m10 : Nat) (m11 : Nat) (m12 : Nat) (m13 : Nat) (m14 : Nat) (m15 : Nat) (fr : Nat → Int32) (cn : Int32) (op : Int32) (mx : Int32) (tp : Int32) (fa : Int32) (ro : Int32) (pp : Int32) (fm : Int32) (sp : Int32) (it : Int32) (gn : Int32) (mi : Int32) (me : Int32) (mb : Int32) (mv : Int32) (mr : Int32) (mf : Int32) (md : Int32) (mw : Int32) (k : Int32) (w : Int32) (ho1 : 1 ≤ op) (ho2 : op ≤ 25) : mWv l yX9_fails wsX9_fails ({ frames := 0, cells := 0, slots := 0, locals := 0 }) [.ref aX, .int k, .int w] (dC, dI) [(cI, .int)] [(aX, .inr (6, [.int cn, .ref m0, .ref m1, .ref m2, .ref m3, .ref m4, .ref m5, .ref m6, .ref m7, .ref m8, .int mi, .int me, .ref m9, .int gn, .ref m10, .ref m11, .ref m12, .ref m13, .ref m14, .int op, .ref m15, .int tp, .int mb, .int mv, .int mr, .int mf, .int md, .int sp, .int mw, .int it, .int mx, .int fa, .int ro, .int pp, .int fm])), (m10, .inl (cI, 25, .inl fr))] sz (fun u : (Int32) × (Int32) × (Int32) × (Int32) × (Int32) × (Int32) × (Int32) => (u.1 = 1) ∧ (u.2.1 = 3) ∧ (u.2.2.1 = if 0 ≤ mb then 11 else k) ∧ (u.2.2.2.1 = if 0 ≤ mb then 11 else k) ∧ (u.2.2.2.2.1 = fr (op - 1).toNatClampNeg) ∧ (u.2.2.2.2.2.1 = w) ∧ (u.2.2.2.2.2.2 = op)) (fun u : (Int32) × (Int32) × (Int32) × (Int32) × (Int32) × (Int32) × (Int32) => [(aX, .inr (6, [.int cn, .ref m0, .ref m1, .ref m2, .ref m3, .ref m4, .ref m5, .ref m6, .ref m7, .ref m8, .int mi, .int me, .ref m9, .int gn, .ref m10, .ref m11, .ref m12, .ref m13, .ref m14, .int op, .ref m15, .int tp, .int mb, .int u.1, .int mr, .int u.2.2.1, .int u.2.1, .int sp, .int mw, .int it, .int mx, .int u.2.2.2.1, .int u.2.2.2.2.1, .int u.2.2.2.2.2.1, .int u.2.2.2.2.2.2])), (m10, .inl (cI, 25, .inl fr))]) := by
  refine o_wv (cc := cX9_fails) (maxL := 3) (ret := none) (by decide) rfl (Nat.le_of_ble_eq_true rfl) ?_
  intro p e s m below meth c ls A hx hb hr hml hts hown hlocks hP hK hD hS hA hl
  have hown : s.vm.findClass RX9 = some m.cls := hown
  have hl : lv_has ls 3 [(0, .ref aX), (1, .int k), (2, .int w)] := hl
  have k_1 := hts (.fieldLink RX9 93 "ZRoutinesModel" "isOver" "Z") (List.mem_of_getElem? (i := 1) rfl)
  have k_2 := hts (.fieldLink RX9 97 "ZRoutinesModel" "ended" "I") (List.mem_of_getElem? (i := 2) rfl)
  have k_3 := hts (.fieldLink RX9 90 "ZRoutinesModel" "base" "I") (List.mem_of_getElem? (i := 3) rfl)
  have k_4 := hts (.fieldLink RX9 138 "ZRoutinesModel" "fault" "I") (List.mem_of_getElem? (i := 4) rfl)
  have k_5 := hts (.fieldLink RX9 141 "ZRoutinesModel" "toldFault" "I") (List.mem_of_getElem? (i := 5) rfl)
  have k_6 := hts (.fieldLink RX9 47 "ZRoutinesModel" "of" "[I") (List.mem_of_getElem? (i := 6) rfl)
  have k_7 := hts (.fieldLink RX9 81 "ZRoutinesModel" "frames" "I") (List.mem_of_getElem? (i := 7) rfl)
  have k_8 := hts (.fieldLink RX9 144 "ZRoutinesModel" "toldRoutine" "I") (List.mem_of_getElem? (i := 8) rfl)
  have k_9 := hts (.fieldLink RX9 147 "ZRoutinesModel" "toldPlace" "I") (List.mem_of_getElem? (i := 9) rfl)
  have k_10 := hts (.fieldLink RX9 150 "ZRoutinesModel" "toldFrames" "I") (List.mem_of_getElem? (i := 10) rfl)
  have i_X9 : ∀ w ∈ u_ws RX9 TX9 35, w ∈ wsX9_fails := fun _ h => List.mem_cons_of_mem _ (List.mem_append_right _ h)
  refine lv_aload_n hx hb dX9_fails_0 rfl (lv_at hl 0 rfl) ?_
  refine lv_iconst (v := 1) hx hb dX9_fails_1 (by decide) ?_
  refine va_put (D := (dC, dI)) (ci := 6) (v := .int 1) (ty := .boolean) (C := RX9) (T := TX9) (N := 35) hx hb hts i_X9 tyX9 tyX9_ok nmX9 hown hK hP hD hS 0 rfl rfl 23 (by decide) k_1 (fun _ h9 => h9) rfl (by decide +kernel) rfl rfl (Nat.le_of_ble_eq_true rfl) dX9_fails_2 (fun H locs hP hD hS => ?_)
  have hP : va_P (dC, dI) vwCl [(aX, .inr (6, [.int cn, .ref m0, .ref m1, .ref m2, .ref m3, .ref m4, .ref m5, .ref m6, .ref m7, .ref m8, .int mi, .int me, .ref m9, .int gn, .ref m10, .ref m11, .ref m12, .ref m13, .ref m14, .int op, .ref m15, .int tp, .int mb, .int 1, .int mr, .int mf, .int md, .int sp, .int mw, .int it, .int mx, .int fa, .int ro, .int pp, .int fm])), (m10, .inl (cI, 25, .inl fr))] H := hP
  have hD : va_D A [(aX, .inr (6, [.int cn, .ref m0, .ref m1, .ref m2, .ref m3, .ref m4, .ref m5, .ref m6, .ref m7, .ref m8, .int mi, .int me, .ref m9, .int gn, .ref m10, .ref m11, .ref m12, .ref m13, .ref m14, .int op, .ref m15, .int tp, .int mb, .int 1, .int mr, .int mf, .int md, .int sp, .int mw, .int it, .int mx, .int fa, .int ro, .int pp, .int fm])), (m10, .inl (cI, 25, .inl fr))] := hD
  refine lv_aload_n hx hb dX9_fails_5 rfl (lv_at hl 0 rfl) ?_
  refine lv_iconst (v := 3) hx hb dX9_fails_6 (by decide) ?_
  refine va_put (D := (dC, dI)) (ci := 6) (v := .int 3) (ty := .int) (C := RX9) (T := TX9) (N := 35) hx hb hts i_X9 tyX9 tyX9_ok nmX9 hown hK hP hD hS 0 rfl rfl 26 (by decide) k_2 (fun _ h9 => h9) rfl (by decide +kernel) rfl rfl (Nat.le_of_ble_eq_true rfl) dX9_fails_7 (fun H locs hP hD hS => ?_)
  have hP : va_P (dC, dI) vwCl [(aX, .inr (6, [.int cn, .ref m0, .ref m1, .ref m2, .ref m3, .ref m4, .ref m5, .ref m6, .ref m7, .ref m8, .int mi, .int me, .ref m9, .int gn, .ref m10, .ref m11, .ref m12, .ref m13, .ref m14, .int op, .ref m15, .int tp, .int mb, .int 1, .int mr, .int mf, .int 3, .int sp, .int mw, .int it, .int mx, .int fa, .int ro, .int pp, .int fm])), (m10, .inl (cI, 25, .inl fr))] H := hP
  have hD : va_D A [(aX, .inr (6, [.int cn, .ref m0, .ref m1, .ref m2, .ref m3, .ref m4, .ref m5, .ref m6, .ref m7, .ref m8, .int mi, .int me, .ref m9, .int gn, .ref m10, .ref m11, .ref m12, .ref m13, .ref m14, .int op, .ref m15, .int tp, .int mb, .int 1, .int mr, .int mf, .int 3, .int sp, .int mw, .int it, .int mx, .int fa, .int ro, .int pp, .int fm])), (m10, .inl (cI, 25, .inl fr))] := hD
  refine lv_aload_n hx hb dX9_fails_10 rfl (lv_at hl 0 rfl) ?_
  refine lv_aload_n hx hb dX9_fails_11 rfl (lv_at hl 0 rfl) ?_
  refine va_get (D := (dC, dI)) (ci := 6) (v := .int mb) (C := RX9) (T := TX9) (N := 35) hx hb hts i_X9 hown hK hP 0 rfl rfl 22 (by decide) k_3 (fun _ h9 => h9) rfl dX9_fails_12 ?_
  refine lv_if_lt (tgt := 23) hx hb dX9_fails_15 (by decide) (fun c_1 => ?_) (fun c_1 => ?_)
  · skip
    refine lv_iload_n hx hb dX9_fails_23 rfl (lv_at hl 1 rfl) ?_
    refine va_put (D := (dC, dI)) (ci := 6) (v := .int k) (ty := .int) (C := RX9) (T := TX9) (N := 35) hx hb hts i_X9 tyX9 tyX9_ok nmX9 hown hK hP hD hS 0 rfl rfl 25 (by decide) k_4 (fun _ h9 => h9) rfl (by decide +kernel) rfl rfl (Nat.le_of_ble_eq_true rfl) dX9_fails_24 (fun H locs hP hD hS => ?_)
    have hP : va_P (dC, dI) vwCl [(aX, .inr (6, [.int cn, .ref m0, .ref m1, .ref m2, .ref m3, .ref m4, .ref m5, .ref m6, .ref m7, .ref m8, .int mi, .int me, .ref m9, .int gn, .ref m10, .ref m11, .ref m12, .ref m13, .ref m14, .int op, .ref m15, .int tp, .int mb, .int 1, .int mr, .int k, .int 3, .int sp, .int mw, .int it, .int mx, .int fa, .int ro, .int pp, .int fm])), (m10, .inl (cI, 25, .inl fr))] H := hP
    have hD : va_D A [(aX, .inr (6, [.int cn, .ref m0, .ref m1, .ref m2, .ref m3, .ref m4, .ref m5, .ref m6, .ref m7, .ref m8, .int mi, .int me, .ref m9, .int gn, .ref m10, .ref m11, .ref m12, .ref m13, .ref m14, .int op, .ref m15, .int tp, .int mb, .int 1, .int mr, .int k, .int 3, .int sp, .int mw, .int it, .int mx, .int fa, .int ro, .int pp, .int fm])), (m10, .inl (cI, 25, .inl fr))] := hD
    refine lv_aload_n hx hb dX9_fails_27 rfl (lv_at hl 0 rfl) ?_
    refine lv_aload_n hx hb dX9_fails_28 rfl (lv_at hl 0 rfl) ?_
    refine va_get (D := (dC, dI)) (ci := 6) (v := .int k) (C := RX9) (T := TX9) (N := 35) hx hb hts i_X9 hown hK hP 0 rfl rfl 25 (by decide) k_4 (fun _ h9 => h9) rfl dX9_fails_29 ?_
    refine va_put (D := (dC, dI)) (ci := 6) (v := .int k) (ty := .int) (C := RX9) (T := TX9) (N := 35) hx hb hts i_X9 tyX9 tyX9_ok nmX9 hown hK hP hD hS 0 rfl rfl 31 (by decide) k_5 (fun _ h9 => h9) rfl (by decide +kernel) rfl rfl (Nat.le_of_ble_eq_true rfl) dX9_fails_32 (fun H locs hP hD hS => ?_)
    have hP : va_P (dC, dI) vwCl [(aX, .inr (6, [.int cn, .ref m0, .ref m1, .ref m2, .ref m3, .ref m4, .ref m5, .ref m6, .ref m7, .ref m8, .int mi, .int me, .ref m9, .int gn, .ref m10, .ref m11, .ref m12, .ref m13, .ref m14, .int op, .ref m15, .int tp, .int mb, .int 1, .int mr, .int k, .int 3, .int sp, .int mw, .int it, .int mx, .int k, .int ro, .int pp, .int fm])), (m10, .inl (cI, 25, .inl fr))] H := hP
    have hD : va_D A [(aX, .inr (6, [.int cn, .ref m0, .ref m1, .ref m2, .ref m3, .ref m4, .ref m5, .ref m6, .ref m7, .ref m8, .int mi, .int me, .ref m9, .int gn, .ref m10, .ref m11, .ref m12, .ref m13, .ref m14, .int op, .ref m15, .int tp, .int mb, .int 1, .int mr, .int k, .int 3, .int sp, .int mw, .int it, .int mx, .int k, .int ro, .int pp, .int fm])), (m10, .inl (cI, 25, .inl fr))] := hD
    refine lv_aload_n hx hb dX9_fails_35 rfl (lv_at hl 0 rfl) ?_
    refine lv_aload_n hx hb dX9_fails_36 rfl (lv_at hl 0 rfl) ?_
    refine va_get (D := (dC, dI)) (ci := 6) (v := .ref m10) (C := RX9) (T := TX9) (N := 35) hx hb hts i_X9 hown hK hP 0 rfl rfl 14 (by decide) k_6 (fun _ h9 => h9) rfl dX9_fails_37 ?_
    refine lv_aload_n hx hb dX9_fails_40 rfl (lv_at hl 0 rfl) ?_
    refine va_get (D := (dC, dI)) (ci := 6) (v := .int op) (C := RX9) (T := TX9) (N := 35) hx hb hts i_X9 hown hK hP 0 rfl rfl 19 (by decide) k_7 (fun _ h9 => h9) rfl dX9_fails_41 ?_
    refine lv_iconst (v := 1) hx hb dX9_fails_44 (by decide) ?_
    refine lv_isub hx hb dX9_fails_45 ?_
    refine va_iald hx hb hK hP 1 0 rfl rfl (q_X9_fails_2 ho1 ho2 c_1) dX9_fails_46 ?_
    refine va_put (D := (dC, dI)) (ci := 6) (v := .int (fr (op - 1).toNatClampNeg)) (ty := .int) (C := RX9) (T := TX9) (N := 35) hx hb hts i_X9 tyX9 tyX9_ok nmX9 hown hK hP hD hS 0 rfl rfl 32 (by decide) k_8 (fun _ h9 => h9) rfl (by decide +kernel) rfl rfl (Nat.le_of_ble_eq_true rfl) dX9_fails_47 (fun H locs hP hD hS => ?_)
    have hP : va_P (dC, dI) vwCl [(aX, .inr (6, [.int cn, .ref m0, .ref m1, .ref m2, .ref m3, .ref m4, .ref m5, .ref m6, .ref m7, .ref m8, .int mi, .int me, .ref m9, .int gn, .ref m10, .ref m11, .ref m12, .ref m13, .ref m14, .int op, .ref m15, .int tp, .int mb, .int 1, .int mr, .int k, .int 3, .int sp, .int mw, .int it, .int mx, .int k, .int (fr (op - 1).toNatClampNeg), .int pp, .int fm])), (m10, .inl (cI, 25, .inl fr))] H := hP
    have hD : va_D A [(aX, .inr (6, [.int cn, .ref m0, .ref m1, .ref m2, .ref m3, .ref m4, .ref m5, .ref m6, .ref m7, .ref m8, .int mi, .int me, .ref m9, .int gn, .ref m10, .ref m11, .ref m12, .ref m13, .ref m14, .int op, .ref m15, .int tp, .int mb, .int 1, .int mr, .int k, .int 3, .int sp, .int mw, .int it, .int mx, .int k, .int (fr (op - 1).toNatClampNeg), .int pp, .int fm])), (m10, .inl (cI, 25, .inl fr))] := hD
    refine lv_aload_n hx hb dX9_fails_50 rfl (lv_at hl 0 rfl) ?_
    refine lv_iload_n hx hb dX9_fails_51 rfl (lv_at hl 2 rfl) ?_
    refine va_put (D := (dC, dI)) (ci := 6) (v := .int w) (ty := .int) (C := RX9) (T := TX9) (N := 35) hx hb hts i_X9 tyX9 tyX9_ok nmX9 hown hK hP hD hS 0 rfl rfl 33 (by decide) k_9 (fun _ h9 => h9) rfl (by decide +kernel) rfl rfl (Nat.le_of_ble_eq_true rfl) dX9_fails_52 (fun H locs hP hD hS => ?_)
    have hP : va_P (dC, dI) vwCl [(aX, .inr (6, [.int cn, .ref m0, .ref m1, .ref m2, .ref m3, .ref m4, .ref m5, .ref m6, .ref m7, .ref m8, .int mi, .int me, .ref m9, .int gn, .ref m10, .ref m11, .ref m12, .ref m13, .ref m14, .int op, .ref m15, .int tp, .int mb, .int 1, .int mr, .int k, .int 3, .int sp, .int mw, .int it, .int mx, .int k, .int (fr (op - 1).toNatClampNeg), .int w, .int fm])), (m10, .inl (cI, 25, .inl fr))] H := hP
    have hD : va_D A [(aX, .inr (6, [.int cn, .ref m0, .ref m1, .ref m2, .ref m3, .ref m4, .ref m5, .ref m6, .ref m7, .ref m8, .int mi, .int me, .ref m9, .int gn, .ref m10, .ref m11, .ref m12, .ref m13, .ref m14, .int op, .ref m15, .int tp, .int mb, .int 1, .int mr, .int k, .int 3, .int sp, .int mw, .int it, .int mx, .int k, .int (fr (op - 1).toNatClampNeg), .int w, .int fm])), (m10, .inl (cI, 25, .inl fr))] := hD
    refine lv_aload_n hx hb dX9_fails_55 rfl (lv_at hl 0 rfl) ?_
    refine lv_aload_n hx hb dX9_fails_56 rfl (lv_at hl 0 rfl) ?_
    refine va_get (D := (dC, dI)) (ci := 6) (v := .int op) (C := RX9) (T := TX9) (N := 35) hx hb hts i_X9 hown hK hP 0 rfl rfl 19 (by decide) k_7 (fun _ h9 => h9) rfl dX9_fails_57 ?_
    refine va_put (D := (dC, dI)) (ci := 6) (v := .int op) (ty := .int) (C := RX9) (T := TX9) (N := 35) hx hb hts i_X9 tyX9 tyX9_ok nmX9 hown hK hP hD hS 0 rfl rfl 34 (by decide) k_10 (fun _ h9 => h9) rfl (by decide +kernel) rfl rfl (Nat.le_of_ble_eq_true rfl) dX9_fails_60 (fun H locs hP hD hS => ?_)
    have hP : va_P (dC, dI) vwCl [(aX, .inr (6, [.int cn, .ref m0, .ref m1, .ref m2, .ref m3, .ref m4, .ref m5, .ref m6, .ref m7, .ref m8, .int mi, .int me, .ref m9, .int gn, .ref m10, .ref m11, .ref m12, .ref m13, .ref m14, .int op, .ref m15, .int tp, .int mb, .int 1, .int mr, .int k, .int 3, .int sp, .int mw, .int it, .int mx, .int k, .int (fr (op - 1).toNatClampNeg), .int w, .int op])), (m10, .inl (cI, 25, .inl fr))] H := hP
    have hD : va_D A [(aX, .inr (6, [.int cn, .ref m0, .ref m1, .ref m2, .ref m3, .ref m4, .ref m5, .ref m6, .ref m7, .ref m8, .int mi, .int me, .ref m9, .int gn, .ref m10, .ref m11, .ref m12, .ref m13, .ref m14, .int op, .ref m15, .int tp, .int mb, .int 1, .int mr, .int k, .int 3, .int sp, .int mw, .int it, .int mx, .int k, .int (fr (op - 1).toNatClampNeg), .int w, .int op])), (m10, .inl (cI, 25, .inl fr))] := hD
    exact e_wv hx hb hr hlocks dX9_fails_63 hK hS (1, 3, k, k, (fr (op - 1).toNatClampNeg), w, op) hP hD (q_X9_fails_3 ho1 ho2 c_1)
  · skip
    refine lv_bipush (v := 11) hx hb dX9_fails_18 (by decide) ?_
    refine lv_goto (tgt := 24) hx hb dX9_fails_20 (by decide) ?_
    refine va_put (D := (dC, dI)) (ci := 6) (v := .int 11) (ty := .int) (C := RX9) (T := TX9) (N := 35) hx hb hts i_X9 tyX9 tyX9_ok nmX9 hown hK hP hD hS 0 rfl rfl 25 (by decide) k_4 (fun _ h9 => h9) rfl (by decide +kernel) rfl rfl (Nat.le_of_ble_eq_true rfl) dX9_fails_24 (fun H locs hP hD hS => ?_)
    have hP : va_P (dC, dI) vwCl [(aX, .inr (6, [.int cn, .ref m0, .ref m1, .ref m2, .ref m3, .ref m4, .ref m5, .ref m6, .ref m7, .ref m8, .int mi, .int me, .ref m9, .int gn, .ref m10, .ref m11, .ref m12, .ref m13, .ref m14, .int op, .ref m15, .int tp, .int mb, .int 1, .int mr, .int 11, .int 3, .int sp, .int mw, .int it, .int mx, .int fa, .int ro, .int pp, .int fm])), (m10, .inl (cI, 25, .inl fr))] H := hP
    have hD : va_D A [(aX, .inr (6, [.int cn, .ref m0, .ref m1, .ref m2, .ref m3, .ref m4, .ref m5, .ref m6, .ref m7, .ref m8, .int mi, .int me, .ref m9, .int gn, .ref m10, .ref m11, .ref m12, .ref m13, .ref m14, .int op, .ref m15, .int tp, .int mb, .int 1, .int mr, .int 11, .int 3, .int sp, .int mw, .int it, .int mx, .int fa, .int ro, .int pp, .int fm])), (m10, .inl (cI, 25, .inl fr))] := hD
    refine lv_aload_n hx hb dX9_fails_27 rfl (lv_at hl 0 rfl) ?_
    refine lv_aload_n hx hb dX9_fails_28 rfl (lv_at hl 0 rfl) ?_
    refine va_get (D := (dC, dI)) (ci := 6) (v := .int 11) (C := RX9) (T := TX9) (N := 35) hx hb hts i_X9 hown hK hP 0 rfl rfl 25 (by decide) k_4 (fun _ h9 => h9) rfl dX9_fails_29 ?_
    refine va_put (D := (dC, dI)) (ci := 6) (v := .int 11) (ty := .int) (C := RX9) (T := TX9) (N := 35) hx hb hts i_X9 tyX9 tyX9_ok nmX9 hown hK hP hD hS 0 rfl rfl 31 (by decide) k_5 (fun _ h9 => h9) rfl (by decide +kernel) rfl rfl (Nat.le_of_ble_eq_true rfl) dX9_fails_32 (fun H locs hP hD hS => ?_)
    have hP : va_P (dC, dI) vwCl [(aX, .inr (6, [.int cn, .ref m0, .ref m1, .ref m2, .ref m3, .ref m4, .ref m5, .ref m6, .ref m7, .ref m8, .int mi, .int me, .ref m9, .int gn, .ref m10, .ref m11, .ref m12, .ref m13, .ref m14, .int op, .ref m15, .int tp, .int mb, .int 1, .int mr, .int 11, .int 3, .int sp, .int mw, .int it, .int mx, .int 11, .int ro, .int pp, .int fm])), (m10, .inl (cI, 25, .inl fr))] H := hP
    have hD : va_D A [(aX, .inr (6, [.int cn, .ref m0, .ref m1, .ref m2, .ref m3, .ref m4, .ref m5, .ref m6, .ref m7, .ref m8, .int mi, .int me, .ref m9, .int gn, .ref m10, .ref m11, .ref m12, .ref m13, .ref m14, .int op, .ref m15, .int tp, .int mb, .int 1, .int mr, .int 11, .int 3, .int sp, .int mw, .int it, .int mx, .int 11, .int ro, .int pp, .int fm])), (m10, .inl (cI, 25, .inl fr))] := hD
    refine lv_aload_n hx hb dX9_fails_35 rfl (lv_at hl 0 rfl) ?_
    refine lv_aload_n hx hb dX9_fails_36 rfl (lv_at hl 0 rfl) ?_
    refine va_get (D := (dC, dI)) (ci := 6) (v := .ref m10) (C := RX9) (T := TX9) (N := 35) hx hb hts i_X9 hown hK hP 0 rfl rfl 14 (by decide) k_6 (fun _ h9 => h9) rfl dX9_fails_37 ?_
    refine lv_aload_n hx hb dX9_fails_40 rfl (lv_at hl 0 rfl) ?_
    refine va_get (D := (dC, dI)) (ci := 6) (v := .int op) (C := RX9) (T := TX9) (N := 35) hx hb hts i_X9 hown hK hP 0 rfl rfl 19 (by decide) k_7 (fun _ h9 => h9) rfl dX9_fails_41 ?_
    refine lv_iconst (v := 1) hx hb dX9_fails_44 (by decide) ?_
    refine lv_isub hx hb dX9_fails_45 ?_
    refine va_iald hx hb hK hP 1 0 rfl rfl (q_X9_fails_4 ho1 ho2 c_1) dX9_fails_46 ?_
    refine va_put (D := (dC, dI)) (ci := 6) (v := .int (fr (op - 1).toNatClampNeg)) (ty := .int) (C := RX9) (T := TX9) (N := 35) hx hb hts i_X9 tyX9 tyX9_ok nmX9 hown hK hP hD hS 0 rfl rfl 32 (by decide) k_8 (fun _ h9 => h9) rfl (by decide +kernel) rfl rfl (Nat.le_of_ble_eq_true rfl) dX9_fails_47 (fun H locs hP hD hS => ?_)
    have hP : va_P (dC, dI) vwCl [(aX, .inr (6, [.int cn, .ref m0, .ref m1, .ref m2, .ref m3, .ref m4, .ref m5, .ref m6, .ref m7, .ref m8, .int mi, .int me, .ref m9, .int gn, .ref m10, .ref m11, .ref m12, .ref m13, .ref m14, .int op, .ref m15, .int tp, .int mb, .int 1, .int mr, .int 11, .int 3, .int sp, .int mw, .int it, .int mx, .int 11, .int (fr (op - 1).toNatClampNeg), .int pp, .int fm])), (m10, .inl (cI, 25, .inl fr))] H := hP
    have hD : va_D A [(aX, .inr (6, [.int cn, .ref m0, .ref m1, .ref m2, .ref m3, .ref m4, .ref m5, .ref m6, .ref m7, .ref m8, .int mi, .int me, .ref m9, .int gn, .ref m10, .ref m11, .ref m12, .ref m13, .ref m14, .int op, .ref m15, .int tp, .int mb, .int 1, .int mr, .int 11, .int 3, .int sp, .int mw, .int it, .int mx, .int 11, .int (fr (op - 1).toNatClampNeg), .int pp, .int fm])), (m10, .inl (cI, 25, .inl fr))] := hD
    refine lv_aload_n hx hb dX9_fails_50 rfl (lv_at hl 0 rfl) ?_
    refine lv_iload_n hx hb dX9_fails_51 rfl (lv_at hl 2 rfl) ?_
    refine va_put (D := (dC, dI)) (ci := 6) (v := .int w) (ty := .int) (C := RX9) (T := TX9) (N := 35) hx hb hts i_X9 tyX9 tyX9_ok nmX9 hown hK hP hD hS 0 rfl rfl 33 (by decide) k_9 (fun _ h9 => h9) rfl (by decide +kernel) rfl rfl (Nat.le_of_ble_eq_true rfl) dX9_fails_52 (fun H locs hP hD hS => ?_)
    have hP : va_P (dC, dI) vwCl [(aX, .inr (6, [.int cn, .ref m0, .ref m1, .ref m2, .ref m3, .ref m4, .ref m5, .ref m6, .ref m7, .ref m8, .int mi, .int me, .ref m9, .int gn, .ref m10, .ref m11, .ref m12, .ref m13, .ref m14, .int op, .ref m15, .int tp, .int mb, .int 1, .int mr, .int 11, .int 3, .int sp, .int mw, .int it, .int mx, .int 11, .int (fr (op - 1).toNatClampNeg), .int w, .int fm])), (m10, .inl (cI, 25, .inl fr))] H := hP
    have hD : va_D A [(aX, .inr (6, [.int cn, .ref m0, .ref m1, .ref m2, .ref m3, .ref m4, .ref m5, .ref m6, .ref m7, .ref m8, .int mi, .int me, .ref m9, .int gn, .ref m10, .ref m11, .ref m12, .ref m13, .ref m14, .int op, .ref m15, .int tp, .int mb, .int 1, .int mr, .int 11, .int 3, .int sp, .int mw, .int it, .int mx, .int 11, .int (fr (op - 1).toNatClampNeg), .int w, .int fm])), (m10, .inl (cI, 25, .inl fr))] := hD
    refine lv_aload_n hx hb dX9_fails_55 rfl (lv_at hl 0 rfl) ?_
    refine lv_aload_n hx hb dX9_fails_56 rfl (lv_at hl 0 rfl) ?_
    refine va_get (D := (dC, dI)) (ci := 6) (v := .int op) (C := RX9) (T := TX9) (N := 35) hx hb hts i_X9 hown hK hP 0 rfl rfl 19 (by decide) k_7 (fun _ h9 => h9) rfl dX9_fails_57 ?_
    refine va_put (D := (dC, dI)) (ci := 6) (v := .int op) (ty := .int) (C := RX9) (T := TX9) (N := 35) hx hb hts i_X9 tyX9 tyX9_ok nmX9 hown hK hP hD hS 0 rfl rfl 34 (by decide) k_10 (fun _ h9 => h9) rfl (by decide +kernel) rfl rfl (Nat.le_of_ble_eq_true rfl) dX9_fails_60 (fun H locs hP hD hS => ?_)
    have hP : va_P (dC, dI) vwCl [(aX, .inr (6, [.int cn, .ref m0, .ref m1, .ref m2, .ref m3, .ref m4, .ref m5, .ref m6, .ref m7, .ref m8, .int mi, .int me, .ref m9, .int gn, .ref m10, .ref m11, .ref m12, .ref m13, .ref m14, .int op, .ref m15, .int tp, .int mb, .int 1, .int mr, .int 11, .int 3, .int sp, .int mw, .int it, .int mx, .int 11, .int (fr (op - 1).toNatClampNeg), .int w, .int op])), (m10, .inl (cI, 25, .inl fr))] H := hP
    have hD : va_D A [(aX, .inr (6, [.int cn, .ref m0, .ref m1, .ref m2, .ref m3, .ref m4, .ref m5, .ref m6, .ref m7, .ref m8, .int mi, .int me, .ref m9, .int gn, .ref m10, .ref m11, .ref m12, .ref m13, .ref m14, .int op, .ref m15, .int tp, .int mb, .int 1, .int mr, .int 11, .int 3, .int sp, .int mw, .int it, .int mx, .int 11, .int (fr (op - 1).toNatClampNeg), .int w, .int op])), (m10, .inl (cI, 25, .inl fr))] := hD
    exact e_wv hx hb hr hlocks dX9_fails_63 hK hS (1, 3, 11, 11, (fr (op - 1).toNatClampNeg), w, op) hP hD (q_X9_fails_5 ho1 ho2 c_1)

theorem q_X9_closes_1 {ba : Nat → Int32} {k : Int32} (hk1 : 0 ≤ k) (hk2 : k ≤ 24) (hba1 : ∀ j, 0 ≤ ba j) (hba2 : ∀ j, ba j ≤ 60) : vp_in k 25 := by
  exact in_of (c := 25) (by decide) (by grind) (by grind)
theorem q_X9_closes_4 {ba : Nat → Int32} {mb : Int32} {k : Int32} (hk1 : 0 ≤ k) (hk2 : k ≤ 24) (hba1 : ∀ j, 0 ≤ ba j) (hba2 : ∀ j, ba j ≤ 60) (c_2 : ¬ k = mb) (c_3 : ¬ k = 0) : vp_in (ba k.toNatClampNeg) 61 := by
  exact in_of (c := 61) (by decide) (by grind) (by grind)
theorem q_X9_closes_5 {ba : Nat → Int32} {st : Nat → Int32} {mb : Int32} {mv : Int32} {mr : Int32} {md : Int32} {k : Int32} {w : Int32} (hk1 : 0 ≤ k) (hk2 : k ≤ 24) (hba1 : ∀ j, 0 ≤ ba j) (hba2 : ∀ j, ba j ≤ 60) (c_2 : ¬ k = mb) (c_3 : ¬ k = 0) : (k = k) ∧ (((ba k.toNatClampNeg) + 1) = if k = mb ∨ k = 0 then ba k.toNatClampNeg else ba k.toNatClampNeg + 1) ∧ ((upd st (ba k.toNatClampNeg).toNatClampNeg w) = if k = mb ∨ k = 0 then st else upd st (ba k.toNatClampNeg).toNatClampNeg w) ∧ (mb = if k = mb then -1 else mb) ∧ (mv = if k = mb then (if w = 0 then mv else 1) else if k = 0 then 1 else mv) ∧ (md = if k = mb then (if w = 0 then md else 2) else if k = 0 then 1 else md) ∧ (mr = if k = mb then (if w = 0 then mr else w) else if k = 0 then w else mr) := by
  grind
theorem q_X9_closes_6 {ba : Nat → Int32} {st : Nat → Int32} {mb : Int32} {mv : Int32} {mr : Int32} {md : Int32} {k : Int32} {w : Int32} (hk1 : 0 ≤ k) (hk2 : k ≤ 24) (hba1 : ∀ j, 0 ≤ ba j) (hba2 : ∀ j, ba j ≤ 60) (c_2 : ¬ k = mb) (c_3 : k = 0) : (k = k) ∧ ((ba k.toNatClampNeg) = if k = mb ∨ k = 0 then ba k.toNatClampNeg else ba k.toNatClampNeg + 1) ∧ (st = if k = mb ∨ k = 0 then st else upd st (ba k.toNatClampNeg).toNatClampNeg w) ∧ (mb = if k = mb then -1 else mb) ∧ ((1 : Int32) = if k = mb then (if w = 0 then mv else 1) else if k = 0 then 1 else mv) ∧ ((1 : Int32) = if k = mb then (if w = 0 then md else 2) else if k = 0 then 1 else md) ∧ (w = if k = mb then (if w = 0 then mr else w) else if k = 0 then w else mr) := by
  grind
theorem q_X9_closes_8 {ba : Nat → Int32} {st : Nat → Int32} {mb : Int32} {mv : Int32} {mr : Int32} {md : Int32} {k : Int32} {w : Int32} (hk1 : 0 ≤ k) (hk2 : k ≤ 24) (hba1 : ∀ j, 0 ≤ ba j) (hba2 : ∀ j, ba j ≤ 60) (c_2 : k = mb) (c_7 : w = 0) : (k = k) ∧ ((ba k.toNatClampNeg) = if k = mb ∨ k = 0 then ba k.toNatClampNeg else ba k.toNatClampNeg + 1) ∧ (st = if k = mb ∨ k = 0 then st else upd st (ba k.toNatClampNeg).toNatClampNeg w) ∧ ((-1 : Int32) = if k = mb then -1 else mb) ∧ (mv = if k = mb then (if w = 0 then mv else 1) else if k = 0 then 1 else mv) ∧ (md = if k = mb then (if w = 0 then md else 2) else if k = 0 then 1 else md) ∧ (mr = if k = mb then (if w = 0 then mr else w) else if k = 0 then w else mr) := by
  grind
theorem q_X9_closes_9 {ba : Nat → Int32} {st : Nat → Int32} {mb : Int32} {mv : Int32} {mr : Int32} {md : Int32} {k : Int32} {w : Int32} (hk1 : 0 ≤ k) (hk2 : k ≤ 24) (hba1 : ∀ j, 0 ≤ ba j) (hba2 : ∀ j, ba j ≤ 60) (c_2 : k = mb) (c_7 : ¬ w = 0) : (k = k) ∧ ((ba k.toNatClampNeg) = if k = mb ∨ k = 0 then ba k.toNatClampNeg else ba k.toNatClampNeg + 1) ∧ (st = if k = mb ∨ k = 0 then st else upd st (ba k.toNatClampNeg).toNatClampNeg w) ∧ ((-1 : Int32) = if k = mb then -1 else mb) ∧ ((1 : Int32) = if k = mb then (if w = 0 then mv else 1) else if k = 0 then 1 else mv) ∧ ((2 : Int32) = if k = mb then (if w = 0 then md else 2) else if k = 0 then 1 else md) ∧ (w = if k = mb then (if w = 0 then mr else w) else if k = 0 then w else mr) := by
  grind
set_option maxHeartbeats 4000000 in
set_option maxRecDepth 100000 in
theorem c_X9_closes (l : Launch) (dC : Nat → ClassId) (dI : Nat → Nat → Nat) (cI : ClassId) (sz : Nat) (aX : Nat) (m0 : Nat) (m1 : Nat) (m2 : Nat) (m3 : Nat) (m4 : Nat) (m5 : Nat) (m6 : Nat) (m7 : Nat) (m8 : Nat) (m9 : Nat) (m10 : Nat) (m11 : Nat) (m12 : Nat) (m13 : Nat) (m14 : Nat) (m15 : Nat) (ba : Nat → Int32) (st : Nat → Int32) (cn : Int32) (op : Int32) (mx : Int32) (tp : Int32) (fa : Int32) (ro : Int32) (pp : Int32) (fm : Int32) (sp : Int32) (it : Int32) (gn : Int32) (mi : Int32) (me : Int32) (mb : Int32) (mv : Int32) (mr : Int32) (mf : Int32) (md : Int32) (mw : Int32) (k : Int32) (w : Int32) (hk1 : 0 ≤ k) (hk2 : k ≤ 24) (hba1 : ∀ j, 0 ≤ ba j) (hba2 : ∀ j, ba j ≤ 60) : mWv l yX9_closes wsX9_closes ({ frames := 0, cells := 0, slots := 0, locals := 0 }) [.ref aX, .int k, .int w] (dC, dI) [(cI, .int)] [(aX, .inr (6, [.int cn, .ref m0, .ref m1, .ref m2, .ref m3, .ref m4, .ref m5, .ref m6, .ref m7, .ref m8, .int mi, .int me, .ref m9, .int gn, .ref m10, .ref m11, .ref m12, .ref m13, .ref m14, .int op, .ref m15, .int tp, .int mb, .int mv, .int mr, .int mf, .int md, .int sp, .int mw, .int it, .int mx, .int fa, .int ro, .int pp, .int fm])), (m12, .inl (cI, 25, .inl ba)), (m15, .inl (cI, 61, .inl st))] sz (fun u : (Int32) × (Int32) × (Nat → Int32) × (Int32) × (Int32) × (Int32) × (Int32) => (u.1 = k) ∧ (u.2.1 = if k = mb ∨ k = 0 then ba k.toNatClampNeg else ba k.toNatClampNeg + 1) ∧ (u.2.2.1 = if k = mb ∨ k = 0 then st else upd st (ba k.toNatClampNeg).toNatClampNeg w) ∧ (u.2.2.2.1 = if k = mb then -1 else mb) ∧ (u.2.2.2.2.1 = if k = mb then (if w = 0 then mv else 1) else if k = 0 then 1 else mv) ∧ (u.2.2.2.2.2.1 = if k = mb then (if w = 0 then md else 2) else if k = 0 then 1 else md) ∧ (u.2.2.2.2.2.2 = if k = mb then (if w = 0 then mr else w) else if k = 0 then w else mr)) (fun u : (Int32) × (Int32) × (Nat → Int32) × (Int32) × (Int32) × (Int32) × (Int32) => [(aX, .inr (6, [.int cn, .ref m0, .ref m1, .ref m2, .ref m3, .ref m4, .ref m5, .ref m6, .ref m7, .ref m8, .int mi, .int me, .ref m9, .int gn, .ref m10, .ref m11, .ref m12, .ref m13, .ref m14, .int u.1, .ref m15, .int u.2.1, .int u.2.2.2.1, .int u.2.2.2.2.1, .int u.2.2.2.2.2.2, .int mf, .int u.2.2.2.2.2.1, .int sp, .int mw, .int it, .int mx, .int fa, .int ro, .int pp, .int fm])), (m12, .inl (cI, 25, .inl ba)), (m15, .inl (cI, 61, .inl u.2.2.1))]) := by
  refine o_wv (cc := cX9_closes) (maxL := 3) (ret := none) (by decide) rfl (Nat.le_of_ble_eq_true rfl) ?_
  intro p e s m below meth c ls A hx hb hr hml hts hown hlocks hP hK hD hS hA hl
  have hown : s.vm.findClass RX9 = some m.cls := hown
  have hl : lv_has ls 3 [(0, .ref aX), (1, .int k), (2, .int w)] := hl
  have k_1 := hts (.fieldLink RX9 53 "ZRoutinesModel" "begins" "[I") (List.mem_of_getElem? (i := 1) rfl)
  have k_2 := hts (.fieldLink RX9 84 "ZRoutinesModel" "top" "I") (List.mem_of_getElem? (i := 2) rfl)
  have k_3 := hts (.fieldLink RX9 81 "ZRoutinesModel" "frames" "I") (List.mem_of_getElem? (i := 3) rfl)
  have k_4 := hts (.fieldLink RX9 90 "ZRoutinesModel" "base" "I") (List.mem_of_getElem? (i := 4) rfl)
  have k_5 := hts (.fieldLink RX9 62 "ZRoutinesModel" "stack" "[I") (List.mem_of_getElem? (i := 8) rfl)
  have k_6 := hts (.fieldLink RX9 93 "ZRoutinesModel" "isOver" "Z") (List.mem_of_getElem? (i := 5) rfl)
  have k_7 := hts (.fieldLink RX9 97 "ZRoutinesModel" "ended" "I") (List.mem_of_getElem? (i := 6) rfl)
  have k_8 := hts (.fieldLink RX9 100 "ZRoutinesModel" "result" "I") (List.mem_of_getElem? (i := 7) rfl)
  have i_X9 : ∀ w ∈ u_ws RX9 TX9 35, w ∈ wsX9_closes := fun _ h => List.mem_cons_of_mem _ (List.mem_append_right _ h)
  refine lv_aload_n hx hb dX9_closes_0 rfl (lv_at hl 0 rfl) ?_
  refine lv_aload_n hx hb dX9_closes_1 rfl (lv_at hl 0 rfl) ?_
  refine va_get (D := (dC, dI)) (ci := 6) (v := .ref m12) (C := RX9) (T := TX9) (N := 35) hx hb hts i_X9 hown hK hP 0 rfl rfl 16 (by decide) k_1 (fun _ h9 => h9) rfl dX9_closes_2 ?_
  refine lv_iload_n hx hb dX9_closes_5 rfl (lv_at hl 1 rfl) ?_
  refine va_iald hx hb hK hP 1 0 rfl rfl (q_X9_closes_1 hk1 hk2 hba1 hba2) dX9_closes_6 ?_
  refine va_put (D := (dC, dI)) (ci := 6) (v := .int (ba k.toNatClampNeg)) (ty := .int) (C := RX9) (T := TX9) (N := 35) hx hb hts i_X9 tyX9 tyX9_ok nmX9 hown hK hP hD hS 0 rfl rfl 21 (by decide) k_2 (fun _ h9 => h9) rfl (by decide +kernel) rfl rfl (Nat.le_of_ble_eq_true rfl) dX9_closes_7 (fun H locs hP hD hS => ?_)
  have hP : va_P (dC, dI) vwCl [(aX, .inr (6, [.int cn, .ref m0, .ref m1, .ref m2, .ref m3, .ref m4, .ref m5, .ref m6, .ref m7, .ref m8, .int mi, .int me, .ref m9, .int gn, .ref m10, .ref m11, .ref m12, .ref m13, .ref m14, .int op, .ref m15, .int (ba k.toNatClampNeg), .int mb, .int mv, .int mr, .int mf, .int md, .int sp, .int mw, .int it, .int mx, .int fa, .int ro, .int pp, .int fm])), (m12, .inl (cI, 25, .inl ba)), (m15, .inl (cI, 61, .inl st))] H := hP
  have hD : va_D A [(aX, .inr (6, [.int cn, .ref m0, .ref m1, .ref m2, .ref m3, .ref m4, .ref m5, .ref m6, .ref m7, .ref m8, .int mi, .int me, .ref m9, .int gn, .ref m10, .ref m11, .ref m12, .ref m13, .ref m14, .int op, .ref m15, .int (ba k.toNatClampNeg), .int mb, .int mv, .int mr, .int mf, .int md, .int sp, .int mw, .int it, .int mx, .int fa, .int ro, .int pp, .int fm])), (m12, .inl (cI, 25, .inl ba)), (m15, .inl (cI, 61, .inl st))] := hD
  refine lv_aload_n hx hb dX9_closes_10 rfl (lv_at hl 0 rfl) ?_
  refine lv_iload_n hx hb dX9_closes_11 rfl (lv_at hl 1 rfl) ?_
  refine va_put (D := (dC, dI)) (ci := 6) (v := .int k) (ty := .int) (C := RX9) (T := TX9) (N := 35) hx hb hts i_X9 tyX9 tyX9_ok nmX9 hown hK hP hD hS 0 rfl rfl 19 (by decide) k_3 (fun _ h9 => h9) rfl (by decide +kernel) rfl rfl (Nat.le_of_ble_eq_true rfl) dX9_closes_12 (fun H locs hP hD hS => ?_)
  have hP : va_P (dC, dI) vwCl [(aX, .inr (6, [.int cn, .ref m0, .ref m1, .ref m2, .ref m3, .ref m4, .ref m5, .ref m6, .ref m7, .ref m8, .int mi, .int me, .ref m9, .int gn, .ref m10, .ref m11, .ref m12, .ref m13, .ref m14, .int k, .ref m15, .int (ba k.toNatClampNeg), .int mb, .int mv, .int mr, .int mf, .int md, .int sp, .int mw, .int it, .int mx, .int fa, .int ro, .int pp, .int fm])), (m12, .inl (cI, 25, .inl ba)), (m15, .inl (cI, 61, .inl st))] H := hP
  have hD : va_D A [(aX, .inr (6, [.int cn, .ref m0, .ref m1, .ref m2, .ref m3, .ref m4, .ref m5, .ref m6, .ref m7, .ref m8, .int mi, .int me, .ref m9, .int gn, .ref m10, .ref m11, .ref m12, .ref m13, .ref m14, .int k, .ref m15, .int (ba k.toNatClampNeg), .int mb, .int mv, .int mr, .int mf, .int md, .int sp, .int mw, .int it, .int mx, .int fa, .int ro, .int pp, .int fm])), (m12, .inl (cI, 25, .inl ba)), (m15, .inl (cI, 61, .inl st))] := hD
  refine lv_iload_n hx hb dX9_closes_15 rfl (lv_at hl 1 rfl) ?_
  refine lv_aload_n hx hb dX9_closes_16 rfl (lv_at hl 0 rfl) ?_
  refine va_get (D := (dC, dI)) (ci := 6) (v := .int mb) (C := RX9) (T := TX9) (N := 35) hx hb hts i_X9 hown hK hP 0 rfl rfl 22 (by decide) k_4 (fun _ h9 => h9) rfl dX9_closes_17 ?_
  refine lv_icmp_ne (tgt := 50) hx hb dX9_closes_20 (by decide) (fun c_2 => ?_) (fun c_2 => ?_)
  · skip
    refine lv_iload_n hx hb dX9_closes_50 rfl (lv_at hl 1 rfl) ?_
    refine lv_if_ne (tgt := 72) hx hb dX9_closes_51 (by decide) (fun c_3 => ?_) (fun c_3 => ?_)
    · skip
      refine lv_aload_n hx hb dX9_closes_72 rfl (lv_at hl 0 rfl) ?_
      refine va_get (D := (dC, dI)) (ci := 6) (v := .ref m15) (C := RX9) (T := TX9) (N := 35) hx hb hts i_X9 hown hK hP 0 rfl rfl 20 (by decide) k_5 (fun _ h9 => h9) rfl dX9_closes_73 ?_
      refine lv_aload_n hx hb dX9_closes_76 rfl (lv_at hl 0 rfl) ?_
      refine va_get (D := (dC, dI)) (ci := 6) (v := .int (ba k.toNatClampNeg)) (C := RX9) (T := TX9) (N := 35) hx hb hts i_X9 hown hK hP 0 rfl rfl 21 (by decide) k_2 (fun _ h9 => h9) rfl dX9_closes_77 ?_
      refine lv_iload_n hx hb dX9_closes_80 rfl (lv_at hl 2 rfl) ?_
      refine va_iast hx hb hK hP hD hS 2 0 rfl rfl (q_X9_closes_4 hk1 hk2 hba1 hba2 c_2 c_3) dX9_closes_81 (fun H locs hP hD hS => ?_)
      have hP : va_P (dC, dI) vwCl [(aX, .inr (6, [.int cn, .ref m0, .ref m1, .ref m2, .ref m3, .ref m4, .ref m5, .ref m6, .ref m7, .ref m8, .int mi, .int me, .ref m9, .int gn, .ref m10, .ref m11, .ref m12, .ref m13, .ref m14, .int k, .ref m15, .int (ba k.toNatClampNeg), .int mb, .int mv, .int mr, .int mf, .int md, .int sp, .int mw, .int it, .int mx, .int fa, .int ro, .int pp, .int fm])), (m12, .inl (cI, 25, .inl ba)), (m15, .inl (cI, 61, .inl (upd st (ba k.toNatClampNeg).toNatClampNeg w)))] H := hP
      have hD : va_D A [(aX, .inr (6, [.int cn, .ref m0, .ref m1, .ref m2, .ref m3, .ref m4, .ref m5, .ref m6, .ref m7, .ref m8, .int mi, .int me, .ref m9, .int gn, .ref m10, .ref m11, .ref m12, .ref m13, .ref m14, .int k, .ref m15, .int (ba k.toNatClampNeg), .int mb, .int mv, .int mr, .int mf, .int md, .int sp, .int mw, .int it, .int mx, .int fa, .int ro, .int pp, .int fm])), (m12, .inl (cI, 25, .inl ba)), (m15, .inl (cI, 61, .inl (upd st (ba k.toNatClampNeg).toNatClampNeg w)))] := hD
      refine lv_aload_n hx hb dX9_closes_82 rfl (lv_at hl 0 rfl) ?_
      refine lv_dup hx hb dX9_closes_83 rfl ?_
      refine va_get (D := (dC, dI)) (ci := 6) (v := .int (ba k.toNatClampNeg)) (C := RX9) (T := TX9) (N := 35) hx hb hts i_X9 hown hK hP 0 rfl rfl 21 (by decide) k_2 (fun _ h9 => h9) rfl dX9_closes_84 ?_
      refine lv_iconst (v := 1) hx hb dX9_closes_87 (by decide) ?_
      refine lv_iadd hx hb dX9_closes_88 ?_
      refine va_put (D := (dC, dI)) (ci := 6) (v := .int ((ba k.toNatClampNeg) + 1)) (ty := .int) (C := RX9) (T := TX9) (N := 35) hx hb hts i_X9 tyX9 tyX9_ok nmX9 hown hK hP hD hS 0 rfl rfl 21 (by decide) k_2 (fun _ h9 => h9) rfl (by decide +kernel) rfl rfl (Nat.le_of_ble_eq_true rfl) dX9_closes_89 (fun H locs hP hD hS => ?_)
      have hP : va_P (dC, dI) vwCl [(aX, .inr (6, [.int cn, .ref m0, .ref m1, .ref m2, .ref m3, .ref m4, .ref m5, .ref m6, .ref m7, .ref m8, .int mi, .int me, .ref m9, .int gn, .ref m10, .ref m11, .ref m12, .ref m13, .ref m14, .int k, .ref m15, .int ((ba k.toNatClampNeg) + 1), .int mb, .int mv, .int mr, .int mf, .int md, .int sp, .int mw, .int it, .int mx, .int fa, .int ro, .int pp, .int fm])), (m12, .inl (cI, 25, .inl ba)), (m15, .inl (cI, 61, .inl (upd st (ba k.toNatClampNeg).toNatClampNeg w)))] H := hP
      have hD : va_D A [(aX, .inr (6, [.int cn, .ref m0, .ref m1, .ref m2, .ref m3, .ref m4, .ref m5, .ref m6, .ref m7, .ref m8, .int mi, .int me, .ref m9, .int gn, .ref m10, .ref m11, .ref m12, .ref m13, .ref m14, .int k, .ref m15, .int ((ba k.toNatClampNeg) + 1), .int mb, .int mv, .int mr, .int mf, .int md, .int sp, .int mw, .int it, .int mx, .int fa, .int ro, .int pp, .int fm])), (m12, .inl (cI, 25, .inl ba)), (m15, .inl (cI, 61, .inl (upd st (ba k.toNatClampNeg).toNatClampNeg w)))] := hD
      exact e_wv hx hb hr hlocks dX9_closes_92 hK hS (k, ((ba k.toNatClampNeg) + 1), upd st (ba k.toNatClampNeg).toNatClampNeg w, mb, mv, md, mr) hP hD (q_X9_closes_5 hk1 hk2 hba1 hba2 c_2 c_3)
    · skip
      refine lv_aload_n hx hb dX9_closes_54 rfl (lv_at hl 0 rfl) ?_
      refine lv_iconst (v := 1) hx hb dX9_closes_55 (by decide) ?_
      refine va_put (D := (dC, dI)) (ci := 6) (v := .int 1) (ty := .boolean) (C := RX9) (T := TX9) (N := 35) hx hb hts i_X9 tyX9 tyX9_ok nmX9 hown hK hP hD hS 0 rfl rfl 23 (by decide) k_6 (fun _ h9 => h9) rfl (by decide +kernel) rfl rfl (Nat.le_of_ble_eq_true rfl) dX9_closes_56 (fun H locs hP hD hS => ?_)
      have hP : va_P (dC, dI) vwCl [(aX, .inr (6, [.int cn, .ref m0, .ref m1, .ref m2, .ref m3, .ref m4, .ref m5, .ref m6, .ref m7, .ref m8, .int mi, .int me, .ref m9, .int gn, .ref m10, .ref m11, .ref m12, .ref m13, .ref m14, .int k, .ref m15, .int (ba k.toNatClampNeg), .int mb, .int 1, .int mr, .int mf, .int md, .int sp, .int mw, .int it, .int mx, .int fa, .int ro, .int pp, .int fm])), (m12, .inl (cI, 25, .inl ba)), (m15, .inl (cI, 61, .inl st))] H := hP
      have hD : va_D A [(aX, .inr (6, [.int cn, .ref m0, .ref m1, .ref m2, .ref m3, .ref m4, .ref m5, .ref m6, .ref m7, .ref m8, .int mi, .int me, .ref m9, .int gn, .ref m10, .ref m11, .ref m12, .ref m13, .ref m14, .int k, .ref m15, .int (ba k.toNatClampNeg), .int mb, .int 1, .int mr, .int mf, .int md, .int sp, .int mw, .int it, .int mx, .int fa, .int ro, .int pp, .int fm])), (m12, .inl (cI, 25, .inl ba)), (m15, .inl (cI, 61, .inl st))] := hD
      refine lv_aload_n hx hb dX9_closes_59 rfl (lv_at hl 0 rfl) ?_
      refine lv_iconst (v := 1) hx hb dX9_closes_60 (by decide) ?_
      refine va_put (D := (dC, dI)) (ci := 6) (v := .int 1) (ty := .int) (C := RX9) (T := TX9) (N := 35) hx hb hts i_X9 tyX9 tyX9_ok nmX9 hown hK hP hD hS 0 rfl rfl 26 (by decide) k_7 (fun _ h9 => h9) rfl (by decide +kernel) rfl rfl (Nat.le_of_ble_eq_true rfl) dX9_closes_61 (fun H locs hP hD hS => ?_)
      have hP : va_P (dC, dI) vwCl [(aX, .inr (6, [.int cn, .ref m0, .ref m1, .ref m2, .ref m3, .ref m4, .ref m5, .ref m6, .ref m7, .ref m8, .int mi, .int me, .ref m9, .int gn, .ref m10, .ref m11, .ref m12, .ref m13, .ref m14, .int k, .ref m15, .int (ba k.toNatClampNeg), .int mb, .int 1, .int mr, .int mf, .int 1, .int sp, .int mw, .int it, .int mx, .int fa, .int ro, .int pp, .int fm])), (m12, .inl (cI, 25, .inl ba)), (m15, .inl (cI, 61, .inl st))] H := hP
      have hD : va_D A [(aX, .inr (6, [.int cn, .ref m0, .ref m1, .ref m2, .ref m3, .ref m4, .ref m5, .ref m6, .ref m7, .ref m8, .int mi, .int me, .ref m9, .int gn, .ref m10, .ref m11, .ref m12, .ref m13, .ref m14, .int k, .ref m15, .int (ba k.toNatClampNeg), .int mb, .int 1, .int mr, .int mf, .int 1, .int sp, .int mw, .int it, .int mx, .int fa, .int ro, .int pp, .int fm])), (m12, .inl (cI, 25, .inl ba)), (m15, .inl (cI, 61, .inl st))] := hD
      refine lv_aload_n hx hb dX9_closes_64 rfl (lv_at hl 0 rfl) ?_
      refine lv_iload_n hx hb dX9_closes_65 rfl (lv_at hl 2 rfl) ?_
      refine va_put (D := (dC, dI)) (ci := 6) (v := .int w) (ty := .int) (C := RX9) (T := TX9) (N := 35) hx hb hts i_X9 tyX9 tyX9_ok nmX9 hown hK hP hD hS 0 rfl rfl 24 (by decide) k_8 (fun _ h9 => h9) rfl (by decide +kernel) rfl rfl (Nat.le_of_ble_eq_true rfl) dX9_closes_66 (fun H locs hP hD hS => ?_)
      have hP : va_P (dC, dI) vwCl [(aX, .inr (6, [.int cn, .ref m0, .ref m1, .ref m2, .ref m3, .ref m4, .ref m5, .ref m6, .ref m7, .ref m8, .int mi, .int me, .ref m9, .int gn, .ref m10, .ref m11, .ref m12, .ref m13, .ref m14, .int k, .ref m15, .int (ba k.toNatClampNeg), .int mb, .int 1, .int w, .int mf, .int 1, .int sp, .int mw, .int it, .int mx, .int fa, .int ro, .int pp, .int fm])), (m12, .inl (cI, 25, .inl ba)), (m15, .inl (cI, 61, .inl st))] H := hP
      have hD : va_D A [(aX, .inr (6, [.int cn, .ref m0, .ref m1, .ref m2, .ref m3, .ref m4, .ref m5, .ref m6, .ref m7, .ref m8, .int mi, .int me, .ref m9, .int gn, .ref m10, .ref m11, .ref m12, .ref m13, .ref m14, .int k, .ref m15, .int (ba k.toNatClampNeg), .int mb, .int 1, .int w, .int mf, .int 1, .int sp, .int mw, .int it, .int mx, .int fa, .int ro, .int pp, .int fm])), (m12, .inl (cI, 25, .inl ba)), (m15, .inl (cI, 61, .inl st))] := hD
      refine lv_goto (tgt := 92) hx hb dX9_closes_69 (by decide) ?_
      exact e_wv hx hb hr hlocks dX9_closes_92 hK hS (k, (ba k.toNatClampNeg), st, mb, 1, 1, w) hP hD (q_X9_closes_6 hk1 hk2 hba1 hba2 c_2 c_3)
  · skip
    refine lv_aload_n hx hb dX9_closes_23 rfl (lv_at hl 0 rfl) ?_
    refine lv_iconst (v := (-1)) hx hb dX9_closes_24 (by decide) ?_
    refine va_put (D := (dC, dI)) (ci := 6) (v := .int (-1)) (ty := .int) (C := RX9) (T := TX9) (N := 35) hx hb hts i_X9 tyX9 tyX9_ok nmX9 hown hK hP hD hS 0 rfl rfl 22 (by decide) k_4 (fun _ h9 => h9) rfl (by decide +kernel) rfl rfl (Nat.le_of_ble_eq_true rfl) dX9_closes_25 (fun H locs hP hD hS => ?_)
    have hP : va_P (dC, dI) vwCl [(aX, .inr (6, [.int cn, .ref m0, .ref m1, .ref m2, .ref m3, .ref m4, .ref m5, .ref m6, .ref m7, .ref m8, .int mi, .int me, .ref m9, .int gn, .ref m10, .ref m11, .ref m12, .ref m13, .ref m14, .int k, .ref m15, .int (ba k.toNatClampNeg), .int (-1), .int mv, .int mr, .int mf, .int md, .int sp, .int mw, .int it, .int mx, .int fa, .int ro, .int pp, .int fm])), (m12, .inl (cI, 25, .inl ba)), (m15, .inl (cI, 61, .inl st))] H := hP
    have hD : va_D A [(aX, .inr (6, [.int cn, .ref m0, .ref m1, .ref m2, .ref m3, .ref m4, .ref m5, .ref m6, .ref m7, .ref m8, .int mi, .int me, .ref m9, .int gn, .ref m10, .ref m11, .ref m12, .ref m13, .ref m14, .int k, .ref m15, .int (ba k.toNatClampNeg), .int (-1), .int mv, .int mr, .int mf, .int md, .int sp, .int mw, .int it, .int mx, .int fa, .int ro, .int pp, .int fm])), (m12, .inl (cI, 25, .inl ba)), (m15, .inl (cI, 61, .inl st))] := hD
    refine lv_iload_n hx hb dX9_closes_28 rfl (lv_at hl 2 rfl) ?_
    refine lv_if_eq (tgt := 92) hx hb dX9_closes_29 (by decide) (fun c_7 => ?_) (fun c_7 => ?_)
    · skip
      exact e_wv hx hb hr hlocks dX9_closes_92 hK hS (k, (ba k.toNatClampNeg), st, (-1), mv, md, mr) hP hD (q_X9_closes_8 hk1 hk2 hba1 hba2 c_2 c_7)
    · skip
      refine lv_aload_n hx hb dX9_closes_32 rfl (lv_at hl 0 rfl) ?_
      refine lv_iconst (v := 1) hx hb dX9_closes_33 (by decide) ?_
      refine va_put (D := (dC, dI)) (ci := 6) (v := .int 1) (ty := .boolean) (C := RX9) (T := TX9) (N := 35) hx hb hts i_X9 tyX9 tyX9_ok nmX9 hown hK hP hD hS 0 rfl rfl 23 (by decide) k_6 (fun _ h9 => h9) rfl (by decide +kernel) rfl rfl (Nat.le_of_ble_eq_true rfl) dX9_closes_34 (fun H locs hP hD hS => ?_)
      have hP : va_P (dC, dI) vwCl [(aX, .inr (6, [.int cn, .ref m0, .ref m1, .ref m2, .ref m3, .ref m4, .ref m5, .ref m6, .ref m7, .ref m8, .int mi, .int me, .ref m9, .int gn, .ref m10, .ref m11, .ref m12, .ref m13, .ref m14, .int k, .ref m15, .int (ba k.toNatClampNeg), .int (-1), .int 1, .int mr, .int mf, .int md, .int sp, .int mw, .int it, .int mx, .int fa, .int ro, .int pp, .int fm])), (m12, .inl (cI, 25, .inl ba)), (m15, .inl (cI, 61, .inl st))] H := hP
      have hD : va_D A [(aX, .inr (6, [.int cn, .ref m0, .ref m1, .ref m2, .ref m3, .ref m4, .ref m5, .ref m6, .ref m7, .ref m8, .int mi, .int me, .ref m9, .int gn, .ref m10, .ref m11, .ref m12, .ref m13, .ref m14, .int k, .ref m15, .int (ba k.toNatClampNeg), .int (-1), .int 1, .int mr, .int mf, .int md, .int sp, .int mw, .int it, .int mx, .int fa, .int ro, .int pp, .int fm])), (m12, .inl (cI, 25, .inl ba)), (m15, .inl (cI, 61, .inl st))] := hD
      refine lv_aload_n hx hb dX9_closes_37 rfl (lv_at hl 0 rfl) ?_
      refine lv_iconst (v := 2) hx hb dX9_closes_38 (by decide) ?_
      refine va_put (D := (dC, dI)) (ci := 6) (v := .int 2) (ty := .int) (C := RX9) (T := TX9) (N := 35) hx hb hts i_X9 tyX9 tyX9_ok nmX9 hown hK hP hD hS 0 rfl rfl 26 (by decide) k_7 (fun _ h9 => h9) rfl (by decide +kernel) rfl rfl (Nat.le_of_ble_eq_true rfl) dX9_closes_39 (fun H locs hP hD hS => ?_)
      have hP : va_P (dC, dI) vwCl [(aX, .inr (6, [.int cn, .ref m0, .ref m1, .ref m2, .ref m3, .ref m4, .ref m5, .ref m6, .ref m7, .ref m8, .int mi, .int me, .ref m9, .int gn, .ref m10, .ref m11, .ref m12, .ref m13, .ref m14, .int k, .ref m15, .int (ba k.toNatClampNeg), .int (-1), .int 1, .int mr, .int mf, .int 2, .int sp, .int mw, .int it, .int mx, .int fa, .int ro, .int pp, .int fm])), (m12, .inl (cI, 25, .inl ba)), (m15, .inl (cI, 61, .inl st))] H := hP
      have hD : va_D A [(aX, .inr (6, [.int cn, .ref m0, .ref m1, .ref m2, .ref m3, .ref m4, .ref m5, .ref m6, .ref m7, .ref m8, .int mi, .int me, .ref m9, .int gn, .ref m10, .ref m11, .ref m12, .ref m13, .ref m14, .int k, .ref m15, .int (ba k.toNatClampNeg), .int (-1), .int 1, .int mr, .int mf, .int 2, .int sp, .int mw, .int it, .int mx, .int fa, .int ro, .int pp, .int fm])), (m12, .inl (cI, 25, .inl ba)), (m15, .inl (cI, 61, .inl st))] := hD
      refine lv_aload_n hx hb dX9_closes_42 rfl (lv_at hl 0 rfl) ?_
      refine lv_iload_n hx hb dX9_closes_43 rfl (lv_at hl 2 rfl) ?_
      refine va_put (D := (dC, dI)) (ci := 6) (v := .int w) (ty := .int) (C := RX9) (T := TX9) (N := 35) hx hb hts i_X9 tyX9 tyX9_ok nmX9 hown hK hP hD hS 0 rfl rfl 24 (by decide) k_8 (fun _ h9 => h9) rfl (by decide +kernel) rfl rfl (Nat.le_of_ble_eq_true rfl) dX9_closes_44 (fun H locs hP hD hS => ?_)
      have hP : va_P (dC, dI) vwCl [(aX, .inr (6, [.int cn, .ref m0, .ref m1, .ref m2, .ref m3, .ref m4, .ref m5, .ref m6, .ref m7, .ref m8, .int mi, .int me, .ref m9, .int gn, .ref m10, .ref m11, .ref m12, .ref m13, .ref m14, .int k, .ref m15, .int (ba k.toNatClampNeg), .int (-1), .int 1, .int w, .int mf, .int 2, .int sp, .int mw, .int it, .int mx, .int fa, .int ro, .int pp, .int fm])), (m12, .inl (cI, 25, .inl ba)), (m15, .inl (cI, 61, .inl st))] H := hP
      have hD : va_D A [(aX, .inr (6, [.int cn, .ref m0, .ref m1, .ref m2, .ref m3, .ref m4, .ref m5, .ref m6, .ref m7, .ref m8, .int mi, .int me, .ref m9, .int gn, .ref m10, .ref m11, .ref m12, .ref m13, .ref m14, .int k, .ref m15, .int (ba k.toNatClampNeg), .int (-1), .int 1, .int w, .int mf, .int 2, .int sp, .int mw, .int it, .int mx, .int fa, .int ro, .int pp, .int fm])), (m12, .inl (cI, 25, .inl ba)), (m15, .inl (cI, 61, .inl st))] := hD
      refine lv_goto (tgt := 92) hx hb dX9_closes_47 (by decide) ?_
      exact e_wv hx hb hr hlocks dX9_closes_92 hK hS (k, (ba k.toNatClampNeg), st, (-1), 1, 2, w) hP hD (q_X9_closes_9 hk1 hk2 hba1 hba2 c_2 c_7)
