theorem q_X3_setInterrupt_1 {k : Int32} {w : Int32}  : (k = k) ∧ (w = w) := by
  grind
set_option maxHeartbeats 4000000 in
set_option maxRecDepth 100000 in
theorem c_X3_setInterrupt (l : Launch) (dC : Nat → ClassId) (dI : Nat → Nat → Nat) (cI : ClassId) (sz : Nat) (aP : Nat) (aU : Nat) (aF : Nat) (aR : Nat) (aM : Nat) (ir : Int32) (ev : Int32) (iF : Int32) (cs : Int32) (rs : Int32) (k : Int32) (w : Int32)  : mWv l yX3_setInterrupt wsX3_setInterrupt ({ frames := 0, cells := 0, slots := 0, locals := 0 }) [.ref aM, .int k, .int w] (dC, dI) [(cI, .int)] [(aM, .inr (1, [.ref aP, .ref aU, .ref aF, .ref aR, .int ir, .int ev, .int iF, .int cs, .int rs]))] sz (fun u : (Int32) × (Int32) => (u.1 = k) ∧ (u.2 = w)) (fun u : (Int32) × (Int32) => [(aM, .inr (1, [.ref aP, .ref aU, .ref aF, .ref aR, .int u.1, .int u.2, .int iF, .int cs, .int rs]))]) := by
  refine o_wv (cc := cX3_setInterrupt) (maxL := 3) (ret := none) (by decide) rfl (Nat.le_of_ble_eq_true rfl) ?_
  intro p e s m below meth c ls A hx hb hr hml hts hown hlocks hP hK hD hS hA hl
  have hown : s.vm.findClass RX3 = some m.cls := hown
  have hl : lv_has ls 3 [(0, .ref aM), (1, .int k), (2, .int w)] := hl
  have k_1 := hts (.fieldLink RX3 25 "ZRoutines$Machine" "interruptRoutine" "I") (List.mem_of_getElem? (i := 1) rfl)
  have k_2 := hts (.fieldLink RX3 29 "ZRoutines$Machine" "interruptEvery" "I") (List.mem_of_getElem? (i := 2) rfl)
  have i_X3 : ∀ w ∈ u_ws RX3 TX3 9, w ∈ wsX3_setInterrupt := fun _ h => List.mem_cons_of_mem _ (List.mem_append_right _ h)
  refine lv_aload_n hx hb dX3_setInterrupt_0 rfl (lv_at hl 0 rfl) ?_
  refine lv_iload_n hx hb dX3_setInterrupt_1 rfl (lv_at hl 1 rfl) ?_
  refine va_put (D := (dC, dI)) (ci := 1) (v := .int k) (ty := .int) (C := RX3) (T := TX3) (N := 9) hx hb hts i_X3 tyX3 tyX3_ok nmX3 hown hK hP hD hS 0 rfl rfl 4 (by decide) k_1 (fun _ h9 => h9) rfl (by decide +kernel) rfl rfl (Nat.le_of_ble_eq_true rfl) dX3_setInterrupt_2 (fun H locs hP hD hS => ?_)
  have hP : va_P (dC, dI) vwCl [(aM, .inr (1, [.ref aP, .ref aU, .ref aF, .ref aR, .int k, .int ev, .int iF, .int cs, .int rs]))] H := hP
  have hD : va_D A [(aM, .inr (1, [.ref aP, .ref aU, .ref aF, .ref aR, .int k, .int ev, .int iF, .int cs, .int rs]))] := hD
  refine lv_aload_n hx hb dX3_setInterrupt_5 rfl (lv_at hl 0 rfl) ?_
  refine lv_iload_n hx hb dX3_setInterrupt_6 rfl (lv_at hl 2 rfl) ?_
  refine va_put (D := (dC, dI)) (ci := 1) (v := .int w) (ty := .int) (C := RX3) (T := TX3) (N := 9) hx hb hts i_X3 tyX3 tyX3_ok nmX3 hown hK hP hD hS 0 rfl rfl 5 (by decide) k_2 (fun _ h9 => h9) rfl (by decide +kernel) rfl rfl (Nat.le_of_ble_eq_true rfl) dX3_setInterrupt_7 (fun H locs hP hD hS => ?_)
  have hP : va_P (dC, dI) vwCl [(aM, .inr (1, [.ref aP, .ref aU, .ref aF, .ref aR, .int k, .int w, .int iF, .int cs, .int rs]))] H := hP
  have hD : va_D A [(aM, .inr (1, [.ref aP, .ref aU, .ref aF, .ref aR, .int k, .int w, .int iF, .int cs, .int rs]))] := hD
  exact e_wv hx hb hr hlocks dX3_setInterrupt_10 hK hS (k, w) hP hD q_X3_setInterrupt_1

theorem q_X3_tell_2 {en : Int32} {fa : Int32} {ro : Int32} {pp : Int32} {fm : Int32} {sp : Int32} {it : Int32} {mo : Int32} {k : Int32} {r_1 : Int32} (hr_1 : r_1 = if k = 0 then en else if k = 1 then fa else if k = 2 then ro else if k = 3 then pp else if k = 4 then fm else if k = 5 then sp else if k = 6 then it else if k = 7 then mo else (-40000)) : (r_1 = t_told k en fa ro pp fm sp it mo) := by
  simp only [t_told]; grind
set_option maxHeartbeats 4000000 in
set_option maxRecDepth 100000 in
theorem c_X3_tell (l : Launch) (dC : Nat → ClassId) (dI : Nat → Nat → Nat) (cI : ClassId) (aP : Nat) (aU : Nat) (aF : Nat) (aR : Nat) (aM : Nat) (ir : Int32) (ev : Int32) (iF : Int32) (cs : Int32) (rs : Int32) (en : Int32) (fa : Int32) (ro : Int32) (pp : Int32) (fm : Int32) (sp : Int32) (it : Int32) (mo : Int32) (k : Int32)  : mRd l yX3_tell wsX3_tell ({ frames := 1, cells := 0, slots := 0, locals := 21 }) [.ref aM, .int k] (dC, dI) [(cI, .int)] [(aM, .inr (1, [.ref aP, .ref aU, .ref aF, .ref aR, .int ir, .int ev, .int iF, .int cs, .int rs])), (aR, .inr (3, [.int en, .int fa, .int ro, .int pp, .int fm, .int sp, .int it, .int mo]))] (fun v => (v = t_told k en fa ro pp fm sp it mo)) := by
  refine o_rd (cc := cX3_tell) (maxL := 2) (ret := (some .int)) (by decide) rfl (Nat.le_of_ble_eq_true rfl) ?_
  intro p e s m below meth c ls hx hb hr hml hts hown hlocks hP hK hl
  have hown : s.vm.findClass RX3 = some m.cls := hown
  have hl : lv_has ls 2 [(0, .ref aM), (1, .int k)] := hl
  have k_1 := hts (.fieldLink RX3 21 "ZRoutines$Machine" "report" "LZRoutines$Report;") (List.mem_of_getElem? (i := 1) rfl)
  have i_X3 : ∀ w ∈ u_ws RX3 TX3 9, w ∈ wsX3_tell := fun _ h => List.mem_cons_of_mem _ (List.mem_append_left _ (List.mem_append_right _ h))
  refine lv_aload_n hx hb dX3_tell_0 rfl (lv_at hl 0 rfl) ?_
  refine va_get (D := (dC, dI)) (ci := 1) (v := .ref aR) (C := RX3) (T := TX3) (N := 9) hx hb hts i_X3 hown hK hP 0 rfl rfl 3 (by decide) k_1 (fun _ h9 => h9) rfl dX3_tell_1 ?_
  refine lv_iload_n hx hb dX3_tell_4 rfl (lv_at hl 1 rfl) ?_
  refine k_rd (ci := 3) (q0 := 0) (q := (RX6, TX6, 8)) (As := [.int k]) (rest := []) ⟨hx, hb, hml, hown, hts⟩ (c_X6_answer l dC dI cI aR en fa ro pp fm sp it mo k ) (cwV 1 hts gX3_tell_X6_answer rfl rfl rfl (by decide +kernel) ⟨Nat.le_of_ble_eq_true rfl, Nat.le_of_ble_eq_true rfl⟩) hK hP [1] rfl rfl rfl rfl hl.1 rfl (Nat.le_of_ble_eq_true rfl) dX3_tell_5 ⟨Nat.zero_le _, Nat.zero_le _⟩ (fun r_1 hr_1 => ?_)
  have hr_1 : r_1 = if k = 0 then en else if k = 1 then fa else if k = 2 then ro else if k = 3 then pp else if k = 4 then fm else if k = 5 then sp else if k = 6 then it else if k = 7 then mo else (-40000) := hr_1
  exact e_rdi hx hb hr hlocks dX3_tell_8 (q_X3_tell_2 hr_1)

theorem q_X8_routine_2 {lc : Nat → Int32} {cn : Int32} {k : Int32} (hcn : 0 ≤ cn) (hcn2 : cn ≤ 20) (c_1 : k < 0) : (((-40000 : Int32), cn, lc) = t_routine k cn lc) := by
  (try subst_vars) <;> simp only [t_routine] <;> grind
theorem q_X8_routine_6 {cn : Int32} {k : Int32} {r_4 : Int32} (hcn : 0 ≤ cn) (hcn2 : cn ≤ 20) (c_1 : ¬ k < 0) (c_3 : k ≤ 15) (hr_4 : r_4 = if 20 ≤ cn then 1 else 0) (c_5 : r_4 = 0) : 0 ≤ cn := by
  grind
theorem q_X8_routine_7 {cn : Int32} {k : Int32} {r_4 : Int32} (hcn : 0 ≤ cn) (hcn2 : cn ≤ 20) (c_1 : ¬ k < 0) (c_3 : k ≤ 15) (hr_4 : r_4 = if 20 ≤ cn then 1 else 0) (c_5 : r_4 = 0) : cn < 20 := by
  grind
theorem q_X8_routine_12 {lc : Nat → Int32} {cn : Int32} {k : Int32} {r_4 : Int32} {cn_10 : Int32} {lc_11 : Nat → Int32} {r_8 : Int32} (hcn : 0 ≤ cn) (hcn2 : cn ≤ 20) (c_1 : ¬ k < 0) (c_3 : k ≤ 15) (hr_4 : r_4 = if 20 ≤ cn then 1 else 0) (c_5 : r_4 = 0) (hr_8_0 : r_8 = cn) (hr_8_1 : cn_10 = cn + 1) (hr_8_2 : lc_11 = upd lc cn.toNatClampNeg k) : ((r_8, cn_10, lc_11) = t_routine k cn lc) := by
  (try subst_vars) <;> simp only [t_routine] <;> grind
theorem q_X8_routine_13 {lc : Nat → Int32} {cn : Int32} {k : Int32} {r_4 : Int32} (hcn : 0 ≤ cn) (hcn2 : cn ≤ 20) (c_1 : ¬ k < 0) (c_3 : k ≤ 15) (hr_4 : r_4 = if 20 ≤ cn then 1 else 0) (c_5 : ¬ r_4 = 0) : (((-40001 : Int32), cn, lc) = t_routine k cn lc) := by
  (try subst_vars) <;> simp only [t_routine] <;> grind
theorem q_X8_routine_14 {lc : Nat → Int32} {cn : Int32} {k : Int32} (hcn : 0 ≤ cn) (hcn2 : cn ≤ 20) (c_1 : ¬ k < 0) (c_3 : ¬ k ≤ 15) : (((-40000 : Int32), cn, lc) = t_routine k cn lc) := by
  (try subst_vars) <;> simp only [t_routine] <;> grind
set_option maxHeartbeats 4000000 in
set_option maxRecDepth 100000 in
theorem c_X8_routine (l : Launch) (dC : Nat → ClassId) (dI : Nat → Nat → Nat) (cI : ClassId) (sz : Nat) (aP : Nat) (aU : Nat) (aM : Nat) (aZ : Nat) (zg : Nat) (p0 : Nat) (p1 : Nat) (p2 : Nat) (p3 : Nat) (p4 : Nat) (p5 : Nat) (lc : Nat → Int32) (cn : Int32) (gn : Int32) (k : Int32) (hcn : 0 ≤ cn) (hcn2 : cn ≤ 20) : mWi l yX8_routine wsX8_routine ({ frames := 2, cells := 0, slots := 0, locals := 41 }) [.ref aZ, .int k] (dC, dI) [(cI, .int)] [(aZ, .inr (5, [.ref aP, .ref aU, .ref aM, .ref zg, .int gn])), (aP, .inr (2, [.ref p0, .ref p1, .ref p2, .ref p3, .ref p4, .ref p5, .int cn])), (p0, .inl (cI, 20, .inl lc))] sz (fun (v : Int32) (u : (Int32) × (Nat → Int32)) => ((v, u.1, u.2) = t_routine k cn lc)) (fun u : (Int32) × (Nat → Int32) => [(aZ, .inr (5, [.ref aP, .ref aU, .ref aM, .ref zg, .int gn])), (aP, .inr (2, [.ref p0, .ref p1, .ref p2, .ref p3, .ref p4, .ref p5, .int u.1])), (p0, .inl (cI, 20, .inl u.2))]) := by
  refine o_wi (cc := cX8_routine) (maxL := 2) (ret := (some .int)) (by decide) rfl (Nat.le_of_ble_eq_true rfl) ?_
  intro p e s m below meth c ls A hx hb hr hml hts hown hlocks hP hK hD hS hA hl
  have hown : s.vm.findClass RX8 = some m.cls := hown
  have hl : lv_has ls 2 [(0, .ref aZ), (1, .int k)] := hl
  have k_1 := hts (.constant RX8 40 (-40000)) (List.mem_of_getElem? (i := 1) rfl)
  have k_2 := hts (.fieldLink RX8 10 "ZRoutines" "program" "LZRoutines$Program;") (List.mem_of_getElem? (i := 2) rfl)
  have k_3 := hts (.constant RX8 45 (-40001)) (List.mem_of_getElem? (i := 3) rfl)
  have i_X8 : ∀ w ∈ u_ws RX8 TX8 5, w ∈ wsX8_routine := fun _ h => List.mem_cons_of_mem _ (List.mem_append_left _ (List.mem_append_right _ h))
  refine lv_iload_n hx hb dX8_routine_0 rfl (lv_at hl 1 rfl) ?_
  refine lv_if_lt (tgt := 10) hx hb dX8_routine_1 (by decide) (fun c_1 => ?_) (fun c_1 => ?_)
  · skip
    refine lv_ldc (v := (-40000)) hx hb hown k_1 dX8_routine_10 ?_
    exact e_wi hx hb hr hlocks dX8_routine_12 hK hS (cn, lc) hP hD (q_X8_routine_2 hcn hcn2 c_1)
  · skip
    refine lv_iload_n hx hb dX8_routine_4 rfl (lv_at hl 1 rfl) ?_
    refine lv_bipush (v := 15) hx hb dX8_routine_5 (by decide) ?_
    refine lv_icmp_le (tgt := 13) hx hb dX8_routine_7 (by decide) (fun c_3 => ?_) (fun c_3 => ?_)
    · skip
      refine lv_aload_n hx hb dX8_routine_13 rfl (lv_at hl 0 rfl) ?_
      refine va_get (D := (dC, dI)) (ci := 5) (v := .ref aP) (C := RX8) (T := TX8) (N := 5) hx hb hts i_X8 hown hK hP 0 rfl rfl 0 (by decide) k_2 (fun _ h9 => h9) rfl dX8_routine_14 ?_
      refine k_rd (ci := 2) (q0 := 0) (q := (RX5, TX5, 7)) (As := []) (rest := []) ⟨hx, hb, hml, hown, hts⟩ (c_X5_isFull l dC dI cI aP p0 p1 p2 p3 p4 p5 cn ) (cwV 0 hts gX8_routine_X5_isFull rfl rfl rfl (by decide +kernel) ⟨Nat.le_of_ble_eq_true rfl, Nat.le_of_ble_eq_true rfl⟩) hK hP [1] rfl rfl rfl rfl hl.1 rfl (Nat.le_of_ble_eq_true rfl) dX8_routine_17 ⟨Nat.zero_le _, Nat.zero_le _⟩ (fun r_4 hr_4 => ?_)
      have hr_4 : r_4 = if 20 ≤ cn then 1 else 0 := hr_4
      refine lv_if_eq (tgt := 28) hx hb dX8_routine_20 (by decide) (fun c_5 => ?_) (fun c_5 => ?_)
      · skip
        refine lv_aload_n hx hb dX8_routine_28 rfl (lv_at hl 0 rfl) ?_
        refine va_get (D := (dC, dI)) (ci := 5) (v := .ref aP) (C := RX8) (T := TX8) (N := 5) hx hb hts i_X8 hown hK hP 0 rfl rfl 0 (by decide) k_2 (fun _ h9 => h9) rfl dX8_routine_29 ?_
        refine lv_iload_n hx hb dX8_routine_32 rfl (lv_at hl 1 rfl) ?_
        refine k_wi (w2 := (fun u_9 : (Int32) × (Nat → Int32) => [(aZ, .inr (5, [.ref aP, .ref aU, .ref aM, .ref zg, .int gn])), (aP, .inr (2, [.ref p0, .ref p1, .ref p2, .ref p3, .ref p4, .ref p5, .int u_9.1])), (p0, .inl (cI, 20, .inl u_9.2))])) (wr := [(aZ, .inr (5, [.ref aP, .ref aU, .ref aM, .ref zg, .int gn]))]) (ci := 2) (q0 := 0) (q := (RX5, TX5, 7)) (As := [.int k]) (rest := []) ⟨hx, hb, hml, hown, hts⟩ (c_X5_append l dC dI cI _ aP p0 p1 p2 p3 p4 p5 lc cn k (q_X8_routine_6 hcn hcn2 c_1 c_3 hr_4 c_5) (q_X8_routine_7 hcn hcn2 c_1 c_3 hr_4 c_5)) (cwV 1 hts gX8_routine_X5_append rfl rfl rfl (by decide +kernel) ⟨Nat.le_of_ble_eq_true rfl, Nat.le_of_ble_eq_true rfl⟩) hK hP hD hS hA [1, 2] [0] [0, 1, 2] rfl rfl (by decide) (fun _ => rfl) rfl rfl rfl hl.1 rfl (Nat.le_of_ble_eq_true rfl) dX8_routine_33 ⟨Nat.zero_le _, Nat.zero_le _⟩ (fun r_8 u_9 H locs hr_8 hP hD hS => ?_)
        obtain ⟨cn_10, lc_11⟩ := u_9
        have hP : va_P (dC, dI) vwCl [(aZ, .inr (5, [.ref aP, .ref aU, .ref aM, .ref zg, .int gn])), (aP, .inr (2, [.ref p0, .ref p1, .ref p2, .ref p3, .ref p4, .ref p5, .int cn_10])), (p0, .inl (cI, 20, .inl lc_11))] H := hP
        have hD : va_D A [(aZ, .inr (5, [.ref aP, .ref aU, .ref aM, .ref zg, .int gn])), (aP, .inr (2, [.ref p0, .ref p1, .ref p2, .ref p3, .ref p4, .ref p5, .int cn_10])), (p0, .inl (cI, 20, .inl lc_11))] := hD
        obtain ⟨hr_8_0, hr_8_1, hr_8_2⟩ := hr_8
        have hr_8_0 : r_8 = cn := hr_8_0
        have hr_8_1 : cn_10 = cn + 1 := hr_8_1
        have hr_8_2 : lc_11 = upd lc cn.toNatClampNeg k := hr_8_2
        exact e_wi hx hb hr hlocks dX8_routine_36 hK hS (cn_10, lc_11) hP hD (q_X8_routine_12 hcn hcn2 c_1 c_3 hr_4 c_5 hr_8_0 hr_8_1 hr_8_2)
      · skip
        refine lv_ldc (v := (-40001)) hx hb hown k_3 dX8_routine_23 ?_
        refine lv_goto (tgt := 36) hx hb dX8_routine_25 (by decide) ?_
        exact e_wi hx hb hr hlocks dX8_routine_36 hK hS (cn, lc) hP hD (q_X8_routine_13 hcn hcn2 c_1 c_3 hr_4 c_5)
    · skip
      refine lv_ldc (v := (-40000)) hx hb hown k_1 dX8_routine_10 ?_
      exact e_wi hx hb hr hlocks dX8_routine_12 hK hS (cn, lc) hP hD (q_X8_routine_14 hcn hcn2 c_1 c_3)

theorem q_X8_first_1 {lc : Nat → Int32} {cn : Int32} (hcn2 : cn ≤ 20) (hlc1 : ∀ j, 0 ≤ lc j) (hlc2 : ∀ j, lc j ≤ 15) : cn ≤ 20 := by
  grind
theorem q_X8_first_4 {lc : Nat → Int32} {cn : Int32} {r : Int32} {k : Int32} {r_2 : Int32} (hcn2 : cn ≤ 20) (hlc1 : ∀ j, 0 ≤ lc j) (hlc2 : ∀ j, lc j ≤ 15) (hr_2 : r_2 = if 0 ≤ r ∧ r < cn ∧ 0 ≤ k ∧ k < lc r.toNatClampNeg then 1 else 0) (c_3 : ¬ r_2 = 0) : cn ≤ 20 := by
  grind
theorem q_X8_first_5 {lc : Nat → Int32} {cn : Int32} {r : Int32} {k : Int32} {r_2 : Int32} (hcn2 : cn ≤ 20) (hlc1 : ∀ j, 0 ≤ lc j) (hlc2 : ∀ j, lc j ≤ 15) (hr_2 : r_2 = if 0 ≤ r ∧ r < cn ∧ 0 ≤ k ∧ k < lc r.toNatClampNeg then 1 else 0) (c_3 : ¬ r_2 = 0) : 0 ≤ r := by
  grind
theorem q_X8_first_6 {lc : Nat → Int32} {cn : Int32} {r : Int32} {k : Int32} {r_2 : Int32} (hcn2 : cn ≤ 20) (hlc1 : ∀ j, 0 ≤ lc j) (hlc2 : ∀ j, lc j ≤ 15) (hr_2 : r_2 = if 0 ≤ r ∧ r < cn ∧ 0 ≤ k ∧ k < lc r.toNatClampNeg then 1 else 0) (c_3 : ¬ r_2 = 0) : r < cn := by
  grind
theorem q_X8_first_7 {lc : Nat → Int32} {cn : Int32} {r : Int32} {k : Int32} {r_2 : Int32} (hcn2 : cn ≤ 20) (hlc1 : ∀ j, 0 ≤ lc j) (hlc2 : ∀ j, lc j ≤ 15) (hr_2 : r_2 = if 0 ≤ r ∧ r < cn ∧ 0 ≤ k ∧ k < lc r.toNatClampNeg then 1 else 0) (c_3 : ¬ r_2 = 0) : 0 ≤ k := by
  grind
theorem q_X8_first_8 {lc : Nat → Int32} {cn : Int32} {r : Int32} {k : Int32} {r_2 : Int32} (hcn2 : cn ≤ 20) (hlc1 : ∀ j, 0 ≤ lc j) (hlc2 : ∀ j, lc j ≤ 15) (hr_2 : r_2 = if 0 ≤ r ∧ r < cn ∧ 0 ≤ k ∧ k < lc r.toNatClampNeg then 1 else 0) (c_3 : ¬ r_2 = 0) : k < lc r.toNatClampNeg := by
  grind
theorem q_X8_first_9 {lc : Nat → Int32} {cn : Int32} {r : Int32} {k : Int32} {r_2 : Int32} (hcn2 : cn ≤ 20) (hlc1 : ∀ j, 0 ≤ lc j) (hlc2 : ∀ j, lc j ≤ 15) (hr_2 : r_2 = if 0 ≤ r ∧ r < cn ∧ 0 ≤ k ∧ k < lc r.toNatClampNeg then 1 else 0) (c_3 : ¬ r_2 = 0) : lc r.toNatClampNeg ≤ 15 := by
  grind
theorem q_X8_first_13 {lc : Nat → Int32} {fv : Nat → Int32} {cn : Int32} {r : Int32} {k : Int32} {w : Int32} {r_2 : Int32} {fv_12 : Nat → Int32} (hcn2 : cn ≤ 20) (hlc1 : ∀ j, 0 ≤ lc j) (hlc2 : ∀ j, lc j ≤ 15) (hr_2 : r_2 = if 0 ≤ r ∧ r < cn ∧ 0 ≤ k ∧ k < lc r.toNatClampNeg then 1 else 0) (c_3 : ¬ r_2 = 0) (hr_10 : fv_12 = upd fv (r * 15 + k).toNatClampNeg (sx w)) : (((1 : Int32), fv_12) = t_first r k w cn lc fv) := by
  (try subst_vars) <;> simp only [t_first] <;> grind
theorem q_X8_first_14 {lc : Nat → Int32} {fv : Nat → Int32} {cn : Int32} {r : Int32} {k : Int32} {w : Int32} {r_2 : Int32} (hcn2 : cn ≤ 20) (hlc1 : ∀ j, 0 ≤ lc j) (hlc2 : ∀ j, lc j ≤ 15) (hr_2 : r_2 = if 0 ≤ r ∧ r < cn ∧ 0 ≤ k ∧ k < lc r.toNatClampNeg then 1 else 0) (c_3 : r_2 = 0) : (((-40000 : Int32), fv) = t_first r k w cn lc fv) := by
  (try subst_vars) <;> simp only [t_first] <;> grind
set_option maxHeartbeats 4000000 in
set_option maxRecDepth 100000 in
theorem c_X8_first (l : Launch) (dC : Nat → ClassId) (dI : Nat → Nat → Nat) (cI : ClassId) (sz : Nat) (aP : Nat) (aU : Nat) (aM : Nat) (aZ : Nat) (zg : Nat) (p0 : Nat) (p1 : Nat) (p2 : Nat) (p3 : Nat) (p4 : Nat) (p5 : Nat) (lc : Nat → Int32) (fv : Nat → Int32) (cn : Int32) (gn : Int32) (r : Int32) (k : Int32) (w : Int32) (hcn2 : cn ≤ 20) (hlc1 : ∀ j, 0 ≤ lc j) (hlc2 : ∀ j, lc j ≤ 15) : mWi l yX8_first wsX8_first ({ frames := 3, cells := 0, slots := 0, locals := 66 }) [.ref aZ, .int r, .int k, .int w] (dC, dI) [(cI, .int)] [(aZ, .inr (5, [.ref aP, .ref aU, .ref aM, .ref zg, .int gn])), (aP, .inr (2, [.ref p0, .ref p1, .ref p2, .ref p3, .ref p4, .ref p5, .int cn])), (p0, .inl (cI, 20, .inl lc)), (p2, .inl (cI, 300, .inl fv))] sz (fun (v : Int32) (u : (Nat → Int32)) => ((v, u) = t_first r k w cn lc fv)) (fun u : (Nat → Int32) => [(aZ, .inr (5, [.ref aP, .ref aU, .ref aM, .ref zg, .int gn])), (aP, .inr (2, [.ref p0, .ref p1, .ref p2, .ref p3, .ref p4, .ref p5, .int cn])), (p0, .inl (cI, 20, .inl lc)), (p2, .inl (cI, 300, .inl u))]) := by
  refine o_wi (cc := cX8_first) (maxL := 4) (ret := (some .int)) (by decide) rfl (Nat.le_of_ble_eq_true rfl) ?_
  intro p e s m below meth c ls A hx hb hr hml hts hown hlocks hP hK hD hS hA hl
  have hown : s.vm.findClass RX8 = some m.cls := hown
  have hl : lv_has ls 4 [(0, .ref aZ), (1, .int r), (2, .int k), (3, .int w)] := hl
  have k_1 := hts (.fieldLink RX8 10 "ZRoutines" "program" "LZRoutines$Program;") (List.mem_of_getElem? (i := 1) rfl)
  have k_2 := hts (.constant RX8 40 (-40000)) (List.mem_of_getElem? (i := 2) rfl)
  have i_X8 : ∀ w ∈ u_ws RX8 TX8 5, w ∈ wsX8_first := fun _ h => List.mem_cons_of_mem _ (List.mem_append_left _ (List.mem_append_right _ h))
  refine lv_aload_n hx hb dX8_first_0 rfl (lv_at hl 0 rfl) ?_
  refine va_get (D := (dC, dI)) (ci := 5) (v := .ref aP) (C := RX8) (T := TX8) (N := 5) hx hb hts i_X8 hown hK hP 0 rfl rfl 0 (by decide) k_1 (fun _ h9 => h9) rfl dX8_first_1 ?_
  refine lv_iload_n hx hb dX8_first_4 rfl (lv_at hl 1 rfl) ?_
  refine lv_iload_n hx hb dX8_first_5 rfl (lv_at hl 2 rfl) ?_
  refine k_rd (ci := 2) (q0 := 0) (q := (RX5, TX5, 7)) (As := [.int r, .int k]) (rest := []) ⟨hx, hb, hml, hown, hts⟩ (c_X5_hasLocal l dC dI cI aP p0 p1 p2 p3 p4 p5 lc cn r k (q_X8_first_1 hcn2 hlc1 hlc2)) (cwV 2 hts gX8_first_X5_hasLocal rfl rfl rfl (by decide +kernel) ⟨Nat.le_of_ble_eq_true rfl, Nat.le_of_ble_eq_true rfl⟩) hK hP [1, 2] rfl rfl rfl rfl hl.1 rfl (Nat.le_of_ble_eq_true rfl) dX8_first_6 ⟨Nat.zero_le _, Nat.zero_le _⟩ (fun r_2 hr_2 => ?_)
  have hr_2 : r_2 = if 0 ≤ r ∧ r < cn ∧ 0 ≤ k ∧ k < lc r.toNatClampNeg then 1 else 0 := hr_2
  refine lv_if_ne (tgt := 15) hx hb dX8_first_9 (by decide) (fun c_3 => ?_) (fun c_3 => ?_)
  · skip
    refine lv_aload_n hx hb dX8_first_15 rfl (lv_at hl 0 rfl) ?_
    refine va_get (D := (dC, dI)) (ci := 5) (v := .ref aP) (C := RX8) (T := TX8) (N := 5) hx hb hts i_X8 hown hK hP 0 rfl rfl 0 (by decide) k_1 (fun _ h9 => h9) rfl dX8_first_16 ?_
    refine lv_iload_n hx hb dX8_first_19 rfl (lv_at hl 1 rfl) ?_
    refine lv_iload_n hx hb dX8_first_20 rfl (lv_at hl 2 rfl) ?_
    refine lv_iload_n hx hb dX8_first_21 rfl (lv_at hl 3 rfl) ?_
    refine k_wv (w2 := (fun u_11 : (Nat → Int32) => [(aZ, .inr (5, [.ref aP, .ref aU, .ref aM, .ref zg, .int gn])), (aP, .inr (2, [.ref p0, .ref p1, .ref p2, .ref p3, .ref p4, .ref p5, .int cn])), (p0, .inl (cI, 20, .inl lc)), (p2, .inl (cI, 300, .inl u_11))])) (wr := [(aZ, .inr (5, [.ref aP, .ref aU, .ref aM, .ref zg, .int gn]))]) (ci := 2) (q0 := 0) (q := (RX5, TX5, 7)) (As := [.int r, .int k, .int w]) (rest := []) ⟨hx, hb, hml, hown, hts⟩ (c_X5_setFirstValue l dC dI cI _ aP p0 p1 p2 p3 p4 p5 lc fv cn r k w (q_X8_first_4 hcn2 hlc1 hlc2 hr_2 c_3) (q_X8_first_5 hcn2 hlc1 hlc2 hr_2 c_3) (q_X8_first_6 hcn2 hlc1 hlc2 hr_2 c_3) (q_X8_first_7 hcn2 hlc1 hlc2 hr_2 c_3) (q_X8_first_8 hcn2 hlc1 hlc2 hr_2 c_3) (q_X8_first_9 hcn2 hlc1 hlc2 hr_2 c_3)) (cwV 3 hts gX8_first_X5_setFirstValue rfl rfl rfl (by decide +kernel) ⟨Nat.le_of_ble_eq_true rfl, Nat.le_of_ble_eq_true rfl⟩) hK hP hD hS hA [1, 2, 3] [0] [0, 1, 2, 3] rfl rfl (by decide) (fun _ => rfl) rfl rfl rfl hl.1 rfl (Nat.le_of_ble_eq_true rfl) dX8_first_22 ⟨Nat.zero_le _, Nat.zero_le _⟩ (fun u_11 H locs hr_10 hP hD hS => ?_)
    obtain ⟨fv_12, rfl⟩ : ∃ z, z = u_11 := ⟨_, rfl⟩
    have hP : va_P (dC, dI) vwCl [(aZ, .inr (5, [.ref aP, .ref aU, .ref aM, .ref zg, .int gn])), (aP, .inr (2, [.ref p0, .ref p1, .ref p2, .ref p3, .ref p4, .ref p5, .int cn])), (p0, .inl (cI, 20, .inl lc)), (p2, .inl (cI, 300, .inl fv_12))] H := hP
    have hD : va_D A [(aZ, .inr (5, [.ref aP, .ref aU, .ref aM, .ref zg, .int gn])), (aP, .inr (2, [.ref p0, .ref p1, .ref p2, .ref p3, .ref p4, .ref p5, .int cn])), (p0, .inl (cI, 20, .inl lc)), (p2, .inl (cI, 300, .inl fv_12))] := hD
    have hr_10 : fv_12 = upd fv (r * 15 + k).toNatClampNeg (sx w) := hr_10
    refine lv_iconst (v := 1) hx hb dX8_first_25 (by decide) ?_
    exact e_wi hx hb hr hlocks dX8_first_26 hK hS (fv_12) hP hD (q_X8_first_13 hcn2 hlc1 hlc2 hr_2 c_3 hr_10)
  · skip
    refine lv_ldc (v := (-40000)) hx hb hown k_2 dX8_first_12 ?_
    exact e_wi hx hb hr hlocks dX8_first_14 hK hS (fv) hP hD (q_X8_first_14 hcn2 hlc1 hlc2 hr_2 c_3)

theorem q_X8_add_3 {ln : Nat → Int32} {cn : Int32} {r : Int32} {r_1 : Int32} (hcn2 : cn ≤ 20) (hln1 : ∀ j, 0 ≤ ln j) (hln2 : ∀ j, ln j ≤ 24) (hr_1 : r_1 = if 0 ≤ r ∧ r < cn then 1 else 0) (c_2 : ¬ r_1 = 0) : cn ≤ 20 := by
  grind
theorem q_X8_add_4 {ln : Nat → Int32} {cn : Int32} {r : Int32} {r_1 : Int32} (hcn2 : cn ≤ 20) (hln1 : ∀ j, 0 ≤ ln j) (hln2 : ∀ j, ln j ≤ 24) (hr_1 : r_1 = if 0 ≤ r ∧ r < cn then 1 else 0) (c_2 : ¬ r_1 = 0) : 0 ≤ r := by
  grind
theorem q_X8_add_5 {ln : Nat → Int32} {cn : Int32} {r : Int32} {r_1 : Int32} (hcn2 : cn ≤ 20) (hln1 : ∀ j, 0 ≤ ln j) (hln2 : ∀ j, ln j ≤ 24) (hr_1 : r_1 = if 0 ≤ r ∧ r < cn then 1 else 0) (c_2 : ¬ r_1 = 0) : r < cn := by
  grind
theorem q_X8_add_8 {ln : Nat → Int32} {cn : Int32} {r : Int32} {r_1 : Int32} {r_6 : Int32} (hcn2 : cn ≤ 20) (hln1 : ∀ j, 0 ≤ ln j) (hln2 : ∀ j, ln j ≤ 24) (hr_1 : r_1 = if 0 ≤ r ∧ r < cn then 1 else 0) (c_2 : ¬ r_1 = 0) (hr_6 : r_6 = if 24 ≤ ln r.toNatClampNeg then 1 else 0) (c_7 : r_6 = 0) : cn ≤ 20 := by
  grind
theorem q_X8_add_9 {ln : Nat → Int32} {cn : Int32} {r : Int32} {r_1 : Int32} {r_6 : Int32} (hcn2 : cn ≤ 20) (hln1 : ∀ j, 0 ≤ ln j) (hln2 : ∀ j, ln j ≤ 24) (hr_1 : r_1 = if 0 ≤ r ∧ r < cn then 1 else 0) (c_2 : ¬ r_1 = 0) (hr_6 : r_6 = if 24 ≤ ln r.toNatClampNeg then 1 else 0) (c_7 : r_6 = 0) : 0 ≤ r := by
  grind
theorem q_X8_add_10 {ln : Nat → Int32} {cn : Int32} {r : Int32} {r_1 : Int32} {r_6 : Int32} (hcn2 : cn ≤ 20) (hln1 : ∀ j, 0 ≤ ln j) (hln2 : ∀ j, ln j ≤ 24) (hr_1 : r_1 = if 0 ≤ r ∧ r < cn then 1 else 0) (c_2 : ¬ r_1 = 0) (hr_6 : r_6 = if 24 ≤ ln r.toNatClampNeg then 1 else 0) (c_7 : r_6 = 0) : r < cn := by
  grind
theorem q_X8_add_11 {ln : Nat → Int32} {cn : Int32} {r : Int32} {r_1 : Int32} {r_6 : Int32} (hcn2 : cn ≤ 20) (hln1 : ∀ j, 0 ≤ ln j) (hln2 : ∀ j, ln j ≤ 24) (hr_1 : r_1 = if 0 ≤ r ∧ r < cn then 1 else 0) (c_2 : ¬ r_1 = 0) (hr_6 : r_6 = if 24 ≤ ln r.toNatClampNeg then 1 else 0) (c_7 : r_6 = 0) : 0 ≤ ln r.toNatClampNeg := by
  grind
theorem q_X8_add_12 {ln : Nat → Int32} {cn : Int32} {r : Int32} {r_1 : Int32} {r_6 : Int32} (hcn2 : cn ≤ 20) (hln1 : ∀ j, 0 ≤ ln j) (hln2 : ∀ j, ln j ≤ 24) (hr_1 : r_1 = if 0 ≤ r ∧ r < cn then 1 else 0) (c_2 : ¬ r_1 = 0) (hr_6 : r_6 = if 24 ≤ ln r.toNatClampNeg then 1 else 0) (c_7 : r_6 = 0) : ln r.toNatClampNeg < 24 := by
  grind
theorem q_X8_add_19 {ln : Nat → Int32} {po : Nat → Int32} {pa : Nat → Int32} {pb : Nat → Int32} {cn : Int32} {r : Int32} {k : Int32} {k2 : Int32} {k3 : Int32} {r_1 : Int32} {r_6 : Int32} {ln_15 : Nat → Int32} {po_16 : Nat → Int32} {pa_17 : Nat → Int32} {pb_18 : Nat → Int32} {r_13 : Int32} (hcn2 : cn ≤ 20) (hln1 : ∀ j, 0 ≤ ln j) (hln2 : ∀ j, ln j ≤ 24) (hr_1 : r_1 = if 0 ≤ r ∧ r < cn then 1 else 0) (c_2 : ¬ r_1 = 0) (hr_6 : r_6 = if 24 ≤ ln r.toNatClampNeg then 1 else 0) (c_7 : r_6 = 0) (hr_13_0 : r_13 = ln r.toNatClampNeg + 1) (hr_13_1 : ln_15 = upd ln r.toNatClampNeg (ln r.toNatClampNeg + 1)) (hr_13_2 : po_16 = upd po (r * 24 + ln r.toNatClampNeg).toNatClampNeg k) (hr_13_3 : pa_17 = upd pa (r * 24 + ln r.toNatClampNeg).toNatClampNeg k2) (hr_13_4 : pb_18 = upd pb (r * 24 + ln r.toNatClampNeg).toNatClampNeg k3) : ((r_13, ln_15, po_16, pa_17, pb_18) = t_add r k k2 k3 cn ln po pa pb) := by
  (try subst_vars) <;> simp only [t_add] <;> grind
theorem q_X8_add_20 {ln : Nat → Int32} {po : Nat → Int32} {pa : Nat → Int32} {pb : Nat → Int32} {cn : Int32} {r : Int32} {k : Int32} {k2 : Int32} {k3 : Int32} {r_1 : Int32} {r_6 : Int32} (hcn2 : cn ≤ 20) (hln1 : ∀ j, 0 ≤ ln j) (hln2 : ∀ j, ln j ≤ 24) (hr_1 : r_1 = if 0 ≤ r ∧ r < cn then 1 else 0) (c_2 : ¬ r_1 = 0) (hr_6 : r_6 = if 24 ≤ ln r.toNatClampNeg then 1 else 0) (c_7 : ¬ r_6 = 0) : (((-40001 : Int32), ln, po, pa, pb) = t_add r k k2 k3 cn ln po pa pb) := by
  (try subst_vars) <;> simp only [t_add] <;> grind
theorem q_X8_add_21 {ln : Nat → Int32} {po : Nat → Int32} {pa : Nat → Int32} {pb : Nat → Int32} {cn : Int32} {r : Int32} {k : Int32} {k2 : Int32} {k3 : Int32} {r_1 : Int32} (hcn2 : cn ≤ 20) (hln1 : ∀ j, 0 ≤ ln j) (hln2 : ∀ j, ln j ≤ 24) (hr_1 : r_1 = if 0 ≤ r ∧ r < cn then 1 else 0) (c_2 : r_1 = 0) : (((-40000 : Int32), ln, po, pa, pb) = t_add r k k2 k3 cn ln po pa pb) := by
  (try subst_vars) <;> simp only [t_add] <;> grind
set_option maxHeartbeats 4000000 in
set_option maxRecDepth 100000 in
theorem c_X8_add (l : Launch) (dC : Nat → ClassId) (dI : Nat → Nat → Nat) (cI : ClassId) (sz : Nat) (aP : Nat) (aU : Nat) (aM : Nat) (aZ : Nat) (zg : Nat) (p0 : Nat) (p1 : Nat) (p2 : Nat) (p3 : Nat) (p4 : Nat) (p5 : Nat) (ln : Nat → Int32) (po : Nat → Int32) (pa : Nat → Int32) (pb : Nat → Int32) (cn : Int32) (gn : Int32) (r : Int32) (k : Int32) (k2 : Int32) (k3 : Int32) (hcn2 : cn ≤ 20) (hln1 : ∀ j, 0 ≤ ln j) (hln2 : ∀ j, ln j ≤ 24) : mWi l yX8_add wsX8_add ({ frames := 4, cells := 0, slots := 0, locals := 88 }) [.ref aZ, .int r, .int k, .int k2, .int k3] (dC, dI) [(cI, .int)] [(aZ, .inr (5, [.ref aP, .ref aU, .ref aM, .ref zg, .int gn])), (aP, .inr (2, [.ref p0, .ref p1, .ref p2, .ref p3, .ref p4, .ref p5, .int cn])), (p1, .inl (cI, 20, .inl ln)), (p3, .inl (cI, 480, .inl po)), (p4, .inl (cI, 480, .inl pa)), (p5, .inl (cI, 480, .inl pb))] sz (fun (v : Int32) (u : (Nat → Int32) × (Nat → Int32) × (Nat → Int32) × (Nat → Int32)) => ((v, u.1, u.2.1, u.2.2.1, u.2.2.2) = t_add r k k2 k3 cn ln po pa pb)) (fun u : (Nat → Int32) × (Nat → Int32) × (Nat → Int32) × (Nat → Int32) => [(aZ, .inr (5, [.ref aP, .ref aU, .ref aM, .ref zg, .int gn])), (aP, .inr (2, [.ref p0, .ref p1, .ref p2, .ref p3, .ref p4, .ref p5, .int cn])), (p1, .inl (cI, 20, .inl u.1)), (p3, .inl (cI, 480, .inl u.2.1)), (p4, .inl (cI, 480, .inl u.2.2.1)), (p5, .inl (cI, 480, .inl u.2.2.2))]) := by
  refine o_wi (cc := cX8_add) (maxL := 5) (ret := (some .int)) (by decide) rfl (Nat.le_of_ble_eq_true rfl) ?_
  intro p e s m below meth c ls A hx hb hr hml hts hown hlocks hP hK hD hS hA hl
  have hown : s.vm.findClass RX8 = some m.cls := hown
  have hl : lv_has ls 5 [(0, .ref aZ), (1, .int r), (2, .int k), (3, .int k2), (4, .int k3)] := hl
  have k_1 := hts (.fieldLink RX8 10 "ZRoutines" "program" "LZRoutines$Program;") (List.mem_of_getElem? (i := 1) rfl)
  have k_2 := hts (.constant RX8 45 (-40001)) (List.mem_of_getElem? (i := 3) rfl)
  have k_3 := hts (.constant RX8 40 (-40000)) (List.mem_of_getElem? (i := 2) rfl)
  have i_X8 : ∀ w ∈ u_ws RX8 TX8 5, w ∈ wsX8_add := fun _ h => List.mem_cons_of_mem _ (List.mem_append_left _ (List.mem_append_right _ h))
  refine lv_aload_n hx hb dX8_add_0 rfl (lv_at hl 0 rfl) ?_
  refine va_get (D := (dC, dI)) (ci := 5) (v := .ref aP) (C := RX8) (T := TX8) (N := 5) hx hb hts i_X8 hown hK hP 0 rfl rfl 0 (by decide) k_1 (fun _ h9 => h9) rfl dX8_add_1 ?_
  refine lv_iload_n hx hb dX8_add_4 rfl (lv_at hl 1 rfl) ?_
  refine k_rd (ci := 2) (q0 := 0) (q := (RX5, TX5, 7)) (As := [.int r]) (rest := []) ⟨hx, hb, hml, hown, hts⟩ (c_X5_has l dC dI cI aP p0 p1 p2 p3 p4 p5 cn r ) (cwV 1 hts gX8_add_X5_has rfl rfl rfl (by decide +kernel) ⟨Nat.le_of_ble_eq_true rfl, Nat.le_of_ble_eq_true rfl⟩) hK hP [1] rfl rfl rfl rfl hl.1 rfl (Nat.le_of_ble_eq_true rfl) dX8_add_5 ⟨Nat.zero_le _, Nat.zero_le _⟩ (fun r_1 hr_1 => ?_)
  have hr_1 : r_1 = if 0 ≤ r ∧ r < cn then 1 else 0 := hr_1
  refine lv_if_ne (tgt := 14) hx hb dX8_add_8 (by decide) (fun c_2 => ?_) (fun c_2 => ?_)
  · skip
    refine lv_aload_n hx hb dX8_add_14 rfl (lv_at hl 0 rfl) ?_
    refine va_get (D := (dC, dI)) (ci := 5) (v := .ref aP) (C := RX8) (T := TX8) (N := 5) hx hb hts i_X8 hown hK hP 0 rfl rfl 0 (by decide) k_1 (fun _ h9 => h9) rfl dX8_add_15 ?_
    refine lv_iload_n hx hb dX8_add_18 rfl (lv_at hl 1 rfl) ?_
    refine k_rd (ci := 2) (q0 := 0) (q := (RX5, TX5, 7)) (As := [.int r]) (rest := []) ⟨hx, hb, hml, hown, hts⟩ (c_X5_isBodyFull l dC dI cI aP p0 p1 p2 p3 p4 p5 ln cn r (q_X8_add_3 hcn2 hln1 hln2 hr_1 c_2) (q_X8_add_4 hcn2 hln1 hln2 hr_1 c_2) (q_X8_add_5 hcn2 hln1 hln2 hr_1 c_2)) (cwV 1 hts gX8_add_X5_isBodyFull rfl rfl rfl (by decide +kernel) ⟨Nat.le_of_ble_eq_true rfl, Nat.le_of_ble_eq_true rfl⟩) hK hP [1, 2] rfl rfl rfl rfl hl.1 rfl (Nat.le_of_ble_eq_true rfl) dX8_add_19 ⟨Nat.zero_le _, Nat.zero_le _⟩ (fun r_6 hr_6 => ?_)
    have hr_6 : r_6 = if 24 ≤ ln r.toNatClampNeg then 1 else 0 := hr_6
    refine lv_if_eq (tgt := 30) hx hb dX8_add_22 (by decide) (fun c_7 => ?_) (fun c_7 => ?_)
    · skip
      refine lv_aload_n hx hb dX8_add_30 rfl (lv_at hl 0 rfl) ?_
      refine va_get (D := (dC, dI)) (ci := 5) (v := .ref aP) (C := RX8) (T := TX8) (N := 5) hx hb hts i_X8 hown hK hP 0 rfl rfl 0 (by decide) k_1 (fun _ h9 => h9) rfl dX8_add_31 ?_
      refine lv_iload_n hx hb dX8_add_34 rfl (lv_at hl 1 rfl) ?_
      refine lv_iload_n hx hb dX8_add_35 rfl (lv_at hl 2 rfl) ?_
      refine lv_iload_n hx hb dX8_add_36 rfl (lv_at hl 3 rfl) ?_
      refine lv_iload hx hb dX8_add_37 (lv_at hl 4 rfl) ?_
      refine k_wi (w2 := (fun u_14 : (Nat → Int32) × (Nat → Int32) × (Nat → Int32) × (Nat → Int32) => [(aZ, .inr (5, [.ref aP, .ref aU, .ref aM, .ref zg, .int gn])), (aP, .inr (2, [.ref p0, .ref p1, .ref p2, .ref p3, .ref p4, .ref p5, .int cn])), (p1, .inl (cI, 20, .inl u_14.1)), (p3, .inl (cI, 480, .inl u_14.2.1)), (p4, .inl (cI, 480, .inl u_14.2.2.1)), (p5, .inl (cI, 480, .inl u_14.2.2.2))])) (wr := [(aZ, .inr (5, [.ref aP, .ref aU, .ref aM, .ref zg, .int gn]))]) (ci := 2) (q0 := 0) (q := (RX5, TX5, 7)) (As := [.int r, .int k, .int k2, .int k3]) (rest := []) ⟨hx, hb, hml, hown, hts⟩ (c_X5_appendInstruction l dC dI cI _ aP p0 p1 p2 p3 p4 p5 ln po pa pb cn r k k2 k3 (q_X8_add_8 hcn2 hln1 hln2 hr_1 c_2 hr_6 c_7) (q_X8_add_9 hcn2 hln1 hln2 hr_1 c_2 hr_6 c_7) (q_X8_add_10 hcn2 hln1 hln2 hr_1 c_2 hr_6 c_7) (q_X8_add_11 hcn2 hln1 hln2 hr_1 c_2 hr_6 c_7) (q_X8_add_12 hcn2 hln1 hln2 hr_1 c_2 hr_6 c_7)) (cwV 4 hts gX8_add_X5_appendInstruction rfl rfl rfl (by decide +kernel) ⟨Nat.le_of_ble_eq_true rfl, Nat.le_of_ble_eq_true rfl⟩) hK hP hD hS hA [1, 2, 3, 4, 5] [0] [0, 1, 2, 3, 4, 5] rfl rfl (by decide) (fun _ => rfl) rfl rfl rfl hl.1 rfl (Nat.le_of_ble_eq_true rfl) dX8_add_39 ⟨Nat.zero_le _, Nat.zero_le _⟩ (fun r_13 u_14 H locs hr_13 hP hD hS => ?_)
      obtain ⟨ln_15, po_16, pa_17, pb_18⟩ := u_14
      have hP : va_P (dC, dI) vwCl [(aZ, .inr (5, [.ref aP, .ref aU, .ref aM, .ref zg, .int gn])), (aP, .inr (2, [.ref p0, .ref p1, .ref p2, .ref p3, .ref p4, .ref p5, .int cn])), (p1, .inl (cI, 20, .inl ln_15)), (p3, .inl (cI, 480, .inl po_16)), (p4, .inl (cI, 480, .inl pa_17)), (p5, .inl (cI, 480, .inl pb_18))] H := hP
      have hD : va_D A [(aZ, .inr (5, [.ref aP, .ref aU, .ref aM, .ref zg, .int gn])), (aP, .inr (2, [.ref p0, .ref p1, .ref p2, .ref p3, .ref p4, .ref p5, .int cn])), (p1, .inl (cI, 20, .inl ln_15)), (p3, .inl (cI, 480, .inl po_16)), (p4, .inl (cI, 480, .inl pa_17)), (p5, .inl (cI, 480, .inl pb_18))] := hD
      obtain ⟨hr_13_0, hr_13_1, hr_13_2, hr_13_3, hr_13_4⟩ := hr_13
      have hr_13_0 : r_13 = ln r.toNatClampNeg + 1 := hr_13_0
      have hr_13_1 : ln_15 = upd ln r.toNatClampNeg (ln r.toNatClampNeg + 1) := hr_13_1
      have hr_13_2 : po_16 = upd po (r * 24 + ln r.toNatClampNeg).toNatClampNeg k := hr_13_2
      have hr_13_3 : pa_17 = upd pa (r * 24 + ln r.toNatClampNeg).toNatClampNeg k2 := hr_13_3
      have hr_13_4 : pb_18 = upd pb (r * 24 + ln r.toNatClampNeg).toNatClampNeg k3 := hr_13_4
      exact e_wi hx hb hr hlocks dX8_add_42 hK hS (ln_15, po_16, pa_17, pb_18) hP hD (q_X8_add_19 hcn2 hln1 hln2 hr_1 c_2 hr_6 c_7 hr_13_0 hr_13_1 hr_13_2 hr_13_3 hr_13_4)
    · skip
      refine lv_ldc (v := (-40001)) hx hb hown k_2 dX8_add_25 ?_
      refine lv_goto (tgt := 42) hx hb dX8_add_27 (by decide) ?_
      exact e_wi hx hb hr hlocks dX8_add_42 hK hS (ln, po, pa, pb) hP hD (q_X8_add_20 hcn2 hln1 hln2 hr_1 c_2 hr_6 c_7)
  · skip
    refine lv_ldc (v := (-40000)) hx hb hown k_3 dX8_add_11 ?_
    exact e_wi hx hb hr hlocks dX8_add_13 hK hS (ln, po, pa, pb) hP hD (q_X8_add_21 hcn2 hln1 hln2 hr_1 c_2)

theorem q_X8_clear_3 {ln : Nat → Int32} {cn : Int32} {r : Int32} {r_1 : Int32} (hcn2 : cn ≤ 20) (hr_1 : r_1 = if 0 ≤ r ∧ r < cn then 1 else 0) (c_2 : r_1 = 0) : (((-40000 : Int32), ln) = t_clear r cn ln) := by
  (try subst_vars) <;> simp only [t_clear] <;> grind
theorem q_X8_clear_4 {cn : Int32} {r : Int32} {r_1 : Int32} (hcn2 : cn ≤ 20) (hr_1 : r_1 = if 0 ≤ r ∧ r < cn then 1 else 0) (c_2 : ¬ r_1 = 0) : cn ≤ 20 := by
  grind
theorem q_X8_clear_5 {cn : Int32} {r : Int32} {r_1 : Int32} (hcn2 : cn ≤ 20) (hr_1 : r_1 = if 0 ≤ r ∧ r < cn then 1 else 0) (c_2 : ¬ r_1 = 0) : 0 ≤ r := by
  grind
theorem q_X8_clear_6 {cn : Int32} {r : Int32} {r_1 : Int32} (hcn2 : cn ≤ 20) (hr_1 : r_1 = if 0 ≤ r ∧ r < cn then 1 else 0) (c_2 : ¬ r_1 = 0) : r < cn := by
  grind
theorem q_X8_clear_10 {ln : Nat → Int32} {cn : Int32} {r : Int32} {r_1 : Int32} {ln_9 : Nat → Int32} {r_7 : Int32} (hcn2 : cn ≤ 20) (hr_1 : r_1 = if 0 ≤ r ∧ r < cn then 1 else 0) (c_2 : ¬ r_1 = 0) (hr_7_0 : r_7 = ln r.toNatClampNeg) (hr_7_1 : ln_9 = upd ln r.toNatClampNeg 0) : ((r_7, ln_9) = t_clear r cn ln) := by
  (try subst_vars) <;> simp only [t_clear] <;> grind
set_option maxHeartbeats 4000000 in
set_option maxRecDepth 100000 in
theorem c_X8_clear (l : Launch) (dC : Nat → ClassId) (dI : Nat → Nat → Nat) (cI : ClassId) (sz : Nat) (aP : Nat) (aU : Nat) (aM : Nat) (aZ : Nat) (zg : Nat) (p0 : Nat) (p1 : Nat) (p2 : Nat) (p3 : Nat) (p4 : Nat) (p5 : Nat) (ln : Nat → Int32) (cn : Int32) (gn : Int32) (r : Int32) (hcn2 : cn ≤ 20) : mWi l yX8_clear wsX8_clear ({ frames := 2, cells := 0, slots := 0, locals := 43 }) [.ref aZ, .int r] (dC, dI) [(cI, .int)] [(aZ, .inr (5, [.ref aP, .ref aU, .ref aM, .ref zg, .int gn])), (aP, .inr (2, [.ref p0, .ref p1, .ref p2, .ref p3, .ref p4, .ref p5, .int cn])), (p1, .inl (cI, 20, .inl ln))] sz (fun (v : Int32) (u : (Nat → Int32)) => ((v, u) = t_clear r cn ln)) (fun u : (Nat → Int32) => [(aZ, .inr (5, [.ref aP, .ref aU, .ref aM, .ref zg, .int gn])), (aP, .inr (2, [.ref p0, .ref p1, .ref p2, .ref p3, .ref p4, .ref p5, .int cn])), (p1, .inl (cI, 20, .inl u))]) := by
  refine o_wi (cc := cX8_clear) (maxL := 2) (ret := (some .int)) (by decide) rfl (Nat.le_of_ble_eq_true rfl) ?_
  intro p e s m below meth c ls A hx hb hr hml hts hown hlocks hP hK hD hS hA hl
  have hown : s.vm.findClass RX8 = some m.cls := hown
  have hl : lv_has ls 2 [(0, .ref aZ), (1, .int r)] := hl
  have k_1 := hts (.fieldLink RX8 10 "ZRoutines" "program" "LZRoutines$Program;") (List.mem_of_getElem? (i := 1) rfl)
  have k_2 := hts (.constant RX8 40 (-40000)) (List.mem_of_getElem? (i := 2) rfl)
  have i_X8 : ∀ w ∈ u_ws RX8 TX8 5, w ∈ wsX8_clear := fun _ h => List.mem_cons_of_mem _ (List.mem_append_left _ (List.mem_append_right _ h))
  refine lv_aload_n hx hb dX8_clear_0 rfl (lv_at hl 0 rfl) ?_
  refine va_get (D := (dC, dI)) (ci := 5) (v := .ref aP) (C := RX8) (T := TX8) (N := 5) hx hb hts i_X8 hown hK hP 0 rfl rfl 0 (by decide) k_1 (fun _ h9 => h9) rfl dX8_clear_1 ?_
  refine lv_iload_n hx hb dX8_clear_4 rfl (lv_at hl 1 rfl) ?_
  refine k_rd (ci := 2) (q0 := 0) (q := (RX5, TX5, 7)) (As := [.int r]) (rest := []) ⟨hx, hb, hml, hown, hts⟩ (c_X5_has l dC dI cI aP p0 p1 p2 p3 p4 p5 cn r ) (cwV 1 hts gX8_clear_X5_has rfl rfl rfl (by decide +kernel) ⟨Nat.le_of_ble_eq_true rfl, Nat.le_of_ble_eq_true rfl⟩) hK hP [1] rfl rfl rfl rfl hl.1 rfl (Nat.le_of_ble_eq_true rfl) dX8_clear_5 ⟨Nat.zero_le _, Nat.zero_le _⟩ (fun r_1 hr_1 => ?_)
  have hr_1 : r_1 = if 0 ≤ r ∧ r < cn then 1 else 0 := hr_1
  refine lv_if_eq (tgt := 22) hx hb dX8_clear_8 (by decide) (fun c_2 => ?_) (fun c_2 => ?_)
  · skip
    refine lv_ldc (v := (-40000)) hx hb hown k_2 dX8_clear_22 ?_
    exact e_wi hx hb hr hlocks dX8_clear_24 hK hS (ln) hP hD (q_X8_clear_3 hcn2 hr_1 c_2)
  · skip
    refine lv_aload_n hx hb dX8_clear_11 rfl (lv_at hl 0 rfl) ?_
    refine va_get (D := (dC, dI)) (ci := 5) (v := .ref aP) (C := RX8) (T := TX8) (N := 5) hx hb hts i_X8 hown hK hP 0 rfl rfl 0 (by decide) k_1 (fun _ h9 => h9) rfl dX8_clear_12 ?_
    refine lv_iload_n hx hb dX8_clear_15 rfl (lv_at hl 1 rfl) ?_
    refine k_wi (w2 := (fun u_8 : (Nat → Int32) => [(aZ, .inr (5, [.ref aP, .ref aU, .ref aM, .ref zg, .int gn])), (aP, .inr (2, [.ref p0, .ref p1, .ref p2, .ref p3, .ref p4, .ref p5, .int cn])), (p1, .inl (cI, 20, .inl u_8))])) (wr := [(aZ, .inr (5, [.ref aP, .ref aU, .ref aM, .ref zg, .int gn]))]) (ci := 2) (q0 := 0) (q := (RX5, TX5, 7)) (As := [.int r]) (rest := []) ⟨hx, hb, hml, hown, hts⟩ (c_X5_emptyBody l dC dI cI _ aP p0 p1 p2 p3 p4 p5 ln cn r (q_X8_clear_4 hcn2 hr_1 c_2) (q_X8_clear_5 hcn2 hr_1 c_2) (q_X8_clear_6 hcn2 hr_1 c_2)) (cwV 1 hts gX8_clear_X5_emptyBody rfl rfl rfl (by decide +kernel) ⟨Nat.le_of_ble_eq_true rfl, Nat.le_of_ble_eq_true rfl⟩) hK hP hD hS hA [1, 2] [0] [0, 1, 2] rfl rfl (by decide) (fun _ => rfl) rfl rfl rfl hl.1 rfl (Nat.le_of_ble_eq_true rfl) dX8_clear_16 ⟨Nat.zero_le _, Nat.zero_le _⟩ (fun r_7 u_8 H locs hr_7 hP hD hS => ?_)
    obtain ⟨ln_9, rfl⟩ : ∃ z, z = u_8 := ⟨_, rfl⟩
    have hP : va_P (dC, dI) vwCl [(aZ, .inr (5, [.ref aP, .ref aU, .ref aM, .ref zg, .int gn])), (aP, .inr (2, [.ref p0, .ref p1, .ref p2, .ref p3, .ref p4, .ref p5, .int cn])), (p1, .inl (cI, 20, .inl ln_9))] H := hP
    have hD : va_D A [(aZ, .inr (5, [.ref aP, .ref aU, .ref aM, .ref zg, .int gn])), (aP, .inr (2, [.ref p0, .ref p1, .ref p2, .ref p3, .ref p4, .ref p5, .int cn])), (p1, .inl (cI, 20, .inl ln_9))] := hD
    obtain ⟨hr_7_0, hr_7_1⟩ := hr_7
    have hr_7_0 : r_7 = ln r.toNatClampNeg := hr_7_0
    have hr_7_1 : ln_9 = upd ln r.toNatClampNeg 0 := hr_7_1
    refine lv_goto (tgt := 24) hx hb dX8_clear_19 (by decide) ?_
    exact e_wi hx hb hr hlocks dX8_clear_24 hK hS (ln_9) hP hD (q_X8_clear_10 hcn2 hr_1 c_2 hr_7_0 hr_7_1)

theorem q_X8_room_3 {ur : Nat → Int32} {uc : Nat → Int32} {r : Int32} {k : Int32} {r_1 : Int32} (hr_1 : r_1 = if 0 ≤ r ∧ r < 4 then 1 else 0) (c_2 : r_1 = 0) : (((-40000 : Int32), uc, ur) = t_room r k uc ur) := by
  (try subst_vars) <;> simp only [t_room] <;> grind
theorem q_X8_room_5 {ur : Nat → Int32} {uc : Nat → Int32} {r : Int32} {k : Int32} {r_1 : Int32} (hr_1 : r_1 = if 0 ≤ r ∧ r < 4 then 1 else 0) (c_2 : ¬ r_1 = 0) (c_4 : k < 0) : (((-40000 : Int32), uc, ur) = t_room r k uc ur) := by
  (try subst_vars) <;> simp only [t_room] <;> grind
theorem q_X8_room_7 {r : Int32} {k : Int32} {r_1 : Int32} (hr_1 : r_1 = if 0 ≤ r ∧ r < 4 then 1 else 0) (c_2 : ¬ r_1 = 0) (c_4 : ¬ k < 0) (c_6 : k ≤ 10) : 0 ≤ r := by
  grind
theorem q_X8_room_8 {r : Int32} {k : Int32} {r_1 : Int32} (hr_1 : r_1 = if 0 ≤ r ∧ r < 4 then 1 else 0) (c_2 : ¬ r_1 = 0) (c_4 : ¬ k < 0) (c_6 : k ≤ 10) : r < 4 := by
  grind
theorem q_X8_room_13 {ur : Nat → Int32} {uc : Nat → Int32} {r : Int32} {k : Int32} {r_1 : Int32} {uc_11 : Nat → Int32} {ur_12 : Nat → Int32} {r_9 : Int32} (hr_1 : r_1 = if 0 ≤ r ∧ r < 4 then 1 else 0) (c_2 : ¬ r_1 = 0) (c_4 : ¬ k < 0) (c_6 : k ≤ 10) (hr_9_0 : r_9 = uc r.toNatClampNeg) (hr_9_1 : uc_11 = upd uc r.toNatClampNeg 0) (hr_9_2 : ur_12 = upd ur r.toNatClampNeg k) : ((r_9, uc_11, ur_12) = t_room r k uc ur) := by
  (try subst_vars) <;> simp only [t_room] <;> grind
theorem q_X8_room_14 {ur : Nat → Int32} {uc : Nat → Int32} {r : Int32} {k : Int32} {r_1 : Int32} (hr_1 : r_1 = if 0 ≤ r ∧ r < 4 then 1 else 0) (c_2 : ¬ r_1 = 0) (c_4 : ¬ k < 0) (c_6 : ¬ k ≤ 10) : (((-40000 : Int32), uc, ur) = t_room r k uc ur) := by
  (try subst_vars) <;> simp only [t_room] <;> grind
set_option maxHeartbeats 4000000 in
set_option maxRecDepth 100000 in
theorem c_X8_room (l : Launch) (dC : Nat → ClassId) (dI : Nat → Nat → Nat) (cI : ClassId) (sz : Nat) (aP : Nat) (aU : Nat) (aM : Nat) (aZ : Nat) (zg : Nat) (u0 : Nat) (u1 : Nat) (u2 : Nat) (ur : Nat → Int32) (uc : Nat → Int32) (gn : Int32) (r : Int32) (k : Int32)  : mWi l yX8_room wsX8_room ({ frames := 2, cells := 0, slots := 0, locals := 44 }) [.ref aZ, .int r, .int k] (dC, dI) [(cI, .int)] [(aZ, .inr (5, [.ref aP, .ref aU, .ref aM, .ref zg, .int gn])), (aU, .inr (4, [.ref u0, .ref u1, .ref u2])), (u0, .inl (cI, 4, .inl ur)), (u1, .inl (cI, 4, .inl uc))] sz (fun (v : Int32) (u : (Nat → Int32) × (Nat → Int32)) => ((v, u.1, u.2) = t_room r k uc ur)) (fun u : (Nat → Int32) × (Nat → Int32) => [(aZ, .inr (5, [.ref aP, .ref aU, .ref aM, .ref zg, .int gn])), (aU, .inr (4, [.ref u0, .ref u1, .ref u2])), (u0, .inl (cI, 4, .inl u.2)), (u1, .inl (cI, 4, .inl u.1))]) := by
  refine o_wi (cc := cX8_room) (maxL := 3) (ret := (some .int)) (by decide) rfl (Nat.le_of_ble_eq_true rfl) ?_
  intro p e s m below meth c ls A hx hb hr hml hts hown hlocks hP hK hD hS hA hl
  have hown : s.vm.findClass RX8 = some m.cls := hown
  have hl : lv_has ls 3 [(0, .ref aZ), (1, .int r), (2, .int k)] := hl
  have k_1 := hts (.fieldLink RX8 19 "ZRoutines" "userStacks" "LZRoutines$UserStacks;") (List.mem_of_getElem? (i := 1) rfl)
  have k_2 := hts (.constant RX8 40 (-40000)) (List.mem_of_getElem? (i := 2) rfl)
  have i_X8 : ∀ w ∈ u_ws RX8 TX8 5, w ∈ wsX8_room := fun _ h => List.mem_cons_of_mem _ (List.mem_append_left _ (List.mem_append_right _ h))
  refine lv_aload_n hx hb dX8_room_0 rfl (lv_at hl 0 rfl) ?_
  refine va_get (D := (dC, dI)) (ci := 5) (v := .ref aU) (C := RX8) (T := TX8) (N := 5) hx hb hts i_X8 hown hK hP 0 rfl rfl 1 (by decide) k_1 (fun _ h9 => h9) rfl dX8_room_1 ?_
  refine lv_iload_n hx hb dX8_room_4 rfl (lv_at hl 1 rfl) ?_
  refine k_rd (ci := 4) (q0 := 0) (q := (RX7, TX7, 3)) (As := [.int r]) (rest := []) ⟨hx, hb, hml, hown, hts⟩ (c_X7_has l dC dI cI aU u0 u1 u2 r ) (cwV 1 hts gX8_room_X7_has rfl rfl rfl (by decide +kernel) ⟨Nat.le_of_ble_eq_true rfl, Nat.le_of_ble_eq_true rfl⟩) hK hP [1] rfl rfl rfl rfl hl.1 rfl (Nat.le_of_ble_eq_true rfl) dX8_room_5 ⟨Nat.zero_le _, Nat.zero_le _⟩ (fun r_1 hr_1 => ?_)
  have hr_1 : r_1 = if 0 ≤ r ∧ r < 4 then 1 else 0 := hr_1
  refine lv_if_eq (tgt := 21) hx hb dX8_room_8 (by decide) (fun c_2 => ?_) (fun c_2 => ?_)
  · skip
    refine lv_ldc (v := (-40000)) hx hb hown k_2 dX8_room_21 ?_
    exact e_wi hx hb hr hlocks dX8_room_23 hK hS (uc, ur) hP hD (q_X8_room_3 hr_1 c_2)
  · skip
    refine lv_iload_n hx hb dX8_room_11 rfl (lv_at hl 2 rfl) ?_
    refine lv_if_lt (tgt := 21) hx hb dX8_room_12 (by decide) (fun c_4 => ?_) (fun c_4 => ?_)
    · skip
      refine lv_ldc (v := (-40000)) hx hb hown k_2 dX8_room_21 ?_
      exact e_wi hx hb hr hlocks dX8_room_23 hK hS (uc, ur) hP hD (q_X8_room_5 hr_1 c_2 c_4)
    · skip
      refine lv_iload_n hx hb dX8_room_15 rfl (lv_at hl 2 rfl) ?_
      refine lv_bipush (v := 10) hx hb dX8_room_16 (by decide) ?_
      refine lv_icmp_le (tgt := 24) hx hb dX8_room_18 (by decide) (fun c_6 => ?_) (fun c_6 => ?_)
      · skip
        refine lv_aload_n hx hb dX8_room_24 rfl (lv_at hl 0 rfl) ?_
        refine va_get (D := (dC, dI)) (ci := 5) (v := .ref aU) (C := RX8) (T := TX8) (N := 5) hx hb hts i_X8 hown hK hP 0 rfl rfl 1 (by decide) k_1 (fun _ h9 => h9) rfl dX8_room_25 ?_
        refine lv_iload_n hx hb dX8_room_28 rfl (lv_at hl 1 rfl) ?_
        refine lv_iload_n hx hb dX8_room_29 rfl (lv_at hl 2 rfl) ?_
        refine k_wi (w2 := (fun u_10 : (Nat → Int32) × (Nat → Int32) => [(aZ, .inr (5, [.ref aP, .ref aU, .ref aM, .ref zg, .int gn])), (aU, .inr (4, [.ref u0, .ref u1, .ref u2])), (u0, .inl (cI, 4, .inl u_10.2)), (u1, .inl (cI, 4, .inl u_10.1))])) (wr := [(aZ, .inr (5, [.ref aP, .ref aU, .ref aM, .ref zg, .int gn]))]) (ci := 4) (q0 := 0) (q := (RX7, TX7, 3)) (As := [.int r, .int k]) (rest := []) ⟨hx, hb, hml, hown, hts⟩ (c_X7_emptyWithRoom l dC dI cI _ aU u0 u1 u2 ur uc r k (q_X8_room_7 hr_1 c_2 c_4 c_6) (q_X8_room_8 hr_1 c_2 c_4 c_6)) (cwV 2 hts gX8_room_X7_emptyWithRoom rfl rfl rfl (by decide +kernel) ⟨Nat.le_of_ble_eq_true rfl, Nat.le_of_ble_eq_true rfl⟩) hK hP hD hS hA [1, 2, 3] [0] [0, 1, 2, 3] rfl rfl (by decide) (fun _ => rfl) rfl rfl rfl hl.1 rfl (Nat.le_of_ble_eq_true rfl) dX8_room_30 ⟨Nat.zero_le _, Nat.zero_le _⟩ (fun r_9 u_10 H locs hr_9 hP hD hS => ?_)
        obtain ⟨uc_11, ur_12⟩ := u_10
        have hP : va_P (dC, dI) vwCl [(aZ, .inr (5, [.ref aP, .ref aU, .ref aM, .ref zg, .int gn])), (aU, .inr (4, [.ref u0, .ref u1, .ref u2])), (u0, .inl (cI, 4, .inl ur_12)), (u1, .inl (cI, 4, .inl uc_11))] H := hP
        have hD : va_D A [(aZ, .inr (5, [.ref aP, .ref aU, .ref aM, .ref zg, .int gn])), (aU, .inr (4, [.ref u0, .ref u1, .ref u2])), (u0, .inl (cI, 4, .inl ur_12)), (u1, .inl (cI, 4, .inl uc_11))] := hD
        obtain ⟨hr_9_0, hr_9_1, hr_9_2⟩ := hr_9
        have hr_9_0 : r_9 = uc r.toNatClampNeg := hr_9_0
        have hr_9_1 : uc_11 = upd uc r.toNatClampNeg 0 := hr_9_1
        have hr_9_2 : ur_12 = upd ur r.toNatClampNeg k := hr_9_2
        exact e_wi hx hb hr hlocks dX8_room_33 hK hS (uc_11, ur_12) hP hD (q_X8_room_13 hr_1 c_2 c_4 c_6 hr_9_0 hr_9_1 hr_9_2)
      · skip
        refine lv_ldc (v := (-40000)) hx hb hown k_2 dX8_room_21 ?_
        exact e_wi hx hb hr hlocks dX8_room_23 hK hS (uc, ur) hP hD (q_X8_room_14 hr_1 c_2 c_4 c_6)

theorem q_X8_user_4 {uc : Nat → Int32} {r : Int32} {k : Int32} {r_1 : Int32} (huc3 : ∀ j, uc j ≤ 10) (hr_1 : r_1 = if 0 ≤ r ∧ r < 4 then 1 else 0) (c_2 : ¬ r_1 = 0) (c_3 : ¬ k = (-1)) : 0 ≤ r := by
  grind
theorem q_X8_user_5 {uc : Nat → Int32} {r : Int32} {k : Int32} {r_1 : Int32} (huc3 : ∀ j, uc j ≤ 10) (hr_1 : r_1 = if 0 ≤ r ∧ r < 4 then 1 else 0) (c_2 : ¬ r_1 = 0) (c_3 : ¬ k = (-1)) : r < 4 := by
  grind
theorem q_X8_user_8 {uc : Nat → Int32} {un : Nat → Int32} {r : Int32} {k : Int32} {r_1 : Int32} {r_6 : Int32} (huc3 : ∀ j, uc j ≤ 10) (hr_1 : r_1 = if 0 ≤ r ∧ r < 4 then 1 else 0) (c_2 : ¬ r_1 = 0) (c_3 : ¬ k = (-1)) (hr_6 : r_6 = if 0 ≤ k ∧ k < uc r.toNatClampNeg then 1 else 0) (c_7 : r_6 = 0) : ((-40000 : Int32) = t_user r k uc un) := by
  (try subst_vars) <;> simp only [t_user] <;> grind
theorem q_X8_user_9 {uc : Nat → Int32} {r : Int32} {k : Int32} {r_1 : Int32} {r_6 : Int32} (huc3 : ∀ j, uc j ≤ 10) (hr_1 : r_1 = if 0 ≤ r ∧ r < 4 then 1 else 0) (c_2 : ¬ r_1 = 0) (c_3 : ¬ k = (-1)) (hr_6 : r_6 = if 0 ≤ k ∧ k < uc r.toNatClampNeg then 1 else 0) (c_7 : ¬ r_6 = 0) : 0 ≤ r := by
  grind
theorem q_X8_user_10 {uc : Nat → Int32} {r : Int32} {k : Int32} {r_1 : Int32} {r_6 : Int32} (huc3 : ∀ j, uc j ≤ 10) (hr_1 : r_1 = if 0 ≤ r ∧ r < 4 then 1 else 0) (c_2 : ¬ r_1 = 0) (c_3 : ¬ k = (-1)) (hr_6 : r_6 = if 0 ≤ k ∧ k < uc r.toNatClampNeg then 1 else 0) (c_7 : ¬ r_6 = 0) : r < 4 := by
  grind
theorem q_X8_user_11 {uc : Nat → Int32} {r : Int32} {k : Int32} {r_1 : Int32} {r_6 : Int32} (huc3 : ∀ j, uc j ≤ 10) (hr_1 : r_1 = if 0 ≤ r ∧ r < 4 then 1 else 0) (c_2 : ¬ r_1 = 0) (c_3 : ¬ k = (-1)) (hr_6 : r_6 = if 0 ≤ k ∧ k < uc r.toNatClampNeg then 1 else 0) (c_7 : ¬ r_6 = 0) : 0 ≤ k := by
  grind
theorem q_X8_user_12 {uc : Nat → Int32} {r : Int32} {k : Int32} {r_1 : Int32} {r_6 : Int32} (huc3 : ∀ j, uc j ≤ 10) (hr_1 : r_1 = if 0 ≤ r ∧ r < 4 then 1 else 0) (c_2 : ¬ r_1 = 0) (c_3 : ¬ k = (-1)) (hr_6 : r_6 = if 0 ≤ k ∧ k < uc r.toNatClampNeg then 1 else 0) (c_7 : ¬ r_6 = 0) : k < uc r.toNatClampNeg := by
  grind
theorem q_X8_user_13 {uc : Nat → Int32} {r : Int32} {k : Int32} {r_1 : Int32} {r_6 : Int32} (huc3 : ∀ j, uc j ≤ 10) (hr_1 : r_1 = if 0 ≤ r ∧ r < 4 then 1 else 0) (c_2 : ¬ r_1 = 0) (c_3 : ¬ k = (-1)) (hr_6 : r_6 = if 0 ≤ k ∧ k < uc r.toNatClampNeg then 1 else 0) (c_7 : ¬ r_6 = 0) : uc r.toNatClampNeg ≤ 10 := by
  grind
theorem q_X8_user_15 {uc : Nat → Int32} {un : Nat → Int32} {r : Int32} {k : Int32} {r_1 : Int32} {r_6 : Int32} {r_14 : Int32} (huc3 : ∀ j, uc j ≤ 10) (hr_1 : r_1 = if 0 ≤ r ∧ r < 4 then 1 else 0) (c_2 : ¬ r_1 = 0) (c_3 : ¬ k = (-1)) (hr_6 : r_6 = if 0 ≤ k ∧ k < uc r.toNatClampNeg then 1 else 0) (c_7 : ¬ r_6 = 0) (hr_14 : r_14 = un (r * 10 + uc r.toNatClampNeg - 1 - k).toNatClampNeg) : (r_14 = t_user r k uc un) := by
  (try subst_vars) <;> simp only [t_user] <;> grind
theorem q_X8_user_16 {uc : Nat → Int32} {r : Int32} {k : Int32} {r_1 : Int32} (huc3 : ∀ j, uc j ≤ 10) (hr_1 : r_1 = if 0 ≤ r ∧ r < 4 then 1 else 0) (c_2 : ¬ r_1 = 0) (c_3 : k = (-1)) : 0 ≤ r := by
  grind
theorem q_X8_user_17 {uc : Nat → Int32} {r : Int32} {k : Int32} {r_1 : Int32} (huc3 : ∀ j, uc j ≤ 10) (hr_1 : r_1 = if 0 ≤ r ∧ r < 4 then 1 else 0) (c_2 : ¬ r_1 = 0) (c_3 : k = (-1)) : r < 4 := by
  grind
theorem q_X8_user_19 {uc : Nat → Int32} {un : Nat → Int32} {r : Int32} {k : Int32} {r_1 : Int32} {r_18 : Int32} (huc3 : ∀ j, uc j ≤ 10) (hr_1 : r_1 = if 0 ≤ r ∧ r < 4 then 1 else 0) (c_2 : ¬ r_1 = 0) (c_3 : k = (-1)) (hr_18 : r_18 = uc r.toNatClampNeg) : (r_18 = t_user r k uc un) := by
  (try subst_vars) <;> simp only [t_user] <;> grind
theorem q_X8_user_20 {uc : Nat → Int32} {un : Nat → Int32} {r : Int32} {k : Int32} {r_1 : Int32} (huc3 : ∀ j, uc j ≤ 10) (hr_1 : r_1 = if 0 ≤ r ∧ r < 4 then 1 else 0) (c_2 : r_1 = 0) : ((-40000 : Int32) = t_user r k uc un) := by
  (try subst_vars) <;> simp only [t_user] <;> grind
set_option maxHeartbeats 4000000 in
set_option maxRecDepth 100000 in
theorem c_X8_user (l : Launch) (dC : Nat → ClassId) (dI : Nat → Nat → Nat) (cI : ClassId) (aP : Nat) (aU : Nat) (aM : Nat) (aZ : Nat) (zg : Nat) (u0 : Nat) (u1 : Nat) (u2 : Nat) (uc : Nat → Int32) (un : Nat → Int32) (gn : Int32) (r : Int32) (k : Int32) (huc3 : ∀ j, uc j ≤ 10) : mRd l yX8_user wsX8_user ({ frames := 3, cells := 0, slots := 0, locals := 65 }) [.ref aZ, .int r, .int k] (dC, dI) [(cI, .int)] [(aZ, .inr (5, [.ref aP, .ref aU, .ref aM, .ref zg, .int gn])), (aU, .inr (4, [.ref u0, .ref u1, .ref u2])), (u1, .inl (cI, 4, .inl uc)), (u2, .inl (cI, 40, .inl un))] (fun v => (v = t_user r k uc un)) := by
  refine o_rd (cc := cX8_user) (maxL := 3) (ret := (some .int)) (by decide) rfl (Nat.le_of_ble_eq_true rfl) ?_
  intro p e s m below meth c ls hx hb hr hml hts hown hlocks hP hK hl
  have hown : s.vm.findClass RX8 = some m.cls := hown
  have hl : lv_has ls 3 [(0, .ref aZ), (1, .int r), (2, .int k)] := hl
  have k_1 := hts (.fieldLink RX8 19 "ZRoutines" "userStacks" "LZRoutines$UserStacks;") (List.mem_of_getElem? (i := 1) rfl)
  have k_2 := hts (.constant RX8 40 (-40000)) (List.mem_of_getElem? (i := 2) rfl)
  have i_X8 : ∀ w ∈ u_ws RX8 TX8 5, w ∈ wsX8_user := fun _ h => List.mem_cons_of_mem _ (List.mem_append_left _ (List.mem_append_right _ h))
  refine lv_aload_n hx hb dX8_user_0 rfl (lv_at hl 0 rfl) ?_
  refine va_get (D := (dC, dI)) (ci := 5) (v := .ref aU) (C := RX8) (T := TX8) (N := 5) hx hb hts i_X8 hown hK hP 0 rfl rfl 1 (by decide) k_1 (fun _ h9 => h9) rfl dX8_user_1 ?_
  refine lv_iload_n hx hb dX8_user_4 rfl (lv_at hl 1 rfl) ?_
  refine k_rd (ci := 4) (q0 := 0) (q := (RX7, TX7, 3)) (As := [.int r]) (rest := []) ⟨hx, hb, hml, hown, hts⟩ (c_X7_has l dC dI cI aU u0 u1 u2 r ) (cwV 1 hts gX8_user_X7_has rfl rfl rfl (by decide +kernel) ⟨Nat.le_of_ble_eq_true rfl, Nat.le_of_ble_eq_true rfl⟩) hK hP [1] rfl rfl rfl rfl hl.1 rfl (Nat.le_of_ble_eq_true rfl) dX8_user_5 ⟨Nat.zero_le _, Nat.zero_le _⟩ (fun r_1 hr_1 => ?_)
  have hr_1 : r_1 = if 0 ≤ r ∧ r < 4 then 1 else 0 := hr_1
  refine lv_if_ne (tgt := 14) hx hb dX8_user_8 (by decide) (fun c_2 => ?_) (fun c_2 => ?_)
  · skip
    refine lv_iload_n hx hb dX8_user_14 rfl (lv_at hl 2 rfl) ?_
    refine lv_iconst (v := (-1)) hx hb dX8_user_15 (by decide) ?_
    refine lv_icmp_ne (tgt := 28) hx hb dX8_user_16 (by decide) (fun c_3 => ?_) (fun c_3 => ?_)
    · skip
      refine lv_aload_n hx hb dX8_user_28 rfl (lv_at hl 0 rfl) ?_
      refine va_get (D := (dC, dI)) (ci := 5) (v := .ref aU) (C := RX8) (T := TX8) (N := 5) hx hb hts i_X8 hown hK hP 0 rfl rfl 1 (by decide) k_1 (fun _ h9 => h9) rfl dX8_user_29 ?_
      refine lv_iload_n hx hb dX8_user_32 rfl (lv_at hl 1 rfl) ?_
      refine lv_iload_n hx hb dX8_user_33 rfl (lv_at hl 2 rfl) ?_
      refine k_rd (ci := 4) (q0 := 0) (q := (RX7, TX7, 3)) (As := [.int r, .int k]) (rest := []) ⟨hx, hb, hml, hown, hts⟩ (c_X7_hasNumber l dC dI cI aU u0 u1 u2 uc r k (q_X8_user_4 huc3 hr_1 c_2 c_3) (q_X8_user_5 huc3 hr_1 c_2 c_3)) (cwV 2 hts gX8_user_X7_hasNumber rfl rfl rfl (by decide +kernel) ⟨Nat.le_of_ble_eq_true rfl, Nat.le_of_ble_eq_true rfl⟩) hK hP [1, 2] rfl rfl rfl rfl hl.1 rfl (Nat.le_of_ble_eq_true rfl) dX8_user_34 ⟨Nat.zero_le _, Nat.zero_le _⟩ (fun r_6 hr_6 => ?_)
      have hr_6 : r_6 = if 0 ≤ k ∧ k < uc r.toNatClampNeg then 1 else 0 := hr_6
      refine lv_if_eq (tgt := 52) hx hb dX8_user_37 (by decide) (fun c_7 => ?_) (fun c_7 => ?_)
      · skip
        refine lv_ldc (v := (-40000)) hx hb hown k_2 dX8_user_52 ?_
        exact e_rdi hx hb hr hlocks dX8_user_54 (q_X8_user_8 huc3 hr_1 c_2 c_3 hr_6 c_7)
      · skip
        refine lv_aload_n hx hb dX8_user_40 rfl (lv_at hl 0 rfl) ?_
        refine va_get (D := (dC, dI)) (ci := 5) (v := .ref aU) (C := RX8) (T := TX8) (N := 5) hx hb hts i_X8 hown hK hP 0 rfl rfl 1 (by decide) k_1 (fun _ h9 => h9) rfl dX8_user_41 ?_
        refine lv_iload_n hx hb dX8_user_44 rfl (lv_at hl 1 rfl) ?_
        refine lv_iload_n hx hb dX8_user_45 rfl (lv_at hl 2 rfl) ?_
        refine k_rd (ci := 4) (q0 := 0) (q := (RX7, TX7, 3)) (As := [.int r, .int k]) (rest := []) ⟨hx, hb, hml, hown, hts⟩ (c_X7_fromTop l dC dI cI aU u0 u1 u2 uc un r k (q_X8_user_9 huc3 hr_1 c_2 c_3 hr_6 c_7) (q_X8_user_10 huc3 hr_1 c_2 c_3 hr_6 c_7) (q_X8_user_11 huc3 hr_1 c_2 c_3 hr_6 c_7) (q_X8_user_12 huc3 hr_1 c_2 c_3 hr_6 c_7) (q_X8_user_13 huc3 hr_1 c_2 c_3 hr_6 c_7)) (cwV 2 hts gX8_user_X7_fromTop rfl rfl rfl (by decide +kernel) ⟨Nat.le_of_ble_eq_true rfl, Nat.le_of_ble_eq_true rfl⟩) hK hP [1, 2, 3] rfl rfl rfl rfl hl.1 rfl (Nat.le_of_ble_eq_true rfl) dX8_user_46 ⟨Nat.zero_le _, Nat.zero_le _⟩ (fun r_14 hr_14 => ?_)
        have hr_14 : r_14 = un (r * 10 + uc r.toNatClampNeg - 1 - k).toNatClampNeg := hr_14
        refine lv_goto (tgt := 54) hx hb dX8_user_49 (by decide) ?_
        exact e_rdi hx hb hr hlocks dX8_user_54 (q_X8_user_15 huc3 hr_1 c_2 c_3 hr_6 c_7 hr_14)
    · skip
      refine lv_aload_n hx hb dX8_user_19 rfl (lv_at hl 0 rfl) ?_
      refine va_get (D := (dC, dI)) (ci := 5) (v := .ref aU) (C := RX8) (T := TX8) (N := 5) hx hb hts i_X8 hown hK hP 0 rfl rfl 1 (by decide) k_1 (fun _ h9 => h9) rfl dX8_user_20 ?_
      refine lv_iload_n hx hb dX8_user_23 rfl (lv_at hl 1 rfl) ?_
      refine k_rd (ci := 4) (q0 := 0) (q := (RX7, TX7, 3)) (As := [.int r]) (rest := []) ⟨hx, hb, hml, hown, hts⟩ (c_X7_count l dC dI cI aU u0 u1 u2 uc r (q_X8_user_16 huc3 hr_1 c_2 c_3) (q_X8_user_17 huc3 hr_1 c_2 c_3)) (cwV 1 hts gX8_user_X7_count rfl rfl rfl (by decide +kernel) ⟨Nat.le_of_ble_eq_true rfl, Nat.le_of_ble_eq_true rfl⟩) hK hP [1, 2] rfl rfl rfl rfl hl.1 rfl (Nat.le_of_ble_eq_true rfl) dX8_user_24 ⟨Nat.zero_le _, Nat.zero_le _⟩ (fun r_18 hr_18 => ?_)
      have hr_18 : r_18 = uc r.toNatClampNeg := hr_18
      exact e_rdi hx hb hr hlocks dX8_user_27 (q_X8_user_19 huc3 hr_1 c_2 c_3 hr_18)
  · skip
    refine lv_ldc (v := (-40000)) hx hb hown k_2 dX8_user_11 ?_
    exact e_rdi hx hb hr hlocks dX8_user_13 (q_X8_user_20 huc3 hr_1 c_2)

theorem q_X8_interrupt_4 {cn : Int32} {ir : Int32} {ev : Int32} {r : Int32} {k : Int32} {r_2 : Int32} (c_1 : ¬ r = (-1)) (hr_2 : r_2 = if 0 ≤ r ∧ r < cn then 1 else 0) (c_3 : r_2 = 0) : ((-40000 : Int32) = if r = -1 then 1 else if ¬ (0 ≤ r ∧ r < cn) ∨ k < 1 ∨ 1000 < k then -40000 else 1) ∧ (ir = if r = -1 then 0 else if ¬ (0 ≤ r ∧ r < cn) ∨ k < 1 ∨ 1000 < k then ir else r) ∧ (ev = if r = -1 then 0 else if ¬ (0 ≤ r ∧ r < cn) ∨ k < 1 ∨ 1000 < k then ev else k) := by
  grind
theorem q_X8_interrupt_6 {cn : Int32} {ir : Int32} {ev : Int32} {r : Int32} {k : Int32} {r_2 : Int32} (c_1 : ¬ r = (-1)) (hr_2 : r_2 = if 0 ≤ r ∧ r < cn then 1 else 0) (c_3 : ¬ r_2 = 0) (c_5 : k < 1) : ((-40000 : Int32) = if r = -1 then 1 else if ¬ (0 ≤ r ∧ r < cn) ∨ k < 1 ∨ 1000 < k then -40000 else 1) ∧ (ir = if r = -1 then 0 else if ¬ (0 ≤ r ∧ r < cn) ∨ k < 1 ∨ 1000 < k then ir else r) ∧ (ev = if r = -1 then 0 else if ¬ (0 ≤ r ∧ r < cn) ∨ k < 1 ∨ 1000 < k then ev else k) := by
  grind
theorem q_X8_interrupt_12 {cn : Int32} {ir : Int32} {ev : Int32} {r : Int32} {k : Int32} {r_2 : Int32} {ir_10 : Int32} {ev_11 : Int32} (c_1 : ¬ r = (-1)) (hr_2 : r_2 = if 0 ≤ r ∧ r < cn then 1 else 0) (c_3 : ¬ r_2 = 0) (c_5 : ¬ k < 1) (c_7 : k ≤ 1000) (hr_8_0 : ir_10 = r) (hr_8_1 : ev_11 = k) : ((1 : Int32) = if r = -1 then 1 else if ¬ (0 ≤ r ∧ r < cn) ∨ k < 1 ∨ 1000 < k then -40000 else 1) ∧ (ir_10 = if r = -1 then 0 else if ¬ (0 ≤ r ∧ r < cn) ∨ k < 1 ∨ 1000 < k then ir else r) ∧ (ev_11 = if r = -1 then 0 else if ¬ (0 ≤ r ∧ r < cn) ∨ k < 1 ∨ 1000 < k then ev else k) := by
  grind
theorem q_X8_interrupt_13 {cn : Int32} {ir : Int32} {ev : Int32} {r : Int32} {k : Int32} {r_2 : Int32} (c_1 : ¬ r = (-1)) (hr_2 : r_2 = if 0 ≤ r ∧ r < cn then 1 else 0) (c_3 : ¬ r_2 = 0) (c_5 : ¬ k < 1) (c_7 : ¬ k ≤ 1000) : ((-40000 : Int32) = if r = -1 then 1 else if ¬ (0 ≤ r ∧ r < cn) ∨ k < 1 ∨ 1000 < k then -40000 else 1) ∧ (ir = if r = -1 then 0 else if ¬ (0 ≤ r ∧ r < cn) ∨ k < 1 ∨ 1000 < k then ir else r) ∧ (ev = if r = -1 then 0 else if ¬ (0 ≤ r ∧ r < cn) ∨ k < 1 ∨ 1000 < k then ev else k) := by
  grind
theorem q_X8_interrupt_18 {cn : Int32} {ir : Int32} {ev : Int32} {r : Int32} {k : Int32} {ir_16 : Int32} {ev_17 : Int32} (c_1 : r = (-1)) (hr_14_0 : ir_16 = (0 : Int32)) (hr_14_1 : ev_17 = (0 : Int32)) : ((1 : Int32) = if r = -1 then 1 else if ¬ (0 ≤ r ∧ r < cn) ∨ k < 1 ∨ 1000 < k then -40000 else 1) ∧ (ir_16 = if r = -1 then 0 else if ¬ (0 ≤ r ∧ r < cn) ∨ k < 1 ∨ 1000 < k then ir else r) ∧ (ev_17 = if r = -1 then 0 else if ¬ (0 ≤ r ∧ r < cn) ∨ k < 1 ∨ 1000 < k then ev else k) := by
  grind
set_option maxHeartbeats 4000000 in
set_option maxRecDepth 100000 in
theorem c_X8_interrupt (l : Launch) (dC : Nat → ClassId) (dI : Nat → Nat → Nat) (cI : ClassId) (sz : Nat) (aP : Nat) (aU : Nat) (aF : Nat) (aR : Nat) (aM : Nat) (aZ : Nat) (zg : Nat) (p0 : Nat) (p1 : Nat) (p2 : Nat) (p3 : Nat) (p4 : Nat) (p5 : Nat) (cn : Int32) (ir : Int32) (ev : Int32) (iF : Int32) (cs : Int32) (rs : Int32) (gn : Int32) (r : Int32) (k : Int32)  : mWi l yX8_interrupt wsX8_interrupt ({ frames := 1, cells := 0, slots := 0, locals := 22 }) [.ref aZ, .int r, .int k] (dC, dI) [(cI, .int)] [(aZ, .inr (5, [.ref aP, .ref aU, .ref aM, .ref zg, .int gn])), (aM, .inr (1, [.ref aP, .ref aU, .ref aF, .ref aR, .int ir, .int ev, .int iF, .int cs, .int rs])), (aP, .inr (2, [.ref p0, .ref p1, .ref p2, .ref p3, .ref p4, .ref p5, .int cn]))] sz (fun (v : Int32) (u : (Int32) × (Int32)) => (v = if r = -1 then 1 else if ¬ (0 ≤ r ∧ r < cn) ∨ k < 1 ∨ 1000 < k then -40000 else 1) ∧ (u.1 = if r = -1 then 0 else if ¬ (0 ≤ r ∧ r < cn) ∨ k < 1 ∨ 1000 < k then ir else r) ∧ (u.2 = if r = -1 then 0 else if ¬ (0 ≤ r ∧ r < cn) ∨ k < 1 ∨ 1000 < k then ev else k)) (fun u : (Int32) × (Int32) => [(aZ, .inr (5, [.ref aP, .ref aU, .ref aM, .ref zg, .int gn])), (aM, .inr (1, [.ref aP, .ref aU, .ref aF, .ref aR, .int u.1, .int u.2, .int iF, .int cs, .int rs])), (aP, .inr (2, [.ref p0, .ref p1, .ref p2, .ref p3, .ref p4, .ref p5, .int cn]))]) := by
  refine o_wi (cc := cX8_interrupt) (maxL := 3) (ret := (some .int)) (by decide) rfl (Nat.le_of_ble_eq_true rfl) ?_
  intro p e s m below meth c ls A hx hb hr hml hts hown hlocks hP hK hD hS hA hl
  have hown : s.vm.findClass RX8 = some m.cls := hown
  have hl : lv_has ls 3 [(0, .ref aZ), (1, .int r), (2, .int k)] := hl
  have k_1 := hts (.fieldLink RX8 10 "ZRoutines" "program" "LZRoutines$Program;") (List.mem_of_getElem? (i := 2) rfl)
  have k_2 := hts (.constant RX8 40 (-40000)) (List.mem_of_getElem? (i := 3) rfl)
  have k_3 := hts (.fieldLink RX8 28 "ZRoutines" "machine" "LZRoutines$Machine;") (List.mem_of_getElem? (i := 1) rfl)
  have i_X8 : ∀ w ∈ u_ws RX8 TX8 5, w ∈ wsX8_interrupt := fun _ h => List.mem_cons_of_mem _ (List.mem_append_left _ (List.mem_append_left _ (List.mem_append_right _ h)))
  refine lv_iload_n hx hb dX8_interrupt_0 rfl (lv_at hl 1 rfl) ?_
  refine lv_iconst (v := (-1)) hx hb dX8_interrupt_1 (by decide) ?_
  refine lv_icmp_ne (tgt := 16) hx hb dX8_interrupt_2 (by decide) (fun c_1 => ?_) (fun c_1 => ?_)
  · skip
    refine lv_aload_n hx hb dX8_interrupt_16 rfl (lv_at hl 0 rfl) ?_
    refine va_get (D := (dC, dI)) (ci := 5) (v := .ref aP) (C := RX8) (T := TX8) (N := 5) hx hb hts i_X8 hown hK hP 0 rfl rfl 0 (by decide) k_1 (fun _ h9 => h9) rfl dX8_interrupt_17 ?_
    refine lv_iload_n hx hb dX8_interrupt_20 rfl (lv_at hl 1 rfl) ?_
    refine k_rd (ci := 2) (q0 := 0) (q := (RX5, TX5, 7)) (As := [.int r]) (rest := []) ⟨hx, hb, hml, hown, hts⟩ (c_X5_has l dC dI cI aP p0 p1 p2 p3 p4 p5 cn r ) (cwV 1 hts gX8_interrupt_X5_has rfl rfl rfl (by decide +kernel) ⟨Nat.le_of_ble_eq_true rfl, Nat.le_of_ble_eq_true rfl⟩) hK hP [2] rfl rfl rfl rfl hl.1 rfl (Nat.le_of_ble_eq_true rfl) dX8_interrupt_21 ⟨Nat.zero_le _, Nat.zero_le _⟩ (fun r_2 hr_2 => ?_)
    have hr_2 : r_2 = if 0 ≤ r ∧ r < cn then 1 else 0 := hr_2
    refine lv_if_eq (tgt := 39) hx hb dX8_interrupt_24 (by decide) (fun c_3 => ?_) (fun c_3 => ?_)
    · skip
      refine lv_ldc (v := (-40000)) hx hb hown k_2 dX8_interrupt_39 ?_
      exact e_wi hx hb hr hlocks dX8_interrupt_41 hK hS (ir, ev) hP hD (q_X8_interrupt_4 c_1 hr_2 c_3)
    · skip
      refine lv_iload_n hx hb dX8_interrupt_27 rfl (lv_at hl 2 rfl) ?_
      refine lv_iconst (v := 1) hx hb dX8_interrupt_28 (by decide) ?_
      refine lv_icmp_lt (tgt := 39) hx hb dX8_interrupt_29 (by decide) (fun c_5 => ?_) (fun c_5 => ?_)
      · skip
        refine lv_ldc (v := (-40000)) hx hb hown k_2 dX8_interrupt_39 ?_
        exact e_wi hx hb hr hlocks dX8_interrupt_41 hK hS (ir, ev) hP hD (q_X8_interrupt_6 c_1 hr_2 c_3 c_5)
      · skip
        refine lv_iload_n hx hb dX8_interrupt_32 rfl (lv_at hl 2 rfl) ?_
        refine lv_sipush (v := 1000) hx hb dX8_interrupt_33 (by decide) ?_
        refine lv_icmp_le (tgt := 42) hx hb dX8_interrupt_36 (by decide) (fun c_7 => ?_) (fun c_7 => ?_)
        · skip
          refine lv_aload_n hx hb dX8_interrupt_42 rfl (lv_at hl 0 rfl) ?_
          refine va_get (D := (dC, dI)) (ci := 5) (v := .ref aM) (C := RX8) (T := TX8) (N := 5) hx hb hts i_X8 hown hK hP 0 rfl rfl 2 (by decide) k_3 (fun _ h9 => h9) rfl dX8_interrupt_43 ?_
          refine lv_iload_n hx hb dX8_interrupt_46 rfl (lv_at hl 1 rfl) ?_
          refine lv_iload_n hx hb dX8_interrupt_47 rfl (lv_at hl 2 rfl) ?_
          refine k_wv (w2 := (fun u_9 : (Int32) × (Int32) => [(aZ, .inr (5, [.ref aP, .ref aU, .ref aM, .ref zg, .int gn])), (aM, .inr (1, [.ref aP, .ref aU, .ref aF, .ref aR, .int u_9.1, .int u_9.2, .int iF, .int cs, .int rs])), (aP, .inr (2, [.ref p0, .ref p1, .ref p2, .ref p3, .ref p4, .ref p5, .int cn]))])) (wr := [(aZ, .inr (5, [.ref aP, .ref aU, .ref aM, .ref zg, .int gn])), (aP, .inr (2, [.ref p0, .ref p1, .ref p2, .ref p3, .ref p4, .ref p5, .int cn]))]) (ci := 1) (q0 := 0) (q := (RX3, TX3, 9)) (As := [.int r, .int k]) (rest := []) ⟨hx, hb, hml, hown, hts⟩ (c_X3_setInterrupt l dC dI cI _ aP aU aF aR aM ir ev iF cs rs r k ) (cwV 2 hts gX8_interrupt_X3_setInterrupt rfl rfl rfl (by decide +kernel) ⟨Nat.le_of_ble_eq_true rfl, Nat.le_of_ble_eq_true rfl⟩) hK hP hD hS hA [1] [0, 2] [0, 2, 1] rfl rfl (by decide) (fun _ => rfl) rfl rfl rfl hl.1 rfl (Nat.le_of_ble_eq_true rfl) dX8_interrupt_48 ⟨Nat.zero_le _, Nat.zero_le _⟩ (fun u_9 H locs hr_8 hP hD hS => ?_)
          obtain ⟨ir_10, ev_11⟩ := u_9
          have hP : va_P (dC, dI) vwCl [(aZ, .inr (5, [.ref aP, .ref aU, .ref aM, .ref zg, .int gn])), (aM, .inr (1, [.ref aP, .ref aU, .ref aF, .ref aR, .int ir_10, .int ev_11, .int iF, .int cs, .int rs])), (aP, .inr (2, [.ref p0, .ref p1, .ref p2, .ref p3, .ref p4, .ref p5, .int cn]))] H := hP
          have hD : va_D A [(aZ, .inr (5, [.ref aP, .ref aU, .ref aM, .ref zg, .int gn])), (aM, .inr (1, [.ref aP, .ref aU, .ref aF, .ref aR, .int ir_10, .int ev_11, .int iF, .int cs, .int rs])), (aP, .inr (2, [.ref p0, .ref p1, .ref p2, .ref p3, .ref p4, .ref p5, .int cn]))] := hD
          obtain ⟨hr_8_0, hr_8_1⟩ := hr_8
          have hr_8_0 : ir_10 = r := hr_8_0
          have hr_8_1 : ev_11 = k := hr_8_1
          refine lv_iconst (v := 1) hx hb dX8_interrupt_51 (by decide) ?_
          exact e_wi hx hb hr hlocks dX8_interrupt_52 hK hS (ir_10, ev_11) hP hD (q_X8_interrupt_12 c_1 hr_2 c_3 c_5 c_7 hr_8_0 hr_8_1)
        · skip
          refine lv_ldc (v := (-40000)) hx hb hown k_2 dX8_interrupt_39 ?_
          exact e_wi hx hb hr hlocks dX8_interrupt_41 hK hS (ir, ev) hP hD (q_X8_interrupt_13 c_1 hr_2 c_3 c_5 c_7)
  · skip
    refine lv_aload_n hx hb dX8_interrupt_5 rfl (lv_at hl 0 rfl) ?_
    refine va_get (D := (dC, dI)) (ci := 5) (v := .ref aM) (C := RX8) (T := TX8) (N := 5) hx hb hts i_X8 hown hK hP 0 rfl rfl 2 (by decide) k_3 (fun _ h9 => h9) rfl dX8_interrupt_6 ?_
    refine lv_iconst (v := 0) hx hb dX8_interrupt_9 (by decide) ?_
    refine lv_iconst (v := 0) hx hb dX8_interrupt_10 (by decide) ?_
    refine k_wv (w2 := (fun u_15 : (Int32) × (Int32) => [(aZ, .inr (5, [.ref aP, .ref aU, .ref aM, .ref zg, .int gn])), (aM, .inr (1, [.ref aP, .ref aU, .ref aF, .ref aR, .int u_15.1, .int u_15.2, .int iF, .int cs, .int rs])), (aP, .inr (2, [.ref p0, .ref p1, .ref p2, .ref p3, .ref p4, .ref p5, .int cn]))])) (wr := [(aZ, .inr (5, [.ref aP, .ref aU, .ref aM, .ref zg, .int gn])), (aP, .inr (2, [.ref p0, .ref p1, .ref p2, .ref p3, .ref p4, .ref p5, .int cn]))]) (ci := 1) (q0 := 0) (q := (RX3, TX3, 9)) (As := [.int 0, .int 0]) (rest := []) ⟨hx, hb, hml, hown, hts⟩ (c_X3_setInterrupt l dC dI cI _ aP aU aF aR aM ir ev iF cs rs 0 0 ) (cwV 2 hts gX8_interrupt_X3_setInterrupt rfl rfl rfl (by decide +kernel) ⟨Nat.le_of_ble_eq_true rfl, Nat.le_of_ble_eq_true rfl⟩) hK hP hD hS hA [1] [0, 2] [0, 2, 1] rfl rfl (by decide) (fun _ => rfl) rfl rfl rfl hl.1 rfl (Nat.le_of_ble_eq_true rfl) dX8_interrupt_11 ⟨Nat.zero_le _, Nat.zero_le _⟩ (fun u_15 H locs hr_14 hP hD hS => ?_)
    obtain ⟨ir_16, ev_17⟩ := u_15
    have hP : va_P (dC, dI) vwCl [(aZ, .inr (5, [.ref aP, .ref aU, .ref aM, .ref zg, .int gn])), (aM, .inr (1, [.ref aP, .ref aU, .ref aF, .ref aR, .int ir_16, .int ev_17, .int iF, .int cs, .int rs])), (aP, .inr (2, [.ref p0, .ref p1, .ref p2, .ref p3, .ref p4, .ref p5, .int cn]))] H := hP
    have hD : va_D A [(aZ, .inr (5, [.ref aP, .ref aU, .ref aM, .ref zg, .int gn])), (aM, .inr (1, [.ref aP, .ref aU, .ref aF, .ref aR, .int ir_16, .int ev_17, .int iF, .int cs, .int rs])), (aP, .inr (2, [.ref p0, .ref p1, .ref p2, .ref p3, .ref p4, .ref p5, .int cn]))] := hD
    obtain ⟨hr_14_0, hr_14_1⟩ := hr_14
    have hr_14_0 : ir_16 = (0 : Int32) := hr_14_0
    have hr_14_1 : ev_17 = (0 : Int32) := hr_14_1
    refine lv_iconst (v := 1) hx hb dX8_interrupt_14 (by decide) ?_
    exact e_wi hx hb hr hlocks dX8_interrupt_15 hK hS (ir_16, ev_17) hP hD (q_X8_interrupt_18 c_1 hr_14_0 hr_14_1)

theorem q_X8_give_2 {gv : Nat → Int32} {gn : Int32} {w : Int32} (hg1 : 0 ≤ gn) (hg2 : gn ≤ 15) (c_1 : gn < 0) : (((-40001 : Int32), gv, gn) = t_give w gn gv) := by
  (try subst_vars) <;> simp only [t_give] <;> grind
theorem q_X8_give_4 {gn : Int32} (hg1 : 0 ≤ gn) (hg2 : gn ≤ 15) (c_1 : ¬ gn < 0) (c_3 : gn < 15) : vp_in gn 15 := by
  exact in_of (c := 15) (by decide) (by grind) (by grind)
theorem q_X8_give_5 {gv : Nat → Int32} {gn : Int32} {w : Int32} (hg1 : 0 ≤ gn) (hg2 : gn ≤ 15) (c_1 : ¬ gn < 0) (c_3 : gn < 15) : (((gn + 1), (upd gv gn.toNatClampNeg (sx w)), (gn + 1)) = t_give w gn gv) := by
  (try subst_vars) <;> simp only [t_give] <;> grind
theorem q_X8_give_6 {gv : Nat → Int32} {gn : Int32} {w : Int32} (hg1 : 0 ≤ gn) (hg2 : gn ≤ 15) (c_1 : ¬ gn < 0) (c_3 : ¬ gn < 15) : (((-40001 : Int32), gv, gn) = t_give w gn gv) := by
  (try subst_vars) <;> simp only [t_give] <;> grind
set_option maxHeartbeats 4000000 in
set_option maxRecDepth 100000 in
theorem c_X8_give (l : Launch) (dC : Nat → ClassId) (dI : Nat → Nat → Nat) (cI : ClassId) (sz : Nat) (aP : Nat) (aU : Nat) (aM : Nat) (aZ : Nat) (zg : Nat) (gv : Nat → Int32) (gn : Int32) (w : Int32) (hg1 : 0 ≤ gn) (hg2 : gn ≤ 15) : mWi l yX8_give wsX8_give ({ frames := 0, cells := 0, slots := 0, locals := 0 }) [.ref aZ, .int w] (dC, dI) [(cI, .int)] [(aZ, .inr (5, [.ref aP, .ref aU, .ref aM, .ref zg, .int gn])), (zg, .inl (cI, 15, .inl gv))] sz (fun (v : Int32) (u : (Nat → Int32) × (Int32)) => ((v, u.1, u.2) = t_give w gn gv)) (fun u : (Nat → Int32) × (Int32) => [(aZ, .inr (5, [.ref aP, .ref aU, .ref aM, .ref zg, .int u.2])), (zg, .inl (cI, 15, .inl u.1))]) := by
  refine o_wi (cc := cX8_give) (maxL := 2) (ret := (some .int)) (by decide) rfl (Nat.le_of_ble_eq_true rfl) ?_
  intro p e s m below meth c ls A hx hb hr hml hts hown hlocks hP hK hD hS hA hl
  have hown : s.vm.findClass RX8 = some m.cls := hown
  have hl : lv_has ls 2 [(0, .ref aZ), (1, .int w)] := hl
  have k_1 := hts (.fieldLink RX8 36 "ZRoutines" "givenCount" "I") (List.mem_of_getElem? (i := 1) rfl)
  have k_2 := hts (.constant RX8 45 (-40001)) (List.mem_of_getElem? (i := 2) rfl)
  have k_3 := hts (.fieldLink RX8 32 "ZRoutines" "given" "[I") (List.mem_of_getElem? (i := 3) rfl)
  have i_X8 : ∀ w ∈ u_ws RX8 TX8 5, w ∈ wsX8_give := fun _ h => List.mem_cons_of_mem _ (List.mem_append_right _ h)
  refine lv_aload_n hx hb dX8_give_0 rfl (lv_at hl 0 rfl) ?_
  refine va_get (D := (dC, dI)) (ci := 5) (v := .int gn) (C := RX8) (T := TX8) (N := 5) hx hb hts i_X8 hown hK hP 0 rfl rfl 4 (by decide) k_1 (fun _ h9 => h9) rfl dX8_give_1 ?_
  refine lv_if_lt (tgt := 16) hx hb dX8_give_4 (by decide) (fun c_1 => ?_) (fun c_1 => ?_)
  · skip
    refine lv_ldc (v := (-40001)) hx hb hown k_2 dX8_give_16 ?_
    exact e_wi hx hb hr hlocks dX8_give_18 hK hS (gv, gn) hP hD (q_X8_give_2 hg1 hg2 c_1)
  · skip
    refine lv_aload_n hx hb dX8_give_7 rfl (lv_at hl 0 rfl) ?_
    refine va_get (D := (dC, dI)) (ci := 5) (v := .int gn) (C := RX8) (T := TX8) (N := 5) hx hb hts i_X8 hown hK hP 0 rfl rfl 4 (by decide) k_1 (fun _ h9 => h9) rfl dX8_give_8 ?_
    refine lv_bipush (v := 15) hx hb dX8_give_11 (by decide) ?_
    refine lv_icmp_lt (tgt := 19) hx hb dX8_give_13 (by decide) (fun c_3 => ?_) (fun c_3 => ?_)
    · skip
      refine lv_aload_n hx hb dX8_give_19 rfl (lv_at hl 0 rfl) ?_
      refine va_get (D := (dC, dI)) (ci := 5) (v := .ref zg) (C := RX8) (T := TX8) (N := 5) hx hb hts i_X8 hown hK hP 0 rfl rfl 3 (by decide) k_3 (fun _ h9 => h9) rfl dX8_give_20 ?_
      refine lv_aload_n hx hb dX8_give_23 rfl (lv_at hl 0 rfl) ?_
      refine va_get (D := (dC, dI)) (ci := 5) (v := .int gn) (C := RX8) (T := TX8) (N := 5) hx hb hts i_X8 hown hK hP 0 rfl rfl 4 (by decide) k_1 (fun _ h9 => h9) rfl dX8_give_24 ?_
      refine lv_iload_n hx hb dX8_give_27 rfl (lv_at hl 1 rfl) ?_
      refine lv_i2s (v := sx w) hx hb dX8_give_28 rfl ?_
      refine va_iast hx hb hK hP hD hS 1 0 rfl rfl (q_X8_give_4 hg1 hg2 c_1 c_3) dX8_give_29 (fun H locs hP hD hS => ?_)
      have hP : va_P (dC, dI) vwCl [(aZ, .inr (5, [.ref aP, .ref aU, .ref aM, .ref zg, .int gn])), (zg, .inl (cI, 15, .inl (upd gv gn.toNatClampNeg (sx w))))] H := hP
      have hD : va_D A [(aZ, .inr (5, [.ref aP, .ref aU, .ref aM, .ref zg, .int gn])), (zg, .inl (cI, 15, .inl (upd gv gn.toNatClampNeg (sx w))))] := hD
      refine lv_aload_n hx hb dX8_give_30 rfl (lv_at hl 0 rfl) ?_
      refine lv_dup hx hb dX8_give_31 rfl ?_
      refine va_get (D := (dC, dI)) (ci := 5) (v := .int gn) (C := RX8) (T := TX8) (N := 5) hx hb hts i_X8 hown hK hP 0 rfl rfl 4 (by decide) k_1 (fun _ h9 => h9) rfl dX8_give_32 ?_
      refine lv_iconst (v := 1) hx hb dX8_give_35 (by decide) ?_
      refine lv_iadd hx hb dX8_give_36 ?_
      refine va_put (D := (dC, dI)) (ci := 5) (v := .int (gn + 1)) (ty := .int) (C := RX8) (T := TX8) (N := 5) hx hb hts i_X8 tyX8 tyX8_ok nmX8 hown hK hP hD hS 0 rfl rfl 4 (by decide) k_1 (fun _ h9 => h9) rfl (by decide +kernel) rfl rfl (Nat.le_of_ble_eq_true rfl) dX8_give_37 (fun H locs hP hD hS => ?_)
      have hP : va_P (dC, dI) vwCl [(aZ, .inr (5, [.ref aP, .ref aU, .ref aM, .ref zg, .int (gn + 1)])), (zg, .inl (cI, 15, .inl (upd gv gn.toNatClampNeg (sx w))))] H := hP
      have hD : va_D A [(aZ, .inr (5, [.ref aP, .ref aU, .ref aM, .ref zg, .int (gn + 1)])), (zg, .inl (cI, 15, .inl (upd gv gn.toNatClampNeg (sx w))))] := hD
      refine lv_aload_n hx hb dX8_give_40 rfl (lv_at hl 0 rfl) ?_
      refine va_get (D := (dC, dI)) (ci := 5) (v := .int (gn + 1)) (C := RX8) (T := TX8) (N := 5) hx hb hts i_X8 hown hK hP 0 rfl rfl 4 (by decide) k_1 (fun _ h9 => h9) rfl dX8_give_41 ?_
      exact e_wi hx hb hr hlocks dX8_give_44 hK hS (upd gv gn.toNatClampNeg (sx w), (gn + 1)) hP hD (q_X8_give_5 hg1 hg2 c_1 c_3)
    · skip
      refine lv_ldc (v := (-40001)) hx hb hown k_2 dX8_give_16 ?_
      exact e_wi hx hb hr hlocks dX8_give_18 hK hS (gv, gn) hP hD (q_X8_give_6 hg1 hg2 c_1 c_3)

theorem q_X8_told_2 {en : Int32} {fa : Int32} {ro : Int32} {pp : Int32} {fm : Int32} {sp : Int32} {it : Int32} {mo : Int32} {k : Int32} {r_1 : Int32} (hr_1 : r_1 = t_told k en fa ro pp fm sp it mo) : (r_1 = t_told k en fa ro pp fm sp it mo) := by
  grind
set_option maxHeartbeats 4000000 in
set_option maxRecDepth 100000 in
theorem c_X8_told (l : Launch) (dC : Nat → ClassId) (dI : Nat → Nat → Nat) (cI : ClassId) (aP : Nat) (aU : Nat) (aF : Nat) (aR : Nat) (aM : Nat) (aZ : Nat) (zg : Nat) (ir : Int32) (ev : Int32) (iF : Int32) (cs : Int32) (rs : Int32) (en : Int32) (fa : Int32) (ro : Int32) (pp : Int32) (fm : Int32) (sp : Int32) (it : Int32) (mo : Int32) (gn : Int32) (k : Int32)  : mRd l yX8_told wsX8_told ({ frames := 2, cells := 0, slots := 0, locals := 42 }) [.ref aZ, .int k] (dC, dI) [(cI, .int)] [(aZ, .inr (5, [.ref aP, .ref aU, .ref aM, .ref zg, .int gn])), (aM, .inr (1, [.ref aP, .ref aU, .ref aF, .ref aR, .int ir, .int ev, .int iF, .int cs, .int rs])), (aR, .inr (3, [.int en, .int fa, .int ro, .int pp, .int fm, .int sp, .int it, .int mo]))] (fun v => (v = t_told k en fa ro pp fm sp it mo)) := by
  refine o_rd (cc := cX8_told) (maxL := 2) (ret := (some .int)) (by decide) rfl (Nat.le_of_ble_eq_true rfl) ?_
  intro p e s m below meth c ls hx hb hr hml hts hown hlocks hP hK hl
  have hown : s.vm.findClass RX8 = some m.cls := hown
  have hl : lv_has ls 2 [(0, .ref aZ), (1, .int k)] := hl
  have k_1 := hts (.fieldLink RX8 28 "ZRoutines" "machine" "LZRoutines$Machine;") (List.mem_of_getElem? (i := 1) rfl)
  have i_X8 : ∀ w ∈ u_ws RX8 TX8 5, w ∈ wsX8_told := fun _ h => List.mem_cons_of_mem _ (List.mem_append_left _ (List.mem_append_left _ (List.mem_append_right _ h)))
  refine lv_aload_n hx hb dX8_told_0 rfl (lv_at hl 0 rfl) ?_
  refine va_get (D := (dC, dI)) (ci := 5) (v := .ref aM) (C := RX8) (T := TX8) (N := 5) hx hb hts i_X8 hown hK hP 0 rfl rfl 2 (by decide) k_1 (fun _ h9 => h9) rfl dX8_told_1 ?_
  refine lv_iload_n hx hb dX8_told_4 rfl (lv_at hl 1 rfl) ?_
  refine k_rd (ci := 1) (q0 := 0) (q := (RX3, TX3, 9)) (As := [.int k]) (rest := []) ⟨hx, hb, hml, hown, hts⟩ (c_X3_tell l dC dI cI aP aU aF aR aM ir ev iF cs rs en fa ro pp fm sp it mo k ) (cwV 1 hts gX8_told_X3_tell rfl rfl rfl (by decide +kernel) ⟨Nat.le_of_ble_eq_true rfl, Nat.le_of_ble_eq_true rfl⟩) hK hP [1, 2] rfl rfl rfl rfl hl.1 rfl (Nat.le_of_ble_eq_true rfl) dX8_told_5 ⟨Nat.zero_le _, Nat.zero_le _⟩ (fun r_1 hr_1 => ?_)
  have hr_1 : r_1 = t_told k en fa ro pp fm sp it mo := hr_1
  exact e_rdi hx hb hr hlocks dX8_told_8 (q_X8_told_2 hr_1)

theorem q_X8_size_3 {ln : Nat → Int32} {cn : Int32} {k : Int32} (hcn2 : cn ≤ 20) (c_1 : ¬ k = 0) (c_2 : k ≤ 0) : ((-40000 : Int32) = t_size k cn ln) := by
  (try subst_vars) <;> simp only [t_size] <;> grind
theorem q_X8_size_6 {ln : Nat → Int32} {cn : Int32} {k : Int32} {r_4 : Int32} (hcn2 : cn ≤ 20) (c_1 : ¬ k = 0) (c_2 : ¬ k ≤ 0) (hr_4 : r_4 = if 0 ≤ (k - 1) ∧ (k - 1) < cn then 1 else 0) (c_5 : r_4 = 0) : ((-40000 : Int32) = t_size k cn ln) := by
  (try subst_vars) <;> simp only [t_size] <;> grind
theorem q_X8_size_7 {cn : Int32} {k : Int32} {r_4 : Int32} (hcn2 : cn ≤ 20) (c_1 : ¬ k = 0) (c_2 : ¬ k ≤ 0) (hr_4 : r_4 = if 0 ≤ (k - 1) ∧ (k - 1) < cn then 1 else 0) (c_5 : ¬ r_4 = 0) : cn ≤ 20 := by
  grind
theorem q_X8_size_8 {cn : Int32} {k : Int32} {r_4 : Int32} (hcn2 : cn ≤ 20) (c_1 : ¬ k = 0) (c_2 : ¬ k ≤ 0) (hr_4 : r_4 = if 0 ≤ (k - 1) ∧ (k - 1) < cn then 1 else 0) (c_5 : ¬ r_4 = 0) : 0 ≤ (k - 1) := by
  grind
theorem q_X8_size_9 {cn : Int32} {k : Int32} {r_4 : Int32} (hcn2 : cn ≤ 20) (c_1 : ¬ k = 0) (c_2 : ¬ k ≤ 0) (hr_4 : r_4 = if 0 ≤ (k - 1) ∧ (k - 1) < cn then 1 else 0) (c_5 : ¬ r_4 = 0) : (k - 1) < cn := by
  grind
theorem q_X8_size_11 {ln : Nat → Int32} {cn : Int32} {k : Int32} {r_4 : Int32} {r_10 : Int32} (hcn2 : cn ≤ 20) (c_1 : ¬ k = 0) (c_2 : ¬ k ≤ 0) (hr_4 : r_4 = if 0 ≤ (k - 1) ∧ (k - 1) < cn then 1 else 0) (c_5 : ¬ r_4 = 0) (hr_10 : r_10 = ln (k - 1).toNatClampNeg) : (r_10 = t_size k cn ln) := by
  (try subst_vars) <;> simp only [t_size] <;> grind
theorem q_X8_size_13 {ln : Nat → Int32} {cn : Int32} {k : Int32} {r_12 : Int32} (hcn2 : cn ≤ 20) (c_1 : k = 0) (hr_12 : r_12 = cn) : (r_12 = t_size k cn ln) := by
  (try subst_vars) <;> simp only [t_size] <;> grind
set_option maxHeartbeats 4000000 in
set_option maxRecDepth 100000 in
theorem c_X8_size (l : Launch) (dC : Nat → ClassId) (dI : Nat → Nat → Nat) (cI : ClassId) (aP : Nat) (aU : Nat) (aM : Nat) (aZ : Nat) (zg : Nat) (p0 : Nat) (p1 : Nat) (p2 : Nat) (p3 : Nat) (p4 : Nat) (p5 : Nat) (ln : Nat → Int32) (cn : Int32) (gn : Int32) (k : Int32) (hcn2 : cn ≤ 20) : mRd l yX8_size wsX8_size ({ frames := 2, cells := 0, slots := 0, locals := 42 }) [.ref aZ, .int k] (dC, dI) [(cI, .int)] [(aZ, .inr (5, [.ref aP, .ref aU, .ref aM, .ref zg, .int gn])), (aP, .inr (2, [.ref p0, .ref p1, .ref p2, .ref p3, .ref p4, .ref p5, .int cn])), (p1, .inl (cI, 20, .inl ln))] (fun v => (v = t_size k cn ln)) := by
  refine o_rd (cc := cX8_size) (maxL := 2) (ret := (some .int)) (by decide) rfl (Nat.le_of_ble_eq_true rfl) ?_
  intro p e s m below meth c ls hx hb hr hml hts hown hlocks hP hK hl
  have hown : s.vm.findClass RX8 = some m.cls := hown
  have hl : lv_has ls 2 [(0, .ref aZ), (1, .int k)] := hl
  have k_1 := hts (.constant RX8 40 (-40000)) (List.mem_of_getElem? (i := 2) rfl)
  have k_2 := hts (.fieldLink RX8 10 "ZRoutines" "program" "LZRoutines$Program;") (List.mem_of_getElem? (i := 1) rfl)
  have i_X8 : ∀ w ∈ u_ws RX8 TX8 5, w ∈ wsX8_size := fun _ h => List.mem_cons_of_mem _ (List.mem_append_left _ (List.mem_append_right _ h))
  refine lv_iload_n hx hb dX8_size_0 rfl (lv_at hl 1 rfl) ?_
  refine lv_if_ne (tgt := 12) hx hb dX8_size_1 (by decide) (fun c_1 => ?_) (fun c_1 => ?_)
  · skip
    refine lv_iload_n hx hb dX8_size_12 rfl (lv_at hl 1 rfl) ?_
    refine lv_if_le (tgt := 42) hx hb dX8_size_13 (by decide) (fun c_2 => ?_) (fun c_2 => ?_)
    · skip
      refine lv_ldc (v := (-40000)) hx hb hown k_1 dX8_size_42 ?_
      exact e_rdi hx hb hr hlocks dX8_size_44 (q_X8_size_3 hcn2 c_1 c_2)
    · skip
      refine lv_aload_n hx hb dX8_size_16 rfl (lv_at hl 0 rfl) ?_
      refine va_get (D := (dC, dI)) (ci := 5) (v := .ref aP) (C := RX8) (T := TX8) (N := 5) hx hb hts i_X8 hown hK hP 0 rfl rfl 0 (by decide) k_2 (fun _ h9 => h9) rfl dX8_size_17 ?_
      refine lv_iload_n hx hb dX8_size_20 rfl (lv_at hl 1 rfl) ?_
      refine lv_iconst (v := 1) hx hb dX8_size_21 (by decide) ?_
      refine lv_isub hx hb dX8_size_22 ?_
      refine k_rd (ci := 2) (q0 := 0) (q := (RX5, TX5, 7)) (As := [.int (k - 1)]) (rest := []) ⟨hx, hb, hml, hown, hts⟩ (c_X5_has l dC dI cI aP p0 p1 p2 p3 p4 p5 cn (k - 1) ) (cwV 1 hts gX8_size_X5_has rfl rfl rfl (by decide +kernel) ⟨Nat.le_of_ble_eq_true rfl, Nat.le_of_ble_eq_true rfl⟩) hK hP [1] rfl rfl rfl rfl hl.1 rfl (Nat.le_of_ble_eq_true rfl) dX8_size_23 ⟨Nat.zero_le _, Nat.zero_le _⟩ (fun r_4 hr_4 => ?_)
      have hr_4 : r_4 = if 0 ≤ (k - 1) ∧ (k - 1) < cn then 1 else 0 := hr_4
      refine lv_if_eq (tgt := 42) hx hb dX8_size_26 (by decide) (fun c_5 => ?_) (fun c_5 => ?_)
      · skip
        refine lv_ldc (v := (-40000)) hx hb hown k_1 dX8_size_42 ?_
        exact e_rdi hx hb hr hlocks dX8_size_44 (q_X8_size_6 hcn2 c_1 c_2 hr_4 c_5)
      · skip
        refine lv_aload_n hx hb dX8_size_29 rfl (lv_at hl 0 rfl) ?_
        refine va_get (D := (dC, dI)) (ci := 5) (v := .ref aP) (C := RX8) (T := TX8) (N := 5) hx hb hts i_X8 hown hK hP 0 rfl rfl 0 (by decide) k_2 (fun _ h9 => h9) rfl dX8_size_30 ?_
        refine lv_iload_n hx hb dX8_size_33 rfl (lv_at hl 1 rfl) ?_
        refine lv_iconst (v := 1) hx hb dX8_size_34 (by decide) ?_
        refine lv_isub hx hb dX8_size_35 ?_
        refine k_rd (ci := 2) (q0 := 0) (q := (RX5, TX5, 7)) (As := [.int (k - 1)]) (rest := []) ⟨hx, hb, hml, hown, hts⟩ (c_X5_length l dC dI cI aP p0 p1 p2 p3 p4 p5 ln cn (k - 1) (q_X8_size_7 hcn2 c_1 c_2 hr_4 c_5) (q_X8_size_8 hcn2 c_1 c_2 hr_4 c_5) (q_X8_size_9 hcn2 c_1 c_2 hr_4 c_5)) (cwV 1 hts gX8_size_X5_length rfl rfl rfl (by decide +kernel) ⟨Nat.le_of_ble_eq_true rfl, Nat.le_of_ble_eq_true rfl⟩) hK hP [1, 2] rfl rfl rfl rfl hl.1 rfl (Nat.le_of_ble_eq_true rfl) dX8_size_36 ⟨Nat.zero_le _, Nat.zero_le _⟩ (fun r_10 hr_10 => ?_)
        have hr_10 : r_10 = ln (k - 1).toNatClampNeg := hr_10
        refine lv_goto (tgt := 44) hx hb dX8_size_39 (by decide) ?_
        exact e_rdi hx hb hr hlocks dX8_size_44 (q_X8_size_11 hcn2 c_1 c_2 hr_4 c_5 hr_10)
  · skip
    refine lv_aload_n hx hb dX8_size_4 rfl (lv_at hl 0 rfl) ?_
    refine va_get (D := (dC, dI)) (ci := 5) (v := .ref aP) (C := RX8) (T := TX8) (N := 5) hx hb hts i_X8 hown hK hP 0 rfl rfl 0 (by decide) k_2 (fun _ h9 => h9) rfl dX8_size_5 ?_
    refine k_rd (ci := 2) (q0 := 0) (q := (RX5, TX5, 7)) (As := []) (rest := []) ⟨hx, hb, hml, hown, hts⟩ (c_X5_count l dC dI cI aP p0 p1 p2 p3 p4 p5 cn ) (cwV 0 hts gX8_size_X5_count rfl rfl rfl (by decide +kernel) ⟨Nat.le_of_ble_eq_true rfl, Nat.le_of_ble_eq_true rfl⟩) hK hP [1] rfl rfl rfl rfl hl.1 rfl (Nat.le_of_ble_eq_true rfl) dX8_size_8 ⟨Nat.zero_le _, Nat.zero_le _⟩ (fun r_12 hr_12 => ?_)
    have hr_12 : r_12 = cn := hr_12
    exact e_rdi hx hb hr hlocks dX8_size_11 (q_X8_size_13 hcn2 c_1 hr_12)

theorem q_X8_run_3 {lc : Nat → Int32} {ln : Nat → Int32} {fv : Nat → Int32} {po : Nat → Int32} {pa : Nat → Int32} {pb : Nat → Int32} {ur : Nat → Int32} {uc : Nat → Int32} {un : Nat → Int32} {fr : Nat → Int32} {pl : Nat → Int32} {gc : Nat → Int32} {fl : Nat → Int32} {ba : Nat → Int32} {vs : Nat → Int32} {st : Nat → Int32} {gv : Nat → Int32} {cn : Int32} {op : Int32} {mx : Int32} {tp : Int32} {ir : Int32} {ev : Int32} {iF : Int32} {cs : Int32} {rs : Int32} {en : Int32} {fa : Int32} {ro : Int32} {pp : Int32} {fm : Int32} {sp : Int32} {it : Int32} {mo : Int32} {gn : Int32} {r : Int32} {fu : Int32} {r_1 : Int32} (hcn2 : cn ≤ 20) (hlc1 : ∀ j, 0 ≤ lc j) (hlc2 : ∀ j, lc j ≤ 15) (hln1 : ∀ j, 0 ≤ ln j) (hln2 : ∀ j, ln j ≤ 24) (hur : ∀ j, ur j ≤ 10) (hir1 : 1 ≤ ev → 0 ≤ ir) (hir2 : 1 ≤ ev → ir < cn) (hg1 : 0 ≤ gn) (hg2 : gn ≤ 15) (hfr1 : ∀ j, 0 ≤ fr j) (hfr3 : ∀ j, fr j < cn ∨ fr j = 0) (hfl1 : ∀ j, 0 ≤ fl j) (hfl2 : ∀ j, fl j ≤ 15) (hba1 : ∀ j, 0 ≤ ba j) (hba2 : ∀ j, ba j ≤ 60) (hsx : ∀ j, sx (st j) = st j) (huc1 : ∀ j, 0 ≤ uc j) (huc2 : ∀ j, uc j ≤ ur j) (hr_1 : r_1 = if 0 ≤ r ∧ r < cn then 1 else 0) (c_2 : r_1 = 0) : (((-40000 : Int32), pl, fr, gc, fl, ba, vs, st, uc, un, op, mx, tp, iF, cs, sp, it, en, rs, fa, ro, pp, fm, mo, gn) = t_run r fu ir ev cn gn op mx tp iF cs sp it en rs fa ro pp fm mo pl fr gc fl ba vs st uc un lc fv ur ln po pa pb gv) := by
  simp only [t_run]
  rw [if_pos (by grind)]
theorem q_X8_run_5 {lc : Nat → Int32} {ln : Nat → Int32} {fv : Nat → Int32} {po : Nat → Int32} {pa : Nat → Int32} {pb : Nat → Int32} {ur : Nat → Int32} {uc : Nat → Int32} {un : Nat → Int32} {fr : Nat → Int32} {pl : Nat → Int32} {gc : Nat → Int32} {fl : Nat → Int32} {ba : Nat → Int32} {vs : Nat → Int32} {st : Nat → Int32} {gv : Nat → Int32} {cn : Int32} {op : Int32} {mx : Int32} {tp : Int32} {ir : Int32} {ev : Int32} {iF : Int32} {cs : Int32} {rs : Int32} {en : Int32} {fa : Int32} {ro : Int32} {pp : Int32} {fm : Int32} {sp : Int32} {it : Int32} {mo : Int32} {gn : Int32} {r : Int32} {fu : Int32} {r_1 : Int32} (hcn2 : cn ≤ 20) (hlc1 : ∀ j, 0 ≤ lc j) (hlc2 : ∀ j, lc j ≤ 15) (hln1 : ∀ j, 0 ≤ ln j) (hln2 : ∀ j, ln j ≤ 24) (hur : ∀ j, ur j ≤ 10) (hir1 : 1 ≤ ev → 0 ≤ ir) (hir2 : 1 ≤ ev → ir < cn) (hg1 : 0 ≤ gn) (hg2 : gn ≤ 15) (hfr1 : ∀ j, 0 ≤ fr j) (hfr3 : ∀ j, fr j < cn ∨ fr j = 0) (hfl1 : ∀ j, 0 ≤ fl j) (hfl2 : ∀ j, fl j ≤ 15) (hba1 : ∀ j, 0 ≤ ba j) (hba2 : ∀ j, ba j ≤ 60) (hsx : ∀ j, sx (st j) = st j) (huc1 : ∀ j, 0 ≤ uc j) (huc2 : ∀ j, uc j ≤ ur j) (hr_1 : r_1 = if 0 ≤ r ∧ r < cn then 1 else 0) (c_2 : ¬ r_1 = 0) (c_4 : fu < 0) : (((-40000 : Int32), pl, fr, gc, fl, ba, vs, st, uc, un, op, mx, tp, iF, cs, sp, it, en, rs, fa, ro, pp, fm, mo, gn) = t_run r fu ir ev cn gn op mx tp iF cs sp it en rs fa ro pp fm mo pl fr gc fl ba vs st uc un lc fv ur ln po pa pb gv) := by
  simp only [t_run]
  rw [if_pos (by grind)]
theorem q_X8_run_7 {lc : Nat → Int32} {ln : Nat → Int32} {ur : Nat → Int32} {uc : Nat → Int32} {fr : Nat → Int32} {fl : Nat → Int32} {ba : Nat → Int32} {st : Nat → Int32} {cn : Int32} {ir : Int32} {ev : Int32} {gn : Int32} {r : Int32} {fu : Int32} {r_1 : Int32} (hcn2 : cn ≤ 20) (hlc1 : ∀ j, 0 ≤ lc j) (hlc2 : ∀ j, lc j ≤ 15) (hln1 : ∀ j, 0 ≤ ln j) (hln2 : ∀ j, ln j ≤ 24) (hur : ∀ j, ur j ≤ 10) (hir1 : 1 ≤ ev → 0 ≤ ir) (hir2 : 1 ≤ ev → ir < cn) (hg1 : 0 ≤ gn) (hg2 : gn ≤ 15) (hfr1 : ∀ j, 0 ≤ fr j) (hfr3 : ∀ j, fr j < cn ∨ fr j = 0) (hfl1 : ∀ j, 0 ≤ fl j) (hfl2 : ∀ j, fl j ≤ 15) (hba1 : ∀ j, 0 ≤ ba j) (hba2 : ∀ j, ba j ≤ 60) (hsx : ∀ j, sx (st j) = st j) (huc1 : ∀ j, 0 ≤ uc j) (huc2 : ∀ j, uc j ≤ ur j) (hr_1 : r_1 = if 0 ≤ r ∧ r < cn then 1 else 0) (c_2 : ¬ r_1 = 0) (c_4 : ¬ fu < 0) (c_6 : fu ≤ 2000) : cn ≤ 20 := by
  first | assumption | grind
theorem q_X8_run_8 {lc : Nat → Int32} {ln : Nat → Int32} {ur : Nat → Int32} {uc : Nat → Int32} {fr : Nat → Int32} {fl : Nat → Int32} {ba : Nat → Int32} {st : Nat → Int32} {cn : Int32} {ir : Int32} {ev : Int32} {gn : Int32} {r : Int32} {fu : Int32} {r_1 : Int32} (hcn2 : cn ≤ 20) (hlc1 : ∀ j, 0 ≤ lc j) (hlc2 : ∀ j, lc j ≤ 15) (hln1 : ∀ j, 0 ≤ ln j) (hln2 : ∀ j, ln j ≤ 24) (hur : ∀ j, ur j ≤ 10) (hir1 : 1 ≤ ev → 0 ≤ ir) (hir2 : 1 ≤ ev → ir < cn) (hg1 : 0 ≤ gn) (hg2 : gn ≤ 15) (hfr1 : ∀ j, 0 ≤ fr j) (hfr3 : ∀ j, fr j < cn ∨ fr j = 0) (hfl1 : ∀ j, 0 ≤ fl j) (hfl2 : ∀ j, fl j ≤ 15) (hba1 : ∀ j, 0 ≤ ba j) (hba2 : ∀ j, ba j ≤ 60) (hsx : ∀ j, sx (st j) = st j) (huc1 : ∀ j, 0 ≤ uc j) (huc2 : ∀ j, uc j ≤ ur j) (hr_1 : r_1 = if 0 ≤ r ∧ r < cn then 1 else 0) (c_2 : ¬ r_1 = 0) (c_4 : ¬ fu < 0) (c_6 : fu ≤ 2000) : ∀ j, 0 ≤ lc j := by
  first | assumption | grind
theorem q_X8_run_9 {lc : Nat → Int32} {ln : Nat → Int32} {ur : Nat → Int32} {uc : Nat → Int32} {fr : Nat → Int32} {fl : Nat → Int32} {ba : Nat → Int32} {st : Nat → Int32} {cn : Int32} {ir : Int32} {ev : Int32} {gn : Int32} {r : Int32} {fu : Int32} {r_1 : Int32} (hcn2 : cn ≤ 20) (hlc1 : ∀ j, 0 ≤ lc j) (hlc2 : ∀ j, lc j ≤ 15) (hln1 : ∀ j, 0 ≤ ln j) (hln2 : ∀ j, ln j ≤ 24) (hur : ∀ j, ur j ≤ 10) (hir1 : 1 ≤ ev → 0 ≤ ir) (hir2 : 1 ≤ ev → ir < cn) (hg1 : 0 ≤ gn) (hg2 : gn ≤ 15) (hfr1 : ∀ j, 0 ≤ fr j) (hfr3 : ∀ j, fr j < cn ∨ fr j = 0) (hfl1 : ∀ j, 0 ≤ fl j) (hfl2 : ∀ j, fl j ≤ 15) (hba1 : ∀ j, 0 ≤ ba j) (hba2 : ∀ j, ba j ≤ 60) (hsx : ∀ j, sx (st j) = st j) (huc1 : ∀ j, 0 ≤ uc j) (huc2 : ∀ j, uc j ≤ ur j) (hr_1 : r_1 = if 0 ≤ r ∧ r < cn then 1 else 0) (c_2 : ¬ r_1 = 0) (c_4 : ¬ fu < 0) (c_6 : fu ≤ 2000) : ∀ j, lc j ≤ 15 := by
  first | assumption | grind
theorem q_X8_run_10 {lc : Nat → Int32} {ln : Nat → Int32} {ur : Nat → Int32} {uc : Nat → Int32} {fr : Nat → Int32} {fl : Nat → Int32} {ba : Nat → Int32} {st : Nat → Int32} {cn : Int32} {ir : Int32} {ev : Int32} {gn : Int32} {r : Int32} {fu : Int32} {r_1 : Int32} (hcn2 : cn ≤ 20) (hlc1 : ∀ j, 0 ≤ lc j) (hlc2 : ∀ j, lc j ≤ 15) (hln1 : ∀ j, 0 ≤ ln j) (hln2 : ∀ j, ln j ≤ 24) (hur : ∀ j, ur j ≤ 10) (hir1 : 1 ≤ ev → 0 ≤ ir) (hir2 : 1 ≤ ev → ir < cn) (hg1 : 0 ≤ gn) (hg2 : gn ≤ 15) (hfr1 : ∀ j, 0 ≤ fr j) (hfr3 : ∀ j, fr j < cn ∨ fr j = 0) (hfl1 : ∀ j, 0 ≤ fl j) (hfl2 : ∀ j, fl j ≤ 15) (hba1 : ∀ j, 0 ≤ ba j) (hba2 : ∀ j, ba j ≤ 60) (hsx : ∀ j, sx (st j) = st j) (huc1 : ∀ j, 0 ≤ uc j) (huc2 : ∀ j, uc j ≤ ur j) (hr_1 : r_1 = if 0 ≤ r ∧ r < cn then 1 else 0) (c_2 : ¬ r_1 = 0) (c_4 : ¬ fu < 0) (c_6 : fu ≤ 2000) : ∀ j, 0 ≤ ln j := by
  first | assumption | grind
theorem q_X8_run_11 {lc : Nat → Int32} {ln : Nat → Int32} {ur : Nat → Int32} {uc : Nat → Int32} {fr : Nat → Int32} {fl : Nat → Int32} {ba : Nat → Int32} {st : Nat → Int32} {cn : Int32} {ir : Int32} {ev : Int32} {gn : Int32} {r : Int32} {fu : Int32} {r_1 : Int32} (hcn2 : cn ≤ 20) (hlc1 : ∀ j, 0 ≤ lc j) (hlc2 : ∀ j, lc j ≤ 15) (hln1 : ∀ j, 0 ≤ ln j) (hln2 : ∀ j, ln j ≤ 24) (hur : ∀ j, ur j ≤ 10) (hir1 : 1 ≤ ev → 0 ≤ ir) (hir2 : 1 ≤ ev → ir < cn) (hg1 : 0 ≤ gn) (hg2 : gn ≤ 15) (hfr1 : ∀ j, 0 ≤ fr j) (hfr3 : ∀ j, fr j < cn ∨ fr j = 0) (hfl1 : ∀ j, 0 ≤ fl j) (hfl2 : ∀ j, fl j ≤ 15) (hba1 : ∀ j, 0 ≤ ba j) (hba2 : ∀ j, ba j ≤ 60) (hsx : ∀ j, sx (st j) = st j) (huc1 : ∀ j, 0 ≤ uc j) (huc2 : ∀ j, uc j ≤ ur j) (hr_1 : r_1 = if 0 ≤ r ∧ r < cn then 1 else 0) (c_2 : ¬ r_1 = 0) (c_4 : ¬ fu < 0) (c_6 : fu ≤ 2000) : ∀ j, ln j ≤ 24 := by
  first | assumption | grind
theorem q_X8_run_12 {lc : Nat → Int32} {ln : Nat → Int32} {ur : Nat → Int32} {uc : Nat → Int32} {fr : Nat → Int32} {fl : Nat → Int32} {ba : Nat → Int32} {st : Nat → Int32} {cn : Int32} {ir : Int32} {ev : Int32} {gn : Int32} {r : Int32} {fu : Int32} {r_1 : Int32} (hcn2 : cn ≤ 20) (hlc1 : ∀ j, 0 ≤ lc j) (hlc2 : ∀ j, lc j ≤ 15) (hln1 : ∀ j, 0 ≤ ln j) (hln2 : ∀ j, ln j ≤ 24) (hur : ∀ j, ur j ≤ 10) (hir1 : 1 ≤ ev → 0 ≤ ir) (hir2 : 1 ≤ ev → ir < cn) (hg1 : 0 ≤ gn) (hg2 : gn ≤ 15) (hfr1 : ∀ j, 0 ≤ fr j) (hfr3 : ∀ j, fr j < cn ∨ fr j = 0) (hfl1 : ∀ j, 0 ≤ fl j) (hfl2 : ∀ j, fl j ≤ 15) (hba1 : ∀ j, 0 ≤ ba j) (hba2 : ∀ j, ba j ≤ 60) (hsx : ∀ j, sx (st j) = st j) (huc1 : ∀ j, 0 ≤ uc j) (huc2 : ∀ j, uc j ≤ ur j) (hr_1 : r_1 = if 0 ≤ r ∧ r < cn then 1 else 0) (c_2 : ¬ r_1 = 0) (c_4 : ¬ fu < 0) (c_6 : fu ≤ 2000) : ∀ j, ur j ≤ 10 := by
  first | assumption | grind
theorem q_X8_run_13 {lc : Nat → Int32} {ln : Nat → Int32} {ur : Nat → Int32} {uc : Nat → Int32} {fr : Nat → Int32} {fl : Nat → Int32} {ba : Nat → Int32} {st : Nat → Int32} {cn : Int32} {ir : Int32} {ev : Int32} {gn : Int32} {r : Int32} {fu : Int32} {r_1 : Int32} (hcn2 : cn ≤ 20) (hlc1 : ∀ j, 0 ≤ lc j) (hlc2 : ∀ j, lc j ≤ 15) (hln1 : ∀ j, 0 ≤ ln j) (hln2 : ∀ j, ln j ≤ 24) (hur : ∀ j, ur j ≤ 10) (hir1 : 1 ≤ ev → 0 ≤ ir) (hir2 : 1 ≤ ev → ir < cn) (hg1 : 0 ≤ gn) (hg2 : gn ≤ 15) (hfr1 : ∀ j, 0 ≤ fr j) (hfr3 : ∀ j, fr j < cn ∨ fr j = 0) (hfl1 : ∀ j, 0 ≤ fl j) (hfl2 : ∀ j, fl j ≤ 15) (hba1 : ∀ j, 0 ≤ ba j) (hba2 : ∀ j, ba j ≤ 60) (hsx : ∀ j, sx (st j) = st j) (huc1 : ∀ j, 0 ≤ uc j) (huc2 : ∀ j, uc j ≤ ur j) (hr_1 : r_1 = if 0 ≤ r ∧ r < cn then 1 else 0) (c_2 : ¬ r_1 = 0) (c_4 : ¬ fu < 0) (c_6 : fu ≤ 2000) : 1 ≤ ev → 0 ≤ ir := by
  first | assumption | grind
theorem q_X8_run_14 {lc : Nat → Int32} {ln : Nat → Int32} {ur : Nat → Int32} {uc : Nat → Int32} {fr : Nat → Int32} {fl : Nat → Int32} {ba : Nat → Int32} {st : Nat → Int32} {cn : Int32} {ir : Int32} {ev : Int32} {gn : Int32} {r : Int32} {fu : Int32} {r_1 : Int32} (hcn2 : cn ≤ 20) (hlc1 : ∀ j, 0 ≤ lc j) (hlc2 : ∀ j, lc j ≤ 15) (hln1 : ∀ j, 0 ≤ ln j) (hln2 : ∀ j, ln j ≤ 24) (hur : ∀ j, ur j ≤ 10) (hir1 : 1 ≤ ev → 0 ≤ ir) (hir2 : 1 ≤ ev → ir < cn) (hg1 : 0 ≤ gn) (hg2 : gn ≤ 15) (hfr1 : ∀ j, 0 ≤ fr j) (hfr3 : ∀ j, fr j < cn ∨ fr j = 0) (hfl1 : ∀ j, 0 ≤ fl j) (hfl2 : ∀ j, fl j ≤ 15) (hba1 : ∀ j, 0 ≤ ba j) (hba2 : ∀ j, ba j ≤ 60) (hsx : ∀ j, sx (st j) = st j) (huc1 : ∀ j, 0 ≤ uc j) (huc2 : ∀ j, uc j ≤ ur j) (hr_1 : r_1 = if 0 ≤ r ∧ r < cn then 1 else 0) (c_2 : ¬ r_1 = 0) (c_4 : ¬ fu < 0) (c_6 : fu ≤ 2000) : 1 ≤ ev → ir < cn := by
  first | assumption | grind
theorem q_X8_run_15 {lc : Nat → Int32} {ln : Nat → Int32} {ur : Nat → Int32} {uc : Nat → Int32} {fr : Nat → Int32} {fl : Nat → Int32} {ba : Nat → Int32} {st : Nat → Int32} {cn : Int32} {ir : Int32} {ev : Int32} {gn : Int32} {r : Int32} {fu : Int32} {r_1 : Int32} (hcn2 : cn ≤ 20) (hlc1 : ∀ j, 0 ≤ lc j) (hlc2 : ∀ j, lc j ≤ 15) (hln1 : ∀ j, 0 ≤ ln j) (hln2 : ∀ j, ln j ≤ 24) (hur : ∀ j, ur j ≤ 10) (hir1 : 1 ≤ ev → 0 ≤ ir) (hir2 : 1 ≤ ev → ir < cn) (hg1 : 0 ≤ gn) (hg2 : gn ≤ 15) (hfr1 : ∀ j, 0 ≤ fr j) (hfr3 : ∀ j, fr j < cn ∨ fr j = 0) (hfl1 : ∀ j, 0 ≤ fl j) (hfl2 : ∀ j, fl j ≤ 15) (hba1 : ∀ j, 0 ≤ ba j) (hba2 : ∀ j, ba j ≤ 60) (hsx : ∀ j, sx (st j) = st j) (huc1 : ∀ j, 0 ≤ uc j) (huc2 : ∀ j, uc j ≤ ur j) (hr_1 : r_1 = if 0 ≤ r ∧ r < cn then 1 else 0) (c_2 : ¬ r_1 = 0) (c_4 : ¬ fu < 0) (c_6 : fu ≤ 2000) : 0 ≤ r := by
  first | assumption | grind
theorem q_X8_run_16 {lc : Nat → Int32} {ln : Nat → Int32} {ur : Nat → Int32} {uc : Nat → Int32} {fr : Nat → Int32} {fl : Nat → Int32} {ba : Nat → Int32} {st : Nat → Int32} {cn : Int32} {ir : Int32} {ev : Int32} {gn : Int32} {r : Int32} {fu : Int32} {r_1 : Int32} (hcn2 : cn ≤ 20) (hlc1 : ∀ j, 0 ≤ lc j) (hlc2 : ∀ j, lc j ≤ 15) (hln1 : ∀ j, 0 ≤ ln j) (hln2 : ∀ j, ln j ≤ 24) (hur : ∀ j, ur j ≤ 10) (hir1 : 1 ≤ ev → 0 ≤ ir) (hir2 : 1 ≤ ev → ir < cn) (hg1 : 0 ≤ gn) (hg2 : gn ≤ 15) (hfr1 : ∀ j, 0 ≤ fr j) (hfr3 : ∀ j, fr j < cn ∨ fr j = 0) (hfl1 : ∀ j, 0 ≤ fl j) (hfl2 : ∀ j, fl j ≤ 15) (hba1 : ∀ j, 0 ≤ ba j) (hba2 : ∀ j, ba j ≤ 60) (hsx : ∀ j, sx (st j) = st j) (huc1 : ∀ j, 0 ≤ uc j) (huc2 : ∀ j, uc j ≤ ur j) (hr_1 : r_1 = if 0 ≤ r ∧ r < cn then 1 else 0) (c_2 : ¬ r_1 = 0) (c_4 : ¬ fu < 0) (c_6 : fu ≤ 2000) : r < cn := by
  first | assumption | grind
theorem q_X8_run_17 {lc : Nat → Int32} {ln : Nat → Int32} {ur : Nat → Int32} {uc : Nat → Int32} {fr : Nat → Int32} {fl : Nat → Int32} {ba : Nat → Int32} {st : Nat → Int32} {cn : Int32} {ir : Int32} {ev : Int32} {gn : Int32} {r : Int32} {fu : Int32} {r_1 : Int32} (hcn2 : cn ≤ 20) (hlc1 : ∀ j, 0 ≤ lc j) (hlc2 : ∀ j, lc j ≤ 15) (hln1 : ∀ j, 0 ≤ ln j) (hln2 : ∀ j, ln j ≤ 24) (hur : ∀ j, ur j ≤ 10) (hir1 : 1 ≤ ev → 0 ≤ ir) (hir2 : 1 ≤ ev → ir < cn) (hg1 : 0 ≤ gn) (hg2 : gn ≤ 15) (hfr1 : ∀ j, 0 ≤ fr j) (hfr3 : ∀ j, fr j < cn ∨ fr j = 0) (hfl1 : ∀ j, 0 ≤ fl j) (hfl2 : ∀ j, fl j ≤ 15) (hba1 : ∀ j, 0 ≤ ba j) (hba2 : ∀ j, ba j ≤ 60) (hsx : ∀ j, sx (st j) = st j) (huc1 : ∀ j, 0 ≤ uc j) (huc2 : ∀ j, uc j ≤ ur j) (hr_1 : r_1 = if 0 ≤ r ∧ r < cn then 1 else 0) (c_2 : ¬ r_1 = 0) (c_4 : ¬ fu < 0) (c_6 : fu ≤ 2000) : 0 ≤ gn := by
  first | assumption | grind
theorem q_X8_run_18 {lc : Nat → Int32} {ln : Nat → Int32} {ur : Nat → Int32} {uc : Nat → Int32} {fr : Nat → Int32} {fl : Nat → Int32} {ba : Nat → Int32} {st : Nat → Int32} {cn : Int32} {ir : Int32} {ev : Int32} {gn : Int32} {r : Int32} {fu : Int32} {r_1 : Int32} (hcn2 : cn ≤ 20) (hlc1 : ∀ j, 0 ≤ lc j) (hlc2 : ∀ j, lc j ≤ 15) (hln1 : ∀ j, 0 ≤ ln j) (hln2 : ∀ j, ln j ≤ 24) (hur : ∀ j, ur j ≤ 10) (hir1 : 1 ≤ ev → 0 ≤ ir) (hir2 : 1 ≤ ev → ir < cn) (hg1 : 0 ≤ gn) (hg2 : gn ≤ 15) (hfr1 : ∀ j, 0 ≤ fr j) (hfr3 : ∀ j, fr j < cn ∨ fr j = 0) (hfl1 : ∀ j, 0 ≤ fl j) (hfl2 : ∀ j, fl j ≤ 15) (hba1 : ∀ j, 0 ≤ ba j) (hba2 : ∀ j, ba j ≤ 60) (hsx : ∀ j, sx (st j) = st j) (huc1 : ∀ j, 0 ≤ uc j) (huc2 : ∀ j, uc j ≤ ur j) (hr_1 : r_1 = if 0 ≤ r ∧ r < cn then 1 else 0) (c_2 : ¬ r_1 = 0) (c_4 : ¬ fu < 0) (c_6 : fu ≤ 2000) : gn ≤ 15 := by
  first | assumption | grind
theorem q_X8_run_19 {lc : Nat → Int32} {ln : Nat → Int32} {ur : Nat → Int32} {uc : Nat → Int32} {fr : Nat → Int32} {fl : Nat → Int32} {ba : Nat → Int32} {st : Nat → Int32} {cn : Int32} {ir : Int32} {ev : Int32} {gn : Int32} {r : Int32} {fu : Int32} {r_1 : Int32} (hcn2 : cn ≤ 20) (hlc1 : ∀ j, 0 ≤ lc j) (hlc2 : ∀ j, lc j ≤ 15) (hln1 : ∀ j, 0 ≤ ln j) (hln2 : ∀ j, ln j ≤ 24) (hur : ∀ j, ur j ≤ 10) (hir1 : 1 ≤ ev → 0 ≤ ir) (hir2 : 1 ≤ ev → ir < cn) (hg1 : 0 ≤ gn) (hg2 : gn ≤ 15) (hfr1 : ∀ j, 0 ≤ fr j) (hfr3 : ∀ j, fr j < cn ∨ fr j = 0) (hfl1 : ∀ j, 0 ≤ fl j) (hfl2 : ∀ j, fl j ≤ 15) (hba1 : ∀ j, 0 ≤ ba j) (hba2 : ∀ j, ba j ≤ 60) (hsx : ∀ j, sx (st j) = st j) (huc1 : ∀ j, 0 ≤ uc j) (huc2 : ∀ j, uc j ≤ ur j) (hr_1 : r_1 = if 0 ≤ r ∧ r < cn then 1 else 0) (c_2 : ¬ r_1 = 0) (c_4 : ¬ fu < 0) (c_6 : fu ≤ 2000) : 0 ≤ fu := by
  first | assumption | grind
theorem q_X8_run_20 {lc : Nat → Int32} {ln : Nat → Int32} {ur : Nat → Int32} {uc : Nat → Int32} {fr : Nat → Int32} {fl : Nat → Int32} {ba : Nat → Int32} {st : Nat → Int32} {cn : Int32} {ir : Int32} {ev : Int32} {gn : Int32} {r : Int32} {fu : Int32} {r_1 : Int32} (hcn2 : cn ≤ 20) (hlc1 : ∀ j, 0 ≤ lc j) (hlc2 : ∀ j, lc j ≤ 15) (hln1 : ∀ j, 0 ≤ ln j) (hln2 : ∀ j, ln j ≤ 24) (hur : ∀ j, ur j ≤ 10) (hir1 : 1 ≤ ev → 0 ≤ ir) (hir2 : 1 ≤ ev → ir < cn) (hg1 : 0 ≤ gn) (hg2 : gn ≤ 15) (hfr1 : ∀ j, 0 ≤ fr j) (hfr3 : ∀ j, fr j < cn ∨ fr j = 0) (hfl1 : ∀ j, 0 ≤ fl j) (hfl2 : ∀ j, fl j ≤ 15) (hba1 : ∀ j, 0 ≤ ba j) (hba2 : ∀ j, ba j ≤ 60) (hsx : ∀ j, sx (st j) = st j) (huc1 : ∀ j, 0 ≤ uc j) (huc2 : ∀ j, uc j ≤ ur j) (hr_1 : r_1 = if 0 ≤ r ∧ r < cn then 1 else 0) (c_2 : ¬ r_1 = 0) (c_4 : ¬ fu < 0) (c_6 : fu ≤ 2000) : fu ≤ 2000 := by
  first | assumption | grind
theorem q_X8_run_21 {lc : Nat → Int32} {ln : Nat → Int32} {ur : Nat → Int32} {uc : Nat → Int32} {fr : Nat → Int32} {fl : Nat → Int32} {ba : Nat → Int32} {st : Nat → Int32} {cn : Int32} {ir : Int32} {ev : Int32} {gn : Int32} {r : Int32} {fu : Int32} {r_1 : Int32} (hcn2 : cn ≤ 20) (hlc1 : ∀ j, 0 ≤ lc j) (hlc2 : ∀ j, lc j ≤ 15) (hln1 : ∀ j, 0 ≤ ln j) (hln2 : ∀ j, ln j ≤ 24) (hur : ∀ j, ur j ≤ 10) (hir1 : 1 ≤ ev → 0 ≤ ir) (hir2 : 1 ≤ ev → ir < cn) (hg1 : 0 ≤ gn) (hg2 : gn ≤ 15) (hfr1 : ∀ j, 0 ≤ fr j) (hfr3 : ∀ j, fr j < cn ∨ fr j = 0) (hfl1 : ∀ j, 0 ≤ fl j) (hfl2 : ∀ j, fl j ≤ 15) (hba1 : ∀ j, 0 ≤ ba j) (hba2 : ∀ j, ba j ≤ 60) (hsx : ∀ j, sx (st j) = st j) (huc1 : ∀ j, 0 ≤ uc j) (huc2 : ∀ j, uc j ≤ ur j) (hr_1 : r_1 = if 0 ≤ r ∧ r < cn then 1 else 0) (c_2 : ¬ r_1 = 0) (c_4 : ¬ fu < 0) (c_6 : fu ≤ 2000) : ∀ j, 0 ≤ fr j := by
  first | assumption | grind
theorem q_X8_run_22 {lc : Nat → Int32} {ln : Nat → Int32} {ur : Nat → Int32} {uc : Nat → Int32} {fr : Nat → Int32} {fl : Nat → Int32} {ba : Nat → Int32} {st : Nat → Int32} {cn : Int32} {ir : Int32} {ev : Int32} {gn : Int32} {r : Int32} {fu : Int32} {r_1 : Int32} (hcn2 : cn ≤ 20) (hlc1 : ∀ j, 0 ≤ lc j) (hlc2 : ∀ j, lc j ≤ 15) (hln1 : ∀ j, 0 ≤ ln j) (hln2 : ∀ j, ln j ≤ 24) (hur : ∀ j, ur j ≤ 10) (hir1 : 1 ≤ ev → 0 ≤ ir) (hir2 : 1 ≤ ev → ir < cn) (hg1 : 0 ≤ gn) (hg2 : gn ≤ 15) (hfr1 : ∀ j, 0 ≤ fr j) (hfr3 : ∀ j, fr j < cn ∨ fr j = 0) (hfl1 : ∀ j, 0 ≤ fl j) (hfl2 : ∀ j, fl j ≤ 15) (hba1 : ∀ j, 0 ≤ ba j) (hba2 : ∀ j, ba j ≤ 60) (hsx : ∀ j, sx (st j) = st j) (huc1 : ∀ j, 0 ≤ uc j) (huc2 : ∀ j, uc j ≤ ur j) (hr_1 : r_1 = if 0 ≤ r ∧ r < cn then 1 else 0) (c_2 : ¬ r_1 = 0) (c_4 : ¬ fu < 0) (c_6 : fu ≤ 2000) : ∀ j, fr j < cn := by
  first | assumption | grind
theorem q_X8_run_23 {lc : Nat → Int32} {ln : Nat → Int32} {ur : Nat → Int32} {uc : Nat → Int32} {fr : Nat → Int32} {fl : Nat → Int32} {ba : Nat → Int32} {st : Nat → Int32} {cn : Int32} {ir : Int32} {ev : Int32} {gn : Int32} {r : Int32} {fu : Int32} {r_1 : Int32} (hcn2 : cn ≤ 20) (hlc1 : ∀ j, 0 ≤ lc j) (hlc2 : ∀ j, lc j ≤ 15) (hln1 : ∀ j, 0 ≤ ln j) (hln2 : ∀ j, ln j ≤ 24) (hur : ∀ j, ur j ≤ 10) (hir1 : 1 ≤ ev → 0 ≤ ir) (hir2 : 1 ≤ ev → ir < cn) (hg1 : 0 ≤ gn) (hg2 : gn ≤ 15) (hfr1 : ∀ j, 0 ≤ fr j) (hfr3 : ∀ j, fr j < cn ∨ fr j = 0) (hfl1 : ∀ j, 0 ≤ fl j) (hfl2 : ∀ j, fl j ≤ 15) (hba1 : ∀ j, 0 ≤ ba j) (hba2 : ∀ j, ba j ≤ 60) (hsx : ∀ j, sx (st j) = st j) (huc1 : ∀ j, 0 ≤ uc j) (huc2 : ∀ j, uc j ≤ ur j) (hr_1 : r_1 = if 0 ≤ r ∧ r < cn then 1 else 0) (c_2 : ¬ r_1 = 0) (c_4 : ¬ fu < 0) (c_6 : fu ≤ 2000) : ∀ j, 0 ≤ fl j := by
  first | assumption | grind
theorem q_X8_run_24 {lc : Nat → Int32} {ln : Nat → Int32} {ur : Nat → Int32} {uc : Nat → Int32} {fr : Nat → Int32} {fl : Nat → Int32} {ba : Nat → Int32} {st : Nat → Int32} {cn : Int32} {ir : Int32} {ev : Int32} {gn : Int32} {r : Int32} {fu : Int32} {r_1 : Int32} (hcn2 : cn ≤ 20) (hlc1 : ∀ j, 0 ≤ lc j) (hlc2 : ∀ j, lc j ≤ 15) (hln1 : ∀ j, 0 ≤ ln j) (hln2 : ∀ j, ln j ≤ 24) (hur : ∀ j, ur j ≤ 10) (hir1 : 1 ≤ ev → 0 ≤ ir) (hir2 : 1 ≤ ev → ir < cn) (hg1 : 0 ≤ gn) (hg2 : gn ≤ 15) (hfr1 : ∀ j, 0 ≤ fr j) (hfr3 : ∀ j, fr j < cn ∨ fr j = 0) (hfl1 : ∀ j, 0 ≤ fl j) (hfl2 : ∀ j, fl j ≤ 15) (hba1 : ∀ j, 0 ≤ ba j) (hba2 : ∀ j, ba j ≤ 60) (hsx : ∀ j, sx (st j) = st j) (huc1 : ∀ j, 0 ≤ uc j) (huc2 : ∀ j, uc j ≤ ur j) (hr_1 : r_1 = if 0 ≤ r ∧ r < cn then 1 else 0) (c_2 : ¬ r_1 = 0) (c_4 : ¬ fu < 0) (c_6 : fu ≤ 2000) : ∀ j, fl j ≤ 15 := by
  first | assumption | grind
theorem q_X8_run_25 {lc : Nat → Int32} {ln : Nat → Int32} {ur : Nat → Int32} {uc : Nat → Int32} {fr : Nat → Int32} {fl : Nat → Int32} {ba : Nat → Int32} {st : Nat → Int32} {cn : Int32} {ir : Int32} {ev : Int32} {gn : Int32} {r : Int32} {fu : Int32} {r_1 : Int32} (hcn2 : cn ≤ 20) (hlc1 : ∀ j, 0 ≤ lc j) (hlc2 : ∀ j, lc j ≤ 15) (hln1 : ∀ j, 0 ≤ ln j) (hln2 : ∀ j, ln j ≤ 24) (hur : ∀ j, ur j ≤ 10) (hir1 : 1 ≤ ev → 0 ≤ ir) (hir2 : 1 ≤ ev → ir < cn) (hg1 : 0 ≤ gn) (hg2 : gn ≤ 15) (hfr1 : ∀ j, 0 ≤ fr j) (hfr3 : ∀ j, fr j < cn ∨ fr j = 0) (hfl1 : ∀ j, 0 ≤ fl j) (hfl2 : ∀ j, fl j ≤ 15) (hba1 : ∀ j, 0 ≤ ba j) (hba2 : ∀ j, ba j ≤ 60) (hsx : ∀ j, sx (st j) = st j) (huc1 : ∀ j, 0 ≤ uc j) (huc2 : ∀ j, uc j ≤ ur j) (hr_1 : r_1 = if 0 ≤ r ∧ r < cn then 1 else 0) (c_2 : ¬ r_1 = 0) (c_4 : ¬ fu < 0) (c_6 : fu ≤ 2000) : ∀ j, 0 ≤ ba j := by
  first | assumption | grind
theorem q_X8_run_26 {lc : Nat → Int32} {ln : Nat → Int32} {ur : Nat → Int32} {uc : Nat → Int32} {fr : Nat → Int32} {fl : Nat → Int32} {ba : Nat → Int32} {st : Nat → Int32} {cn : Int32} {ir : Int32} {ev : Int32} {gn : Int32} {r : Int32} {fu : Int32} {r_1 : Int32} (hcn2 : cn ≤ 20) (hlc1 : ∀ j, 0 ≤ lc j) (hlc2 : ∀ j, lc j ≤ 15) (hln1 : ∀ j, 0 ≤ ln j) (hln2 : ∀ j, ln j ≤ 24) (hur : ∀ j, ur j ≤ 10) (hir1 : 1 ≤ ev → 0 ≤ ir) (hir2 : 1 ≤ ev → ir < cn) (hg1 : 0 ≤ gn) (hg2 : gn ≤ 15) (hfr1 : ∀ j, 0 ≤ fr j) (hfr3 : ∀ j, fr j < cn ∨ fr j = 0) (hfl1 : ∀ j, 0 ≤ fl j) (hfl2 : ∀ j, fl j ≤ 15) (hba1 : ∀ j, 0 ≤ ba j) (hba2 : ∀ j, ba j ≤ 60) (hsx : ∀ j, sx (st j) = st j) (huc1 : ∀ j, 0 ≤ uc j) (huc2 : ∀ j, uc j ≤ ur j) (hr_1 : r_1 = if 0 ≤ r ∧ r < cn then 1 else 0) (c_2 : ¬ r_1 = 0) (c_4 : ¬ fu < 0) (c_6 : fu ≤ 2000) : ∀ j, ba j ≤ 60 := by
  first | assumption | grind
theorem q_X8_run_27 {lc : Nat → Int32} {ln : Nat → Int32} {ur : Nat → Int32} {uc : Nat → Int32} {fr : Nat → Int32} {fl : Nat → Int32} {ba : Nat → Int32} {st : Nat → Int32} {cn : Int32} {ir : Int32} {ev : Int32} {gn : Int32} {r : Int32} {fu : Int32} {r_1 : Int32} (hcn2 : cn ≤ 20) (hlc1 : ∀ j, 0 ≤ lc j) (hlc2 : ∀ j, lc j ≤ 15) (hln1 : ∀ j, 0 ≤ ln j) (hln2 : ∀ j, ln j ≤ 24) (hur : ∀ j, ur j ≤ 10) (hir1 : 1 ≤ ev → 0 ≤ ir) (hir2 : 1 ≤ ev → ir < cn) (hg1 : 0 ≤ gn) (hg2 : gn ≤ 15) (hfr1 : ∀ j, 0 ≤ fr j) (hfr3 : ∀ j, fr j < cn ∨ fr j = 0) (hfl1 : ∀ j, 0 ≤ fl j) (hfl2 : ∀ j, fl j ≤ 15) (hba1 : ∀ j, 0 ≤ ba j) (hba2 : ∀ j, ba j ≤ 60) (hsx : ∀ j, sx (st j) = st j) (huc1 : ∀ j, 0 ≤ uc j) (huc2 : ∀ j, uc j ≤ ur j) (hr_1 : r_1 = if 0 ≤ r ∧ r < cn then 1 else 0) (c_2 : ¬ r_1 = 0) (c_4 : ¬ fu < 0) (c_6 : fu ≤ 2000) : ∀ j, sx (st j) = st j := by
  first | assumption | grind
theorem q_X8_run_28 {lc : Nat → Int32} {ln : Nat → Int32} {ur : Nat → Int32} {uc : Nat → Int32} {fr : Nat → Int32} {fl : Nat → Int32} {ba : Nat → Int32} {st : Nat → Int32} {cn : Int32} {ir : Int32} {ev : Int32} {gn : Int32} {r : Int32} {fu : Int32} {r_1 : Int32} (hcn2 : cn ≤ 20) (hlc1 : ∀ j, 0 ≤ lc j) (hlc2 : ∀ j, lc j ≤ 15) (hln1 : ∀ j, 0 ≤ ln j) (hln2 : ∀ j, ln j ≤ 24) (hur : ∀ j, ur j ≤ 10) (hir1 : 1 ≤ ev → 0 ≤ ir) (hir2 : 1 ≤ ev → ir < cn) (hg1 : 0 ≤ gn) (hg2 : gn ≤ 15) (hfr1 : ∀ j, 0 ≤ fr j) (hfr3 : ∀ j, fr j < cn ∨ fr j = 0) (hfl1 : ∀ j, 0 ≤ fl j) (hfl2 : ∀ j, fl j ≤ 15) (hba1 : ∀ j, 0 ≤ ba j) (hba2 : ∀ j, ba j ≤ 60) (hsx : ∀ j, sx (st j) = st j) (huc1 : ∀ j, 0 ≤ uc j) (huc2 : ∀ j, uc j ≤ ur j) (hr_1 : r_1 = if 0 ≤ r ∧ r < cn then 1 else 0) (c_2 : ¬ r_1 = 0) (c_4 : ¬ fu < 0) (c_6 : fu ≤ 2000) : ∀ j, 0 ≤ uc j := by
  first | assumption | grind
theorem q_X8_run_29 {lc : Nat → Int32} {ln : Nat → Int32} {ur : Nat → Int32} {uc : Nat → Int32} {fr : Nat → Int32} {fl : Nat → Int32} {ba : Nat → Int32} {st : Nat → Int32} {cn : Int32} {ir : Int32} {ev : Int32} {gn : Int32} {r : Int32} {fu : Int32} {r_1 : Int32} (hcn2 : cn ≤ 20) (hlc1 : ∀ j, 0 ≤ lc j) (hlc2 : ∀ j, lc j ≤ 15) (hln1 : ∀ j, 0 ≤ ln j) (hln2 : ∀ j, ln j ≤ 24) (hur : ∀ j, ur j ≤ 10) (hir1 : 1 ≤ ev → 0 ≤ ir) (hir2 : 1 ≤ ev → ir < cn) (hg1 : 0 ≤ gn) (hg2 : gn ≤ 15) (hfr1 : ∀ j, 0 ≤ fr j) (hfr3 : ∀ j, fr j < cn ∨ fr j = 0) (hfl1 : ∀ j, 0 ≤ fl j) (hfl2 : ∀ j, fl j ≤ 15) (hba1 : ∀ j, 0 ≤ ba j) (hba2 : ∀ j, ba j ≤ 60) (hsx : ∀ j, sx (st j) = st j) (huc1 : ∀ j, 0 ≤ uc j) (huc2 : ∀ j, uc j ≤ ur j) (hr_1 : r_1 = if 0 ≤ r ∧ r < cn then 1 else 0) (c_2 : ¬ r_1 = 0) (c_4 : ¬ fu < 0) (c_6 : fu ≤ 2000) : ∀ j, uc j ≤ ur j := by
  first | assumption | grind
theorem q_X8_run_55 {lc : Nat → Int32} {ln : Nat → Int32} {fv : Nat → Int32} {po : Nat → Int32} {pa : Nat → Int32} {pb : Nat → Int32} {ur : Nat → Int32} {uc : Nat → Int32} {un : Nat → Int32} {fr : Nat → Int32} {pl : Nat → Int32} {gc : Nat → Int32} {fl : Nat → Int32} {ba : Nat → Int32} {vs : Nat → Int32} {st : Nat → Int32} {gv : Nat → Int32} {cn : Int32} {op : Int32} {mx : Int32} {tp : Int32} {ir : Int32} {ev : Int32} {iF : Int32} {cs : Int32} {rs : Int32} {en : Int32} {fa : Int32} {ro : Int32} {pp : Int32} {fm : Int32} {sp : Int32} {it : Int32} {mo : Int32} {gn : Int32} {r : Int32} {fu : Int32} {r_1 : Int32} {pl_32 : Nat → Int32} {fr_33 : Nat → Int32} {gc_34 : Nat → Int32} {fl_35 : Nat → Int32} {ba_36 : Nat → Int32} {vs_37 : Nat → Int32} {st_38 : Nat → Int32} {uc_39 : Nat → Int32} {un_40 : Nat → Int32} {op_41 : Int32} {mx_42 : Int32} {tp_43 : Int32} {iF_44 : Int32} {cs_45 : Int32} {sp_46 : Int32} {it_47 : Int32} {en_48 : Int32} {rs_49 : Int32} {fa_50 : Int32} {ro_51 : Int32} {pp_52 : Int32} {fm_53 : Int32} {mo_54 : Int32} {r_30 : Int32} (hcn2 : cn ≤ 20) (hlc1 : ∀ j, 0 ≤ lc j) (hlc2 : ∀ j, lc j ≤ 15) (hln1 : ∀ j, 0 ≤ ln j) (hln2 : ∀ j, ln j ≤ 24) (hur : ∀ j, ur j ≤ 10) (hir1 : 1 ≤ ev → 0 ≤ ir) (hir2 : 1 ≤ ev → ir < cn) (hg1 : 0 ≤ gn) (hg2 : gn ≤ 15) (hfr1 : ∀ j, 0 ≤ fr j) (hfr3 : ∀ j, fr j < cn ∨ fr j = 0) (hfl1 : ∀ j, 0 ≤ fl j) (hfl2 : ∀ j, fl j ≤ 15) (hba1 : ∀ j, 0 ≤ ba j) (hba2 : ∀ j, ba j ≤ 60) (hsx : ∀ j, sx (st j) = st j) (huc1 : ∀ j, 0 ≤ uc j) (huc2 : ∀ j, uc j ≤ ur j) (hr_1 : r_1 = if 0 ≤ r ∧ r < cn then 1 else 0) (c_2 : ¬ r_1 = 0) (c_4 : ¬ fu < 0) (c_6 : fu ≤ 2000) (hr_30 : (r_30, pl_32, fr_33, gc_34, fl_35, ba_36, vs_37, st_38, uc_39, un_40, op_41, mx_42, tp_43, iF_44, cs_45, sp_46, it_47, en_48, rs_49, fa_50, ro_51, pp_52, fm_53, mo_54) = f_perf r gn fu ir ev cn rs pl fr gc fl ba vs st uc un lc fv ur ln po pa pb gv) : ((r_30, pl_32, fr_33, gc_34, fl_35, ba_36, vs_37, st_38, uc_39, un_40, op_41, mx_42, tp_43, iF_44, cs_45, sp_46, it_47, en_48, rs_49, fa_50, ro_51, pp_52, fm_53, mo_54, (0 : Int32)) = t_run r fu ir ev cn gn op mx tp iF cs sp it en rs fa ro pp fm mo pl fr gc fl ba vs st uc un lc fv ur ln po pa pb gv) := by
  skip
  simp only [t_run]
  rw [if_neg (by grind), ← hr_30]
theorem q_X8_run_56 {lc : Nat → Int32} {ln : Nat → Int32} {fv : Nat → Int32} {po : Nat → Int32} {pa : Nat → Int32} {pb : Nat → Int32} {ur : Nat → Int32} {uc : Nat → Int32} {un : Nat → Int32} {fr : Nat → Int32} {pl : Nat → Int32} {gc : Nat → Int32} {fl : Nat → Int32} {ba : Nat → Int32} {vs : Nat → Int32} {st : Nat → Int32} {gv : Nat → Int32} {cn : Int32} {op : Int32} {mx : Int32} {tp : Int32} {ir : Int32} {ev : Int32} {iF : Int32} {cs : Int32} {rs : Int32} {en : Int32} {fa : Int32} {ro : Int32} {pp : Int32} {fm : Int32} {sp : Int32} {it : Int32} {mo : Int32} {gn : Int32} {r : Int32} {fu : Int32} {r_1 : Int32} (hcn2 : cn ≤ 20) (hlc1 : ∀ j, 0 ≤ lc j) (hlc2 : ∀ j, lc j ≤ 15) (hln1 : ∀ j, 0 ≤ ln j) (hln2 : ∀ j, ln j ≤ 24) (hur : ∀ j, ur j ≤ 10) (hir1 : 1 ≤ ev → 0 ≤ ir) (hir2 : 1 ≤ ev → ir < cn) (hg1 : 0 ≤ gn) (hg2 : gn ≤ 15) (hfr1 : ∀ j, 0 ≤ fr j) (hfr3 : ∀ j, fr j < cn ∨ fr j = 0) (hfl1 : ∀ j, 0 ≤ fl j) (hfl2 : ∀ j, fl j ≤ 15) (hba1 : ∀ j, 0 ≤ ba j) (hba2 : ∀ j, ba j ≤ 60) (hsx : ∀ j, sx (st j) = st j) (huc1 : ∀ j, 0 ≤ uc j) (huc2 : ∀ j, uc j ≤ ur j) (hr_1 : r_1 = if 0 ≤ r ∧ r < cn then 1 else 0) (c_2 : ¬ r_1 = 0) (c_4 : ¬ fu < 0) (c_6 : ¬ fu ≤ 2000) : (((-40000 : Int32), pl, fr, gc, fl, ba, vs, st, uc, un, op, mx, tp, iF, cs, sp, it, en, rs, fa, ro, pp, fm, mo, gn) = t_run r fu ir ev cn gn op mx tp iF cs sp it en rs fa ro pp fm mo pl fr gc fl ba vs st uc un lc fv ur ln po pa pb gv) := by
  simp only [t_run]
  rw [if_pos (by grind)]
set_option maxHeartbeats 4000000 in
set_option maxRecDepth 100000 in
theorem c_X8_run (l : Launch) (dC : Nat → ClassId) (dI : Nat → Nat → Nat) (cI : ClassId) (sz : Nat) (aP : Nat) (aU : Nat) (aF : Nat) (aR : Nat) (aM : Nat) (aZ : Nat) (zg : Nat) (p0 : Nat) (p1 : Nat) (p2 : Nat) (p3 : Nat) (p4 : Nat) (p5 : Nat) (u0 : Nat) (u1 : Nat) (u2 : Nat) (f0 : Nat) (f1 : Nat) (f2 : Nat) (f3 : Nat) (f4 : Nat) (f5 : Nat) (f6 : Nat) (lc : Nat → Int32) (ln : Nat → Int32) (fv : Nat → Int32) (po : Nat → Int32) (pa : Nat → Int32) (pb : Nat → Int32) (ur : Nat → Int32) (uc : Nat → Int32) (un : Nat → Int32) (fr : Nat → Int32) (pl : Nat → Int32) (gc : Nat → Int32) (fl : Nat → Int32) (ba : Nat → Int32) (vs : Nat → Int32) (st : Nat → Int32) (gv : Nat → Int32) (cn : Int32) (op : Int32) (mx : Int32) (tp : Int32) (ir : Int32) (ev : Int32) (iF : Int32) (cs : Int32) (rs : Int32) (en : Int32) (fa : Int32) (ro : Int32) (pp : Int32) (fm : Int32) (sp : Int32) (it : Int32) (mo : Int32) (gn : Int32) (r : Int32) (fu : Int32) (hcn2 : cn ≤ 20) (hlc1 : ∀ j, 0 ≤ lc j) (hlc2 : ∀ j, lc j ≤ 15) (hln1 : ∀ j, 0 ≤ ln j) (hln2 : ∀ j, ln j ≤ 24) (hur : ∀ j, ur j ≤ 10) (hir1 : 1 ≤ ev → 0 ≤ ir) (hir2 : 1 ≤ ev → ir < cn) (hg1 : 0 ≤ gn) (hg2 : gn ≤ 15) (hfr1 : ∀ j, 0 ≤ fr j) (hfr3 : ∀ j, fr j < cn ∨ fr j = 0) (hfl1 : ∀ j, 0 ≤ fl j) (hfl2 : ∀ j, fl j ≤ 15) (hba1 : ∀ j, 0 ≤ ba j) (hba2 : ∀ j, ba j ≤ 60) (hsx : ∀ j, sx (st j) = st j) (huc1 : ∀ j, 0 ≤ uc j) (huc2 : ∀ j, uc j ≤ ur j) : mWi l yX8_run wsX8_run ({ frames := 7, cells := 0, slots := 0, locals := 162 }) [.ref aZ, .int r, .int fu] (dC, dI) [(cI, .int)] [(aZ, .inr (5, [.ref aP, .ref aU, .ref aM, .ref zg, .int gn])), (aM, .inr (1, [.ref aP, .ref aU, .ref aF, .ref aR, .int ir, .int ev, .int iF, .int cs, .int rs])), (aF, .inr (0, [.ref f0, .ref f1, .ref f2, .ref f3, .ref f4, .ref f5, .ref f6, .int op, .int mx, .int tp])), (f0, .inl (cI, 26, .inl (sh fr))), (f1, .inl (cI, 26, .inl (sh pl))), (f2, .inl (cI, 26, .inl (sh gc))), (f3, .inl (cI, 26, .inl (sh fl))), (f4, .inl (cI, 26, .inl (sh ba))), (f5, .inl (cI, 390, .inl (sw vs))), (f6, .inl (cI, 60, .inl st)), (aP, .inr (2, [.ref p0, .ref p1, .ref p2, .ref p3, .ref p4, .ref p5, .int cn])), (p0, .inl (cI, 20, .inl lc)), (p1, .inl (cI, 20, .inl ln)), (p2, .inl (cI, 300, .inl fv)), (p3, .inl (cI, 480, .inl po)), (p4, .inl (cI, 480, .inl pa)), (p5, .inl (cI, 480, .inl pb)), (aU, .inr (4, [.ref u0, .ref u1, .ref u2])), (u0, .inl (cI, 4, .inl ur)), (u1, .inl (cI, 4, .inl uc)), (u2, .inl (cI, 40, .inl un)), (aR, .inr (3, [.int en, .int fa, .int ro, .int pp, .int fm, .int sp, .int it, .int mo])), (zg, .inl (cI, 15, .inl gv))] sz (fun (v : Int32) (u : (Nat → Int32) × (Nat → Int32) × (Nat → Int32) × (Nat → Int32) × (Nat → Int32) × (Nat → Int32) × (Nat → Int32) × (Nat → Int32) × (Nat → Int32) × (Int32) × (Int32) × (Int32) × (Int32) × (Int32) × (Int32) × (Int32) × (Int32) × (Int32) × (Int32) × (Int32) × (Int32) × (Int32) × (Int32) × (Int32)) => ((v, u.1, u.2.1, u.2.2.1, u.2.2.2.1, u.2.2.2.2.1, u.2.2.2.2.2.1, u.2.2.2.2.2.2.1, u.2.2.2.2.2.2.2.1, u.2.2.2.2.2.2.2.2.1, u.2.2.2.2.2.2.2.2.2.1, u.2.2.2.2.2.2.2.2.2.2.1, u.2.2.2.2.2.2.2.2.2.2.2.1, u.2.2.2.2.2.2.2.2.2.2.2.2.1, u.2.2.2.2.2.2.2.2.2.2.2.2.2.1, u.2.2.2.2.2.2.2.2.2.2.2.2.2.2.1, u.2.2.2.2.2.2.2.2.2.2.2.2.2.2.2.1, u.2.2.2.2.2.2.2.2.2.2.2.2.2.2.2.2.1, u.2.2.2.2.2.2.2.2.2.2.2.2.2.2.2.2.2.1, u.2.2.2.2.2.2.2.2.2.2.2.2.2.2.2.2.2.2.1, u.2.2.2.2.2.2.2.2.2.2.2.2.2.2.2.2.2.2.2.1, u.2.2.2.2.2.2.2.2.2.2.2.2.2.2.2.2.2.2.2.2.1, u.2.2.2.2.2.2.2.2.2.2.2.2.2.2.2.2.2.2.2.2.2.1, u.2.2.2.2.2.2.2.2.2.2.2.2.2.2.2.2.2.2.2.2.2.2.1, u.2.2.2.2.2.2.2.2.2.2.2.2.2.2.2.2.2.2.2.2.2.2.2) = t_run r fu ir ev cn gn op mx tp iF cs sp it en rs fa ro pp fm mo pl fr gc fl ba vs st uc un lc fv ur ln po pa pb gv)) (fun u : (Nat → Int32) × (Nat → Int32) × (Nat → Int32) × (Nat → Int32) × (Nat → Int32) × (Nat → Int32) × (Nat → Int32) × (Nat → Int32) × (Nat → Int32) × (Int32) × (Int32) × (Int32) × (Int32) × (Int32) × (Int32) × (Int32) × (Int32) × (Int32) × (Int32) × (Int32) × (Int32) × (Int32) × (Int32) × (Int32) => [(aZ, .inr (5, [.ref aP, .ref aU, .ref aM, .ref zg, .int u.2.2.2.2.2.2.2.2.2.2.2.2.2.2.2.2.2.2.2.2.2.2.2])), (aM, .inr (1, [.ref aP, .ref aU, .ref aF, .ref aR, .int ir, .int ev, .int u.2.2.2.2.2.2.2.2.2.2.2.2.1, .int u.2.2.2.2.2.2.2.2.2.2.2.2.2.1, .int u.2.2.2.2.2.2.2.2.2.2.2.2.2.2.2.2.2.1])), (aF, .inr (0, [.ref f0, .ref f1, .ref f2, .ref f3, .ref f4, .ref f5, .ref f6, .int u.2.2.2.2.2.2.2.2.2.1, .int u.2.2.2.2.2.2.2.2.2.2.1, .int u.2.2.2.2.2.2.2.2.2.2.2.1])), (f0, .inl (cI, 26, .inl (sh u.2.1))), (f1, .inl (cI, 26, .inl (sh u.1))), (f2, .inl (cI, 26, .inl (sh u.2.2.1))), (f3, .inl (cI, 26, .inl (sh u.2.2.2.1))), (f4, .inl (cI, 26, .inl (sh u.2.2.2.2.1))), (f5, .inl (cI, 390, .inl (sw u.2.2.2.2.2.1))), (f6, .inl (cI, 60, .inl u.2.2.2.2.2.2.1)), (aP, .inr (2, [.ref p0, .ref p1, .ref p2, .ref p3, .ref p4, .ref p5, .int cn])), (p0, .inl (cI, 20, .inl lc)), (p1, .inl (cI, 20, .inl ln)), (p2, .inl (cI, 300, .inl fv)), (p3, .inl (cI, 480, .inl po)), (p4, .inl (cI, 480, .inl pa)), (p5, .inl (cI, 480, .inl pb)), (aU, .inr (4, [.ref u0, .ref u1, .ref u2])), (u0, .inl (cI, 4, .inl ur)), (u1, .inl (cI, 4, .inl u.2.2.2.2.2.2.2.1)), (u2, .inl (cI, 40, .inl u.2.2.2.2.2.2.2.2.1)), (aR, .inr (3, [.int u.2.2.2.2.2.2.2.2.2.2.2.2.2.2.2.2.1, .int u.2.2.2.2.2.2.2.2.2.2.2.2.2.2.2.2.2.2.1, .int u.2.2.2.2.2.2.2.2.2.2.2.2.2.2.2.2.2.2.2.1, .int u.2.2.2.2.2.2.2.2.2.2.2.2.2.2.2.2.2.2.2.2.1, .int u.2.2.2.2.2.2.2.2.2.2.2.2.2.2.2.2.2.2.2.2.2.1, .int u.2.2.2.2.2.2.2.2.2.2.2.2.2.2.1, .int u.2.2.2.2.2.2.2.2.2.2.2.2.2.2.2.1, .int u.2.2.2.2.2.2.2.2.2.2.2.2.2.2.2.2.2.2.2.2.2.2.1])), (zg, .inl (cI, 15, .inl gv))]) := by
  refine o_wi (cc := cX8_run) (maxL := 4) (ret := (some .int)) (by decide) rfl (Nat.le_of_ble_eq_true rfl) ?_
  intro p e s m below meth c ls A hx hb hr hml hts hown hlocks hP hK hD hS hA hl
  have hown : s.vm.findClass RX8 = some m.cls := hown
  have hl : lv_has ls 4 [(0, .ref aZ), (1, .int r), (2, .int fu)] := hl
  have k_1 := hts (.fieldLink RX8 10 "ZRoutines" "program" "LZRoutines$Program;") (List.mem_of_getElem? (i := 1) rfl)
  have k_2 := hts (.constant RX8 40 (-40000)) (List.mem_of_getElem? (i := 2) rfl)
  have k_3 := hts (.fieldLink RX8 36 "ZRoutines" "givenCount" "I") (List.mem_of_getElem? (i := 3) rfl)
  have k_4 := hts (.fieldLink RX8 28 "ZRoutines" "machine" "LZRoutines$Machine;") (List.mem_of_getElem? (i := 4) rfl)
  have k_5 := hts (.fieldLink RX8 32 "ZRoutines" "given" "[I") (List.mem_of_getElem? (i := 5) rfl)
  have i_X8 : ∀ w ∈ u_ws RX8 TX8 5, w ∈ wsX8_run := fun _ h => List.mem_cons_of_mem _ (List.mem_append_left _ (List.mem_append_left _ (List.mem_append_left _ (List.mem_append_left _ (List.mem_append_left _ (List.mem_append_right _ h))))))
  refine lv_aload_n hx hb dX8_run_0 rfl (lv_at hl 0 rfl) ?_
  refine va_get (D := (dC, dI)) (ci := 5) (v := .ref aP) (C := RX8) (T := TX8) (N := 5) hx hb hts i_X8 hown hK hP 0 rfl rfl 0 (by decide) k_1 (fun _ h9 => h9) rfl dX8_run_1 ?_
  refine lv_iload_n hx hb dX8_run_4 rfl (lv_at hl 1 rfl) ?_
  refine k_rd (ci := 2) (q0 := 0) (q := (RX5, TX5, 7)) (As := [.int r]) (rest := []) ⟨hx, hb, hml, hown, hts⟩ (c_X5_has l dC dI cI aP p0 p1 p2 p3 p4 p5 cn r ) (cwV 1 hts gX8_run_X5_has rfl rfl rfl (by decide +kernel) ⟨Nat.le_of_ble_eq_true rfl, Nat.le_of_ble_eq_true rfl⟩) hK hP [10] rfl rfl rfl rfl hl.1 rfl (Nat.le_of_ble_eq_true rfl) dX8_run_5 ⟨Nat.zero_le _, Nat.zero_le _⟩ (fun r_1 hr_1 => ?_)
  have hr_1 : r_1 = if 0 ≤ r ∧ r < cn then 1 else 0 := hr_1
  refine lv_if_eq (tgt := 22) hx hb dX8_run_8 (by decide) (fun c_2 => ?_) (fun c_2 => ?_)
  · skip
    refine lv_ldc (v := (-40000)) hx hb hown k_2 dX8_run_22 ?_
    exact e_wi hx hb hr hlocks dX8_run_24 hK hS (pl, fr, gc, fl, ba, vs, st, uc, un, op, mx, tp, iF, cs, sp, it, en, rs, fa, ro, pp, fm, mo, gn) hP hD (q_X8_run_3 hcn2 hlc1 hlc2 hln1 hln2 hur hir1 hir2 hg1 hg2 hfr1 hfr3 hfl1 hfl2 hba1 hba2 hsx huc1 huc2 hr_1 c_2)
  · skip
    refine lv_iload_n hx hb dX8_run_11 rfl (lv_at hl 2 rfl) ?_
    refine lv_if_lt (tgt := 22) hx hb dX8_run_12 (by decide) (fun c_4 => ?_) (fun c_4 => ?_)
    · skip
      refine lv_ldc (v := (-40000)) hx hb hown k_2 dX8_run_22 ?_
      exact e_wi hx hb hr hlocks dX8_run_24 hK hS (pl, fr, gc, fl, ba, vs, st, uc, un, op, mx, tp, iF, cs, sp, it, en, rs, fa, ro, pp, fm, mo, gn) hP hD (q_X8_run_5 hcn2 hlc1 hlc2 hln1 hln2 hur hir1 hir2 hg1 hg2 hfr1 hfr3 hfl1 hfl2 hba1 hba2 hsx huc1 huc2 hr_1 c_2 c_4)
    · skip
      refine lv_iload_n hx hb dX8_run_15 rfl (lv_at hl 2 rfl) ?_
      refine lv_sipush (v := 2000) hx hb dX8_run_16 (by decide) ?_
      refine lv_icmp_le (tgt := 25) hx hb dX8_run_19 (by decide) (fun c_6 => ?_) (fun c_6 => ?_)
      · skip
        refine lv_aload_n hx hb dX8_run_25 rfl (lv_at hl 0 rfl) ?_
        refine va_get (D := (dC, dI)) (ci := 5) (v := .int gn) (C := RX8) (T := TX8) (N := 5) hx hb hts i_X8 hown hK hP 0 rfl rfl 4 (by decide) k_3 (fun _ h9 => h9) rfl dX8_run_26 ?_
        refine lv_istore_n (lv' := [(3, .int gn), (0, .ref aZ), (1, .int r), (2, .int fu)]) hx hb dX8_run_29 rfl hl (by decide) rfl (fun ls hl => ?_)
        refine lv_aload_n hx hb dX8_run_30 rfl (lv_at hl 1 rfl) ?_
        refine lv_iconst (v := 0) hx hb dX8_run_31 (by decide) ?_
        refine va_put (D := (dC, dI)) (ci := 5) (v := .int 0) (ty := .int) (C := RX8) (T := TX8) (N := 5) hx hb hts i_X8 tyX8 tyX8_ok nmX8 hown hK hP hD hS 0 rfl rfl 4 (by decide) k_3 (fun _ h9 => h9) rfl (by decide +kernel) rfl rfl (Nat.le_of_ble_eq_true rfl) dX8_run_32 (fun H locs hP hD hS => ?_)
        have hP : va_P (dC, dI) vwCl [(aZ, .inr (5, [.ref aP, .ref aU, .ref aM, .ref zg, .int 0])), (aM, .inr (1, [.ref aP, .ref aU, .ref aF, .ref aR, .int ir, .int ev, .int iF, .int cs, .int rs])), (aF, .inr (0, [.ref f0, .ref f1, .ref f2, .ref f3, .ref f4, .ref f5, .ref f6, .int op, .int mx, .int tp])), (f0, .inl (cI, 26, .inl (sh fr))), (f1, .inl (cI, 26, .inl (sh pl))), (f2, .inl (cI, 26, .inl (sh gc))), (f3, .inl (cI, 26, .inl (sh fl))), (f4, .inl (cI, 26, .inl (sh ba))), (f5, .inl (cI, 390, .inl (sw vs))), (f6, .inl (cI, 60, .inl st)), (aP, .inr (2, [.ref p0, .ref p1, .ref p2, .ref p3, .ref p4, .ref p5, .int cn])), (p0, .inl (cI, 20, .inl lc)), (p1, .inl (cI, 20, .inl ln)), (p2, .inl (cI, 300, .inl fv)), (p3, .inl (cI, 480, .inl po)), (p4, .inl (cI, 480, .inl pa)), (p5, .inl (cI, 480, .inl pb)), (aU, .inr (4, [.ref u0, .ref u1, .ref u2])), (u0, .inl (cI, 4, .inl ur)), (u1, .inl (cI, 4, .inl uc)), (u2, .inl (cI, 40, .inl un)), (aR, .inr (3, [.int en, .int fa, .int ro, .int pp, .int fm, .int sp, .int it, .int mo])), (zg, .inl (cI, 15, .inl gv))] H := hP
        have hD : va_D A [(aZ, .inr (5, [.ref aP, .ref aU, .ref aM, .ref zg, .int 0])), (aM, .inr (1, [.ref aP, .ref aU, .ref aF, .ref aR, .int ir, .int ev, .int iF, .int cs, .int rs])), (aF, .inr (0, [.ref f0, .ref f1, .ref f2, .ref f3, .ref f4, .ref f5, .ref f6, .int op, .int mx, .int tp])), (f0, .inl (cI, 26, .inl (sh fr))), (f1, .inl (cI, 26, .inl (sh pl))), (f2, .inl (cI, 26, .inl (sh gc))), (f3, .inl (cI, 26, .inl (sh fl))), (f4, .inl (cI, 26, .inl (sh ba))), (f5, .inl (cI, 390, .inl (sw vs))), (f6, .inl (cI, 60, .inl st)), (aP, .inr (2, [.ref p0, .ref p1, .ref p2, .ref p3, .ref p4, .ref p5, .int cn])), (p0, .inl (cI, 20, .inl lc)), (p1, .inl (cI, 20, .inl ln)), (p2, .inl (cI, 300, .inl fv)), (p3, .inl (cI, 480, .inl po)), (p4, .inl (cI, 480, .inl pa)), (p5, .inl (cI, 480, .inl pb)), (aU, .inr (4, [.ref u0, .ref u1, .ref u2])), (u0, .inl (cI, 4, .inl ur)), (u1, .inl (cI, 4, .inl uc)), (u2, .inl (cI, 40, .inl un)), (aR, .inr (3, [.int en, .int fa, .int ro, .int pp, .int fm, .int sp, .int it, .int mo])), (zg, .inl (cI, 15, .inl gv))] := hD
        refine lv_aload_n hx hb dX8_run_35 rfl (lv_at hl 1 rfl) ?_
        refine va_get (D := (dC, dI)) (ci := 5) (v := .ref aM) (C := RX8) (T := TX8) (N := 5) hx hb hts i_X8 hown hK hP 0 rfl rfl 2 (by decide) k_4 (fun _ h9 => h9) rfl dX8_run_36 ?_
        refine lv_iload_n hx hb dX8_run_39 rfl (lv_at hl 2 rfl) ?_
        refine lv_iload_n hx hb dX8_run_40 rfl (lv_at hl 3 rfl) ?_
        refine lv_aload_n hx hb dX8_run_41 rfl (lv_at hl 1 rfl) ?_
        refine va_get (D := (dC, dI)) (ci := 5) (v := .ref zg) (C := RX8) (T := TX8) (N := 5) hx hb hts i_X8 hown hK hP 0 rfl rfl 3 (by decide) k_5 (fun _ h9 => h9) rfl dX8_run_42 ?_
        refine lv_iload_n hx hb dX8_run_45 rfl (lv_at hl 0 rfl) ?_
        refine k_wi (w2 := (fun u_31 : (Nat → Int32) × (Nat → Int32) × (Nat → Int32) × (Nat → Int32) × (Nat → Int32) × (Nat → Int32) × (Nat → Int32) × (Nat → Int32) × (Nat → Int32) × (Int32) × (Int32) × (Int32) × (Int32) × (Int32) × (Int32) × (Int32) × (Int32) × (Int32) × (Int32) × (Int32) × (Int32) × (Int32) × (Int32) => [(aZ, .inr (5, [.ref aP, .ref aU, .ref aM, .ref zg, .int 0])), (aM, .inr (1, [.ref aP, .ref aU, .ref aF, .ref aR, .int ir, .int ev, .int u_31.2.2.2.2.2.2.2.2.2.2.2.2.1, .int u_31.2.2.2.2.2.2.2.2.2.2.2.2.2.1, .int u_31.2.2.2.2.2.2.2.2.2.2.2.2.2.2.2.2.2.1])), (aF, .inr (0, [.ref f0, .ref f1, .ref f2, .ref f3, .ref f4, .ref f5, .ref f6, .int u_31.2.2.2.2.2.2.2.2.2.1, .int u_31.2.2.2.2.2.2.2.2.2.2.1, .int u_31.2.2.2.2.2.2.2.2.2.2.2.1])), (f0, .inl (cI, 26, .inl (sh u_31.2.1))), (f1, .inl (cI, 26, .inl (sh u_31.1))), (f2, .inl (cI, 26, .inl (sh u_31.2.2.1))), (f3, .inl (cI, 26, .inl (sh u_31.2.2.2.1))), (f4, .inl (cI, 26, .inl (sh u_31.2.2.2.2.1))), (f5, .inl (cI, 390, .inl (sw u_31.2.2.2.2.2.1))), (f6, .inl (cI, 60, .inl u_31.2.2.2.2.2.2.1)), (aP, .inr (2, [.ref p0, .ref p1, .ref p2, .ref p3, .ref p4, .ref p5, .int cn])), (p0, .inl (cI, 20, .inl lc)), (p1, .inl (cI, 20, .inl ln)), (p2, .inl (cI, 300, .inl fv)), (p3, .inl (cI, 480, .inl po)), (p4, .inl (cI, 480, .inl pa)), (p5, .inl (cI, 480, .inl pb)), (aU, .inr (4, [.ref u0, .ref u1, .ref u2])), (u0, .inl (cI, 4, .inl ur)), (u1, .inl (cI, 4, .inl u_31.2.2.2.2.2.2.2.1)), (u2, .inl (cI, 40, .inl u_31.2.2.2.2.2.2.2.2.1)), (aR, .inr (3, [.int u_31.2.2.2.2.2.2.2.2.2.2.2.2.2.2.2.2.1, .int u_31.2.2.2.2.2.2.2.2.2.2.2.2.2.2.2.2.2.2.1, .int u_31.2.2.2.2.2.2.2.2.2.2.2.2.2.2.2.2.2.2.2.1, .int u_31.2.2.2.2.2.2.2.2.2.2.2.2.2.2.2.2.2.2.2.2.1, .int u_31.2.2.2.2.2.2.2.2.2.2.2.2.2.2.2.2.2.2.2.2.2.1, .int u_31.2.2.2.2.2.2.2.2.2.2.2.2.2.2.1, .int u_31.2.2.2.2.2.2.2.2.2.2.2.2.2.2.2.1, .int u_31.2.2.2.2.2.2.2.2.2.2.2.2.2.2.2.2.2.2.2.2.2.2])), (zg, .inl (cI, 15, .inl gv))])) (wr := [(aZ, .inr (5, [.ref aP, .ref aU, .ref aM, .ref zg, .int 0]))]) (ci := 1) (q0 := 0) (q := (RX3, TX3, 9)) (As := [.int r, .int fu, .ref zg, .int gn]) (rest := []) ⟨hx, hb, hml, hown, hts⟩ (c_X3_perform l dC dI cI _ aP aU aF aR aM zg p0 p1 p2 p3 p4 p5 u0 u1 u2 f0 f1 f2 f3 f4 f5 f6 lc ln fv po pa pb ur uc un fr pl gc fl ba vs st gv cn op mx tp ir ev iF cs rs en fa ro pp fm sp it mo r gn fu (q_X8_run_7 hcn2 hlc1 hlc2 hln1 hln2 hur hir1 hir2 hg1 hg2 hfr1 hfr3 hfl1 hfl2 hba1 hba2 hsx huc1 huc2 hr_1 c_2 c_4 c_6) (q_X8_run_8 hcn2 hlc1 hlc2 hln1 hln2 hur hir1 hir2 hg1 hg2 hfr1 hfr3 hfl1 hfl2 hba1 hba2 hsx huc1 huc2 hr_1 c_2 c_4 c_6) (q_X8_run_9 hcn2 hlc1 hlc2 hln1 hln2 hur hir1 hir2 hg1 hg2 hfr1 hfr3 hfl1 hfl2 hba1 hba2 hsx huc1 huc2 hr_1 c_2 c_4 c_6) (q_X8_run_10 hcn2 hlc1 hlc2 hln1 hln2 hur hir1 hir2 hg1 hg2 hfr1 hfr3 hfl1 hfl2 hba1 hba2 hsx huc1 huc2 hr_1 c_2 c_4 c_6) (q_X8_run_11 hcn2 hlc1 hlc2 hln1 hln2 hur hir1 hir2 hg1 hg2 hfr1 hfr3 hfl1 hfl2 hba1 hba2 hsx huc1 huc2 hr_1 c_2 c_4 c_6) (q_X8_run_12 hcn2 hlc1 hlc2 hln1 hln2 hur hir1 hir2 hg1 hg2 hfr1 hfr3 hfl1 hfl2 hba1 hba2 hsx huc1 huc2 hr_1 c_2 c_4 c_6) (q_X8_run_13 hcn2 hlc1 hlc2 hln1 hln2 hur hir1 hir2 hg1 hg2 hfr1 hfr3 hfl1 hfl2 hba1 hba2 hsx huc1 huc2 hr_1 c_2 c_4 c_6) (q_X8_run_14 hcn2 hlc1 hlc2 hln1 hln2 hur hir1 hir2 hg1 hg2 hfr1 hfr3 hfl1 hfl2 hba1 hba2 hsx huc1 huc2 hr_1 c_2 c_4 c_6) (q_X8_run_15 hcn2 hlc1 hlc2 hln1 hln2 hur hir1 hir2 hg1 hg2 hfr1 hfr3 hfl1 hfl2 hba1 hba2 hsx huc1 huc2 hr_1 c_2 c_4 c_6) (q_X8_run_16 hcn2 hlc1 hlc2 hln1 hln2 hur hir1 hir2 hg1 hg2 hfr1 hfr3 hfl1 hfl2 hba1 hba2 hsx huc1 huc2 hr_1 c_2 c_4 c_6) (q_X8_run_17 hcn2 hlc1 hlc2 hln1 hln2 hur hir1 hir2 hg1 hg2 hfr1 hfr3 hfl1 hfl2 hba1 hba2 hsx huc1 huc2 hr_1 c_2 c_4 c_6) (q_X8_run_18 hcn2 hlc1 hlc2 hln1 hln2 hur hir1 hir2 hg1 hg2 hfr1 hfr3 hfl1 hfl2 hba1 hba2 hsx huc1 huc2 hr_1 c_2 c_4 c_6) (q_X8_run_19 hcn2 hlc1 hlc2 hln1 hln2 hur hir1 hir2 hg1 hg2 hfr1 hfr3 hfl1 hfl2 hba1 hba2 hsx huc1 huc2 hr_1 c_2 c_4 c_6) (q_X8_run_20 hcn2 hlc1 hlc2 hln1 hln2 hur hir1 hir2 hg1 hg2 hfr1 hfr3 hfl1 hfl2 hba1 hba2 hsx huc1 huc2 hr_1 c_2 c_4 c_6) (q_X8_run_21 hcn2 hlc1 hlc2 hln1 hln2 hur hir1 hir2 hg1 hg2 hfr1 hfr3 hfl1 hfl2 hba1 hba2 hsx huc1 huc2 hr_1 c_2 c_4 c_6) (q_X8_run_22 hcn2 hlc1 hlc2 hln1 hln2 hur hir1 hir2 hg1 hg2 hfr1 hfr3 hfl1 hfl2 hba1 hba2 hsx huc1 huc2 hr_1 c_2 c_4 c_6) (q_X8_run_23 hcn2 hlc1 hlc2 hln1 hln2 hur hir1 hir2 hg1 hg2 hfr1 hfr3 hfl1 hfl2 hba1 hba2 hsx huc1 huc2 hr_1 c_2 c_4 c_6) (q_X8_run_24 hcn2 hlc1 hlc2 hln1 hln2 hur hir1 hir2 hg1 hg2 hfr1 hfr3 hfl1 hfl2 hba1 hba2 hsx huc1 huc2 hr_1 c_2 c_4 c_6) (q_X8_run_25 hcn2 hlc1 hlc2 hln1 hln2 hur hir1 hir2 hg1 hg2 hfr1 hfr3 hfl1 hfl2 hba1 hba2 hsx huc1 huc2 hr_1 c_2 c_4 c_6) (q_X8_run_26 hcn2 hlc1 hlc2 hln1 hln2 hur hir1 hir2 hg1 hg2 hfr1 hfr3 hfl1 hfl2 hba1 hba2 hsx huc1 huc2 hr_1 c_2 c_4 c_6) (q_X8_run_27 hcn2 hlc1 hlc2 hln1 hln2 hur hir1 hir2 hg1 hg2 hfr1 hfr3 hfl1 hfl2 hba1 hba2 hsx huc1 huc2 hr_1 c_2 c_4 c_6) (q_X8_run_28 hcn2 hlc1 hlc2 hln1 hln2 hur hir1 hir2 hg1 hg2 hfr1 hfr3 hfl1 hfl2 hba1 hba2 hsx huc1 huc2 hr_1 c_2 c_4 c_6) (q_X8_run_29 hcn2 hlc1 hlc2 hln1 hln2 hur hir1 hir2 hg1 hg2 hfr1 hfr3 hfl1 hfl2 hba1 hba2 hsx huc1 huc2 hr_1 c_2 c_4 c_6)) (cwV 4 hts gX8_run_X3_perform rfl rfl rfl (by decide +kernel) ⟨Nat.le_of_ble_eq_true rfl, Nat.le_of_ble_eq_true rfl⟩) hK hP hD hS hA [1, 2, 3, 4, 5, 6, 7, 8, 9, 10, 11, 12, 13, 14, 15, 16, 17, 18, 19, 20, 21, 22] [0] [0, 1, 2, 3, 4, 5, 6, 7, 8, 9, 10, 11, 12, 13, 14, 15, 16, 17, 18, 19, 20, 21, 22] rfl rfl (by decide) (fun _ => rfl) rfl rfl rfl hl.1 rfl (Nat.le_of_ble_eq_true rfl) dX8_run_46 ⟨Nat.zero_le _, Nat.zero_le _⟩ (fun r_30 u_31 H locs hr_30 hP hD hS => ?_)
        obtain ⟨pl_32, fr_33, gc_34, fl_35, ba_36, vs_37, st_38, uc_39, un_40, op_41, mx_42, tp_43, iF_44, cs_45, sp_46, it_47, en_48, rs_49, fa_50, ro_51, pp_52, fm_53, mo_54⟩ := u_31
        have hP : va_P (dC, dI) vwCl [(aZ, .inr (5, [.ref aP, .ref aU, .ref aM, .ref zg, .int 0])), (aM, .inr (1, [.ref aP, .ref aU, .ref aF, .ref aR, .int ir, .int ev, .int iF_44, .int cs_45, .int rs_49])), (aF, .inr (0, [.ref f0, .ref f1, .ref f2, .ref f3, .ref f4, .ref f5, .ref f6, .int op_41, .int mx_42, .int tp_43])), (f0, .inl (cI, 26, .inl (sh fr_33))), (f1, .inl (cI, 26, .inl (sh pl_32))), (f2, .inl (cI, 26, .inl (sh gc_34))), (f3, .inl (cI, 26, .inl (sh fl_35))), (f4, .inl (cI, 26, .inl (sh ba_36))), (f5, .inl (cI, 390, .inl (sw vs_37))), (f6, .inl (cI, 60, .inl st_38)), (aP, .inr (2, [.ref p0, .ref p1, .ref p2, .ref p3, .ref p4, .ref p5, .int cn])), (p0, .inl (cI, 20, .inl lc)), (p1, .inl (cI, 20, .inl ln)), (p2, .inl (cI, 300, .inl fv)), (p3, .inl (cI, 480, .inl po)), (p4, .inl (cI, 480, .inl pa)), (p5, .inl (cI, 480, .inl pb)), (aU, .inr (4, [.ref u0, .ref u1, .ref u2])), (u0, .inl (cI, 4, .inl ur)), (u1, .inl (cI, 4, .inl uc_39)), (u2, .inl (cI, 40, .inl un_40)), (aR, .inr (3, [.int en_48, .int fa_50, .int ro_51, .int pp_52, .int fm_53, .int sp_46, .int it_47, .int mo_54])), (zg, .inl (cI, 15, .inl gv))] H := hP
        have hD : va_D A [(aZ, .inr (5, [.ref aP, .ref aU, .ref aM, .ref zg, .int 0])), (aM, .inr (1, [.ref aP, .ref aU, .ref aF, .ref aR, .int ir, .int ev, .int iF_44, .int cs_45, .int rs_49])), (aF, .inr (0, [.ref f0, .ref f1, .ref f2, .ref f3, .ref f4, .ref f5, .ref f6, .int op_41, .int mx_42, .int tp_43])), (f0, .inl (cI, 26, .inl (sh fr_33))), (f1, .inl (cI, 26, .inl (sh pl_32))), (f2, .inl (cI, 26, .inl (sh gc_34))), (f3, .inl (cI, 26, .inl (sh fl_35))), (f4, .inl (cI, 26, .inl (sh ba_36))), (f5, .inl (cI, 390, .inl (sw vs_37))), (f6, .inl (cI, 60, .inl st_38)), (aP, .inr (2, [.ref p0, .ref p1, .ref p2, .ref p3, .ref p4, .ref p5, .int cn])), (p0, .inl (cI, 20, .inl lc)), (p1, .inl (cI, 20, .inl ln)), (p2, .inl (cI, 300, .inl fv)), (p3, .inl (cI, 480, .inl po)), (p4, .inl (cI, 480, .inl pa)), (p5, .inl (cI, 480, .inl pb)), (aU, .inr (4, [.ref u0, .ref u1, .ref u2])), (u0, .inl (cI, 4, .inl ur)), (u1, .inl (cI, 4, .inl uc_39)), (u2, .inl (cI, 40, .inl un_40)), (aR, .inr (3, [.int en_48, .int fa_50, .int ro_51, .int pp_52, .int fm_53, .int sp_46, .int it_47, .int mo_54])), (zg, .inl (cI, 15, .inl gv))] := hD
        have hr_30 : (r_30, pl_32, fr_33, gc_34, fl_35, ba_36, vs_37, st_38, uc_39, un_40, op_41, mx_42, tp_43, iF_44, cs_45, sp_46, it_47, en_48, rs_49, fa_50, ro_51, pp_52, fm_53, mo_54) = f_perf r gn fu ir ev cn rs pl fr gc fl ba vs st uc un lc fv ur ln po pa pb gv := hr_30
        exact e_wi hx hb hr hlocks dX8_run_49 hK hS (pl_32, fr_33, gc_34, fl_35, ba_36, vs_37, st_38, uc_39, un_40, op_41, mx_42, tp_43, iF_44, cs_45, sp_46, it_47, en_48, rs_49, fa_50, ro_51, pp_52, fm_53, mo_54, 0) hP hD (q_X8_run_55 hcn2 hlc1 hlc2 hln1 hln2 hur hir1 hir2 hg1 hg2 hfr1 hfr3 hfl1 hfl2 hba1 hba2 hsx huc1 huc2 hr_1 c_2 c_4 c_6 hr_30)
      · skip
        refine lv_ldc (v := (-40000)) hx hb hown k_2 dX8_run_22 ?_
        exact e_wi hx hb hr hlocks dX8_run_24 hK hS (pl, fr, gc, fl, ba, vs, st, uc, un, op, mx, tp, iF, cs, sp, it, en, rs, fa, ro, pp, fm, mo, gn) hP hD (q_X8_run_56 hcn2 hlc1 hlc2 hln1 hln2 hur hir1 hir2 hg1 hg2 hfr1 hfr3 hfl1 hfl2 hba1 hba2 hsx huc1 huc2 hr_1 c_2 c_4 c_6)
