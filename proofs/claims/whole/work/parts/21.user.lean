theorem q_X7_has_2 {r : Int32} (c_1 : r < 0) : ((0 : Int32) = if 0 ≤ r ∧ r < 4 then 1 else 0) := by
  grind
theorem q_X7_has_4 {r : Int32} (c_1 : ¬ r < 0) (c_3 : 4 ≤ r) : ((0 : Int32) = if 0 ≤ r ∧ r < 4 then 1 else 0) := by
  grind
theorem q_X7_has_5 {r : Int32} (c_1 : ¬ r < 0) (c_3 : ¬ 4 ≤ r) : ((1 : Int32) = if 0 ≤ r ∧ r < 4 then 1 else 0) := by
  grind
set_option maxHeartbeats 4000000 in
set_option maxRecDepth 100000 in
theorem c_X7_has (l : Launch) (dC : Nat → ClassId) (dI : Nat → Nat → Nat) (cI : ClassId) (aU : Nat) (u0 : Nat) (u1 : Nat) (u2 : Nat) (r : Int32)  : mRd l yX7_has wsX7_has ({ frames := 0, cells := 0, slots := 0, locals := 0 }) [.ref aU, .int r] (dC, dI) [(cI, .int)] [(aU, .inr (4, [.ref u0, .ref u1, .ref u2]))] (fun v => (v = if 0 ≤ r ∧ r < 4 then 1 else 0)) := by
  refine o_rd (cc := cX7_has) (maxL := 2) (ret := (some .boolean)) (by decide) rfl (Nat.le_of_ble_eq_true rfl) ?_
  intro p e s m below meth c ls hx hb hr hml hts hown hlocks hP hK hl
  have hown : s.vm.findClass RX7 = some m.cls := hown
  have hl : lv_has ls 2 [(0, .ref aU), (1, .int r)] := hl
  refine lv_iload_n hx hb dX7_has_0 rfl (lv_at hl 1 rfl) ?_
  refine lv_if_lt (tgt := 13) hx hb dX7_has_1 (by decide) (fun c_1 => ?_) (fun c_1 => ?_)
  · skip
    refine lv_iconst (v := 0) hx hb dX7_has_13 (by decide) ?_
    exact e_rdz hx hb hr hlocks dX7_has_14 rfl (q_X7_has_2 c_1)
  · skip
    refine lv_iload_n hx hb dX7_has_4 rfl (lv_at hl 1 rfl) ?_
    refine lv_iconst (v := 4) hx hb dX7_has_5 (by decide) ?_
    refine lv_icmp_ge (tgt := 13) hx hb dX7_has_6 (by decide) (fun c_3 => ?_) (fun c_3 => ?_)
    · skip
      refine lv_iconst (v := 0) hx hb dX7_has_13 (by decide) ?_
      exact e_rdz hx hb hr hlocks dX7_has_14 rfl (q_X7_has_4 c_1 c_3)
    · skip
      refine lv_iconst (v := 1) hx hb dX7_has_9 (by decide) ?_
      refine lv_goto (tgt := 14) hx hb dX7_has_10 (by decide) ?_
      exact e_rdz hx hb hr hlocks dX7_has_14 rfl (q_X7_has_5 c_1 c_3)

theorem q_X7_count_3 {r : Int32} {r_1 : Int32} (hr1 : 0 ≤ r) (hr2 : r < 4) (hr_1 : r_1 = if 0 ≤ r ∧ r < 4 then 1 else 0) (c_2 : r_1 = 0) : False := by
  grind
theorem q_X7_count_4 {r : Int32} {r_1 : Int32} (hr1 : 0 ≤ r) (hr2 : r < 4) (hr_1 : r_1 = if 0 ≤ r ∧ r < 4 then 1 else 0) (c_2 : ¬ r_1 = 0) : vp_in r 4 := by
  exact in_of (c := 4) (by decide) (by grind) (by grind)
theorem q_X7_count_5 {uc : Nat → Int32} {r : Int32} {r_1 : Int32} (hr1 : 0 ≤ r) (hr2 : r < 4) (hr_1 : r_1 = if 0 ≤ r ∧ r < 4 then 1 else 0) (c_2 : ¬ r_1 = 0) : ((uc r.toNatClampNeg) = uc r.toNatClampNeg) := by
  grind
set_option maxHeartbeats 4000000 in
set_option maxRecDepth 100000 in
theorem c_X7_count (l : Launch) (dC : Nat → ClassId) (dI : Nat → Nat → Nat) (cI : ClassId) (aU : Nat) (u0 : Nat) (u1 : Nat) (u2 : Nat) (uc : Nat → Int32) (r : Int32) (hr1 : 0 ≤ r) (hr2 : r < 4) : mRd l yX7_count wsX7_count ({ frames := 1, cells := 0, slots := 0, locals := 21 }) [.ref aU, .int r] (dC, dI) [(cI, .int)] [(aU, .inr (4, [.ref u0, .ref u1, .ref u2])), (u1, .inl (cI, 4, .inl uc))] (fun v => (v = uc r.toNatClampNeg)) := by
  refine o_rd (cc := cX7_count) (maxL := 2) (ret := (some .int)) (by decide) rfl (Nat.le_of_ble_eq_true rfl) ?_
  intro p e s m below meth c ls hx hb hr hml hts hown hlocks hP hK hl
  have hown : s.vm.findClass RX7 = some m.cls := hown
  have hl : lv_has ls 2 [(0, .ref aU), (1, .int r)] := hl
  have k_1 := hts (.fieldLink RX7 15 "ZRoutines$UserStacks" "counts" "[I") (List.mem_of_getElem? (i := 1) rfl)
  have i_X7 : ∀ w ∈ u_ws RX7 TX7 3, w ∈ wsX7_count := fun _ h => List.mem_cons_of_mem _ (List.mem_append_right _ h)
  refine lv_aload_n hx hb dX7_count_0 rfl (lv_at hl 0 rfl) ?_
  refine lv_iload_n hx hb dX7_count_1 rfl (lv_at hl 1 rfl) ?_
  refine k_rd (ci := 4) (q0 := 0) (q := (RX7, TX7, 3)) (As := [.int r]) (rest := []) ⟨hx, hb, hml, hown, hts⟩ (c_X7_has l dC dI cI aU u0 u1 u2 r ) (cwV 1 hts gX7_count_X7_has rfl rfl rfl (by decide +kernel) ⟨Nat.le_of_ble_eq_true rfl, Nat.le_of_ble_eq_true rfl⟩) hK hP [0] rfl rfl rfl rfl hl.1 rfl (Nat.le_of_ble_eq_true rfl) dX7_count_2 ⟨Nat.zero_le _, Nat.zero_le _⟩ (fun r_1 hr_1 => ?_)
  have hr_1 : r_1 = if 0 ≤ r ∧ r < 4 then 1 else 0 := hr_1
  refine lv_if_eq (tgt := 17) hx hb dX7_count_5 (by decide) (fun c_2 => False.elim (q_X7_count_3 hr1 hr2 hr_1 c_2)) (fun c_2 => ?_)
  refine lv_aload_n hx hb dX7_count_8 rfl (lv_at hl 0 rfl) ?_
  refine va_get (D := (dC, dI)) (ci := 4) (v := .ref u1) (C := RX7) (T := TX7) (N := 3) hx hb hts i_X7 hown hK hP 0 rfl rfl 1 (by decide) k_1 (fun _ h9 => h9) rfl dX7_count_9 ?_
  refine lv_iload_n hx hb dX7_count_12 rfl (lv_at hl 1 rfl) ?_
  refine va_iald hx hb hK hP 1 0 rfl rfl (q_X7_count_4 hr1 hr2 hr_1 c_2) dX7_count_13 ?_
  refine lv_goto (tgt := 18) hx hb dX7_count_14 (by decide) ?_
  exact e_rdi hx hb hr hlocks dX7_count_18 (q_X7_count_5 hr1 hr2 hr_1 c_2)

theorem q_X7_emptyWithRoom_3 {r : Int32} {r_1 : Int32} (hr1 : 0 ≤ r) (hr2 : r < 4) (hr_1 : r_1 = if 0 ≤ r ∧ r < 4 then 1 else 0) (c_2 : r_1 = 0) : False := by
  grind
theorem q_X7_emptyWithRoom_4 {r : Int32} {r_1 : Int32} (hr1 : 0 ≤ r) (hr2 : r < 4) (hr_1 : r_1 = if 0 ≤ r ∧ r < 4 then 1 else 0) (c_2 : ¬ r_1 = 0) : vp_in r 4 := by
  exact in_of (c := 4) (by decide) (by grind) (by grind)
theorem q_X7_emptyWithRoom_6 {uc : Nat → Int32} {r : Int32} {r_1 : Int32} {x_5 : Int32} (hr1 : 0 ≤ r) (hr2 : r < 4) (hr_1 : r_1 = if 0 ≤ r ∧ r < 4 then 1 else 0) (c_2 : ¬ r_1 = 0) (ex_5 : x_5 = (uc r.toNatClampNeg)) : vp_in r 4 := by
  exact in_of (c := 4) (by decide) (by grind) (by grind)
theorem q_X7_emptyWithRoom_7 {uc : Nat → Int32} {r : Int32} {r_1 : Int32} {x_5 : Int32} (hr1 : 0 ≤ r) (hr2 : r < 4) (hr_1 : r_1 = if 0 ≤ r ∧ r < 4 then 1 else 0) (c_2 : ¬ r_1 = 0) (ex_5 : x_5 = (uc r.toNatClampNeg)) : vp_in r 4 := by
  exact in_of (c := 4) (by decide) (by grind) (by grind)
theorem q_X7_emptyWithRoom_8 {ur : Nat → Int32} {uc : Nat → Int32} {r : Int32} {k : Int32} {r_1 : Int32} {x_5 : Int32} (hr1 : 0 ≤ r) (hr2 : r < 4) (hr_1 : r_1 = if 0 ≤ r ∧ r < 4 then 1 else 0) (c_2 : ¬ r_1 = 0) (ex_5 : x_5 = (uc r.toNatClampNeg)) : (x_5 = uc r.toNatClampNeg) ∧ ((upd uc r.toNatClampNeg 0) = upd uc r.toNatClampNeg 0) ∧ ((upd ur r.toNatClampNeg k) = upd ur r.toNatClampNeg k) := by
  grind
set_option maxHeartbeats 4000000 in
set_option maxRecDepth 100000 in
theorem c_X7_emptyWithRoom (l : Launch) (dC : Nat → ClassId) (dI : Nat → Nat → Nat) (cI : ClassId) (sz : Nat) (aU : Nat) (u0 : Nat) (u1 : Nat) (u2 : Nat) (ur : Nat → Int32) (uc : Nat → Int32) (r : Int32) (k : Int32) (hr1 : 0 ≤ r) (hr2 : r < 4) : mWi l yX7_emptyWithRoom wsX7_emptyWithRoom ({ frames := 1, cells := 0, slots := 0, locals := 21 }) [.ref aU, .int r, .int k] (dC, dI) [(cI, .int)] [(aU, .inr (4, [.ref u0, .ref u1, .ref u2])), (u0, .inl (cI, 4, .inl ur)), (u1, .inl (cI, 4, .inl uc))] sz (fun (v : Int32) (u : (Nat → Int32) × (Nat → Int32)) => (v = uc r.toNatClampNeg) ∧ (u.1 = upd uc r.toNatClampNeg 0) ∧ (u.2 = upd ur r.toNatClampNeg k)) (fun u : (Nat → Int32) × (Nat → Int32) => [(aU, .inr (4, [.ref u0, .ref u1, .ref u2])), (u0, .inl (cI, 4, .inl u.2)), (u1, .inl (cI, 4, .inl u.1))]) := by
  refine o_wi (cc := cX7_emptyWithRoom) (maxL := 4) (ret := (some .int)) (by decide) rfl (Nat.le_of_ble_eq_true rfl) ?_
  intro p e s m below meth c ls A hx hb hr hml hts hown hlocks hP hK hD hS hA hl
  have hown : s.vm.findClass RX7 = some m.cls := hown
  have hl : lv_has ls 4 [(0, .ref aU), (1, .int r), (2, .int k)] := hl
  have k_1 := hts (.fieldLink RX7 15 "ZRoutines$UserStacks" "counts" "[I") (List.mem_of_getElem? (i := 1) rfl)
  have k_2 := hts (.fieldLink RX7 9 "ZRoutines$UserStacks" "rooms" "[I") (List.mem_of_getElem? (i := 2) rfl)
  have i_X7 : ∀ w ∈ u_ws RX7 TX7 3, w ∈ wsX7_emptyWithRoom := fun _ h => List.mem_cons_of_mem _ (List.mem_append_right _ h)
  refine lv_aload_n hx hb dX7_emptyWithRoom_0 rfl (lv_at hl 0 rfl) ?_
  refine lv_iload_n hx hb dX7_emptyWithRoom_1 rfl (lv_at hl 1 rfl) ?_
  refine k_rd (ci := 4) (q0 := 0) (q := (RX7, TX7, 3)) (As := [.int r]) (rest := []) ⟨hx, hb, hml, hown, hts⟩ (c_X7_has l dC dI cI aU u0 u1 u2 r ) (cwV 1 hts gX7_emptyWithRoom_X7_has rfl rfl rfl (by decide +kernel) ⟨Nat.le_of_ble_eq_true rfl, Nat.le_of_ble_eq_true rfl⟩) hK hP [0] rfl rfl rfl rfl hl.1 rfl (Nat.le_of_ble_eq_true rfl) dX7_emptyWithRoom_2 ⟨Nat.zero_le _, Nat.zero_le _⟩ (fun r_1 hr_1 => ?_)
  have hr_1 : r_1 = if 0 ≤ r ∧ r < 4 then 1 else 0 := hr_1
  refine lv_if_ne (tgt := 10) hx hb dX7_emptyWithRoom_5 (by decide) (fun c_2 => ?_) (fun c_2 => False.elim (q_X7_emptyWithRoom_3 hr1 hr2 hr_1 c_2))
  refine lv_aload_n hx hb dX7_emptyWithRoom_10 rfl (lv_at hl 0 rfl) ?_
  refine va_get (D := (dC, dI)) (ci := 4) (v := .ref u1) (C := RX7) (T := TX7) (N := 3) hx hb hts i_X7 hown hK hP 0 rfl rfl 1 (by decide) k_1 (fun _ h9 => h9) rfl dX7_emptyWithRoom_11 ?_
  refine lv_iload_n hx hb dX7_emptyWithRoom_14 rfl (lv_at hl 1 rfl) ?_
  refine va_iald hx hb hK hP 2 0 rfl rfl (q_X7_emptyWithRoom_4 hr1 hr2 hr_1 c_2) dX7_emptyWithRoom_15 ?_
  refine lv_topi (fun x_5 ex_5 => ?_)
  refine lv_istore_n (lv' := [(3, .int x_5), (0, .ref aU), (1, .int r), (2, .int k)]) hx hb dX7_emptyWithRoom_16 rfl hl (by decide) rfl (fun ls hl => ?_)
  refine lv_aload_n hx hb dX7_emptyWithRoom_17 rfl (lv_at hl 1 rfl) ?_
  refine va_get (D := (dC, dI)) (ci := 4) (v := .ref u1) (C := RX7) (T := TX7) (N := 3) hx hb hts i_X7 hown hK hP 0 rfl rfl 1 (by decide) k_1 (fun _ h9 => h9) rfl dX7_emptyWithRoom_18 ?_
  refine lv_iload_n hx hb dX7_emptyWithRoom_21 rfl (lv_at hl 2 rfl) ?_
  refine lv_iconst (v := 0) hx hb dX7_emptyWithRoom_22 (by decide) ?_
  refine va_iast hx hb hK hP hD hS 2 0 rfl rfl (q_X7_emptyWithRoom_6 hr1 hr2 hr_1 c_2 ex_5) dX7_emptyWithRoom_23 (fun H locs hP hD hS => ?_)
  have hP : va_P (dC, dI) vwCl [(aU, .inr (4, [.ref u0, .ref u1, .ref u2])), (u0, .inl (cI, 4, .inl ur)), (u1, .inl (cI, 4, .inl (upd uc r.toNatClampNeg 0)))] H := hP
  have hD : va_D A [(aU, .inr (4, [.ref u0, .ref u1, .ref u2])), (u0, .inl (cI, 4, .inl ur)), (u1, .inl (cI, 4, .inl (upd uc r.toNatClampNeg 0)))] := hD
  refine lv_aload_n hx hb dX7_emptyWithRoom_24 rfl (lv_at hl 1 rfl) ?_
  refine va_get (D := (dC, dI)) (ci := 4) (v := .ref u0) (C := RX7) (T := TX7) (N := 3) hx hb hts i_X7 hown hK hP 0 rfl rfl 0 (by decide) k_2 (fun _ h9 => h9) rfl dX7_emptyWithRoom_25 ?_
  refine lv_iload_n hx hb dX7_emptyWithRoom_28 rfl (lv_at hl 2 rfl) ?_
  refine lv_iload_n hx hb dX7_emptyWithRoom_29 rfl (lv_at hl 3 rfl) ?_
  refine va_iast hx hb hK hP hD hS 1 0 rfl rfl (q_X7_emptyWithRoom_7 hr1 hr2 hr_1 c_2 ex_5) dX7_emptyWithRoom_30 (fun H locs hP hD hS => ?_)
  have hP : va_P (dC, dI) vwCl [(aU, .inr (4, [.ref u0, .ref u1, .ref u2])), (u0, .inl (cI, 4, .inl (upd ur r.toNatClampNeg k))), (u1, .inl (cI, 4, .inl (upd uc r.toNatClampNeg 0)))] H := hP
  have hD : va_D A [(aU, .inr (4, [.ref u0, .ref u1, .ref u2])), (u0, .inl (cI, 4, .inl (upd ur r.toNatClampNeg k))), (u1, .inl (cI, 4, .inl (upd uc r.toNatClampNeg 0)))] := hD
  refine lv_iload_n hx hb dX7_emptyWithRoom_31 rfl (lv_at hl 0 rfl) ?_
  exact e_wi hx hb hr hlocks dX7_emptyWithRoom_32 hK hS (upd uc r.toNatClampNeg 0, upd ur r.toNatClampNeg k) hP hD (q_X7_emptyWithRoom_8 hr1 hr2 hr_1 c_2 ex_5)

theorem q_X7_hasNumber_3 {r : Int32} {r_1 : Int32} (hr1 : 0 ≤ r) (hr2 : r < 4) (hr_1 : r_1 = if 0 ≤ r ∧ r < 4 then 1 else 0) (c_2 : r_1 = 0) : False := by
  grind
theorem q_X7_hasNumber_5 {uc : Nat → Int32} {r : Int32} {k : Int32} {r_1 : Int32} (hr1 : 0 ≤ r) (hr2 : r < 4) (hr_1 : r_1 = if 0 ≤ r ∧ r < 4 then 1 else 0) (c_2 : ¬ r_1 = 0) (c_4 : k < 0) : ((0 : Int32) = if 0 ≤ k ∧ k < uc r.toNatClampNeg then 1 else 0) := by
  grind
theorem q_X7_hasNumber_6 {r : Int32} {k : Int32} {r_1 : Int32} (hr1 : 0 ≤ r) (hr2 : r < 4) (hr_1 : r_1 = if 0 ≤ r ∧ r < 4 then 1 else 0) (c_2 : ¬ r_1 = 0) (c_4 : ¬ k < 0) : vp_in r 4 := by
  exact in_of (c := 4) (by decide) (by grind) (by grind)
theorem q_X7_hasNumber_8 {uc : Nat → Int32} {r : Int32} {k : Int32} {r_1 : Int32} (hr1 : 0 ≤ r) (hr2 : r < 4) (hr_1 : r_1 = if 0 ≤ r ∧ r < 4 then 1 else 0) (c_2 : ¬ r_1 = 0) (c_4 : ¬ k < 0) (c_7 : (uc r.toNatClampNeg) ≤ k) : ((0 : Int32) = if 0 ≤ k ∧ k < uc r.toNatClampNeg then 1 else 0) := by
  grind
theorem q_X7_hasNumber_9 {uc : Nat → Int32} {r : Int32} {k : Int32} {r_1 : Int32} (hr1 : 0 ≤ r) (hr2 : r < 4) (hr_1 : r_1 = if 0 ≤ r ∧ r < 4 then 1 else 0) (c_2 : ¬ r_1 = 0) (c_4 : ¬ k < 0) (c_7 : ¬ (uc r.toNatClampNeg) ≤ k) : ((1 : Int32) = if 0 ≤ k ∧ k < uc r.toNatClampNeg then 1 else 0) := by
  grind
set_option maxHeartbeats 4000000 in
set_option maxRecDepth 100000 in
theorem c_X7_hasNumber (l : Launch) (dC : Nat → ClassId) (dI : Nat → Nat → Nat) (cI : ClassId) (aU : Nat) (u0 : Nat) (u1 : Nat) (u2 : Nat) (uc : Nat → Int32) (r : Int32) (k : Int32) (hr1 : 0 ≤ r) (hr2 : r < 4) : mRd l yX7_hasNumber wsX7_hasNumber ({ frames := 1, cells := 0, slots := 0, locals := 21 }) [.ref aU, .int r, .int k] (dC, dI) [(cI, .int)] [(aU, .inr (4, [.ref u0, .ref u1, .ref u2])), (u1, .inl (cI, 4, .inl uc))] (fun v => (v = if 0 ≤ k ∧ k < uc r.toNatClampNeg then 1 else 0)) := by
  refine o_rd (cc := cX7_hasNumber) (maxL := 3) (ret := (some .boolean)) (by decide) rfl (Nat.le_of_ble_eq_true rfl) ?_
  intro p e s m below meth c ls hx hb hr hml hts hown hlocks hP hK hl
  have hown : s.vm.findClass RX7 = some m.cls := hown
  have hl : lv_has ls 3 [(0, .ref aU), (1, .int r), (2, .int k)] := hl
  have k_1 := hts (.fieldLink RX7 15 "ZRoutines$UserStacks" "counts" "[I") (List.mem_of_getElem? (i := 1) rfl)
  have i_X7 : ∀ w ∈ u_ws RX7 TX7 3, w ∈ wsX7_hasNumber := fun _ h => List.mem_cons_of_mem _ (List.mem_append_right _ h)
  refine lv_aload_n hx hb dX7_hasNumber_0 rfl (lv_at hl 0 rfl) ?_
  refine lv_iload_n hx hb dX7_hasNumber_1 rfl (lv_at hl 1 rfl) ?_
  refine k_rd (ci := 4) (q0 := 0) (q := (RX7, TX7, 3)) (As := [.int r]) (rest := []) ⟨hx, hb, hml, hown, hts⟩ (c_X7_has l dC dI cI aU u0 u1 u2 r ) (cwV 1 hts gX7_hasNumber_X7_has rfl rfl rfl (by decide +kernel) ⟨Nat.le_of_ble_eq_true rfl, Nat.le_of_ble_eq_true rfl⟩) hK hP [0] rfl rfl rfl rfl hl.1 rfl (Nat.le_of_ble_eq_true rfl) dX7_hasNumber_2 ⟨Nat.zero_le _, Nat.zero_le _⟩ (fun r_1 hr_1 => ?_)
  have hr_1 : r_1 = if 0 ≤ r ∧ r < 4 then 1 else 0 := hr_1
  refine lv_if_eq (tgt := 26) hx hb dX7_hasNumber_5 (by decide) (fun c_2 => False.elim (q_X7_hasNumber_3 hr1 hr2 hr_1 c_2)) (fun c_2 => ?_)
  refine lv_iload_n hx hb dX7_hasNumber_8 rfl (lv_at hl 2 rfl) ?_
  refine lv_if_lt (tgt := 26) hx hb dX7_hasNumber_9 (by decide) (fun c_4 => ?_) (fun c_4 => ?_)
  · skip
    refine lv_iconst (v := 0) hx hb dX7_hasNumber_26 (by decide) ?_
    exact e_rdz hx hb hr hlocks dX7_hasNumber_27 rfl (q_X7_hasNumber_5 hr1 hr2 hr_1 c_2 c_4)
  · skip
    refine lv_iload_n hx hb dX7_hasNumber_12 rfl (lv_at hl 2 rfl) ?_
    refine lv_aload_n hx hb dX7_hasNumber_13 rfl (lv_at hl 0 rfl) ?_
    refine va_get (D := (dC, dI)) (ci := 4) (v := .ref u1) (C := RX7) (T := TX7) (N := 3) hx hb hts i_X7 hown hK hP 0 rfl rfl 1 (by decide) k_1 (fun _ h9 => h9) rfl dX7_hasNumber_14 ?_
    refine lv_iload_n hx hb dX7_hasNumber_17 rfl (lv_at hl 1 rfl) ?_
    refine va_iald hx hb hK hP 1 0 rfl rfl (q_X7_hasNumber_6 hr1 hr2 hr_1 c_2 c_4) dX7_hasNumber_18 ?_
    refine lv_icmp_ge (tgt := 26) hx hb dX7_hasNumber_19 (by decide) (fun c_7 => ?_) (fun c_7 => ?_)
    · skip
      refine lv_iconst (v := 0) hx hb dX7_hasNumber_26 (by decide) ?_
      exact e_rdz hx hb hr hlocks dX7_hasNumber_27 rfl (q_X7_hasNumber_8 hr1 hr2 hr_1 c_2 c_4 c_7)
    · skip
      refine lv_iconst (v := 1) hx hb dX7_hasNumber_22 (by decide) ?_
      refine lv_goto (tgt := 27) hx hb dX7_hasNumber_23 (by decide) ?_
      exact e_rdz hx hb hr hlocks dX7_hasNumber_27 rfl (q_X7_hasNumber_9 hr1 hr2 hr_1 c_2 c_4 c_7)

theorem q_X7_fromTop_1 {uc : Nat → Int32} {r : Int32} {k : Int32} (hr1 : 0 ≤ r) (hr2 : r < 4) (hk1 : 0 ≤ k) (hk2 : k < uc r.toNatClampNeg) (hu : uc r.toNatClampNeg ≤ 10) : 0 ≤ r := by
  grind
theorem q_X7_fromTop_2 {uc : Nat → Int32} {r : Int32} {k : Int32} (hr1 : 0 ≤ r) (hr2 : r < 4) (hk1 : 0 ≤ k) (hk2 : k < uc r.toNatClampNeg) (hu : uc r.toNatClampNeg ≤ 10) : r < 4 := by
  grind
theorem q_X7_fromTop_5 {uc : Nat → Int32} {r : Int32} {k : Int32} {r_3 : Int32} (hr1 : 0 ≤ r) (hr2 : r < 4) (hk1 : 0 ≤ k) (hk2 : k < uc r.toNatClampNeg) (hu : uc r.toNatClampNeg ≤ 10) (hr_3 : r_3 = if 0 ≤ k ∧ k < uc r.toNatClampNeg then 1 else 0) (c_4 : r_3 = 0) : False := by
  grind
theorem q_X7_fromTop_6 {uc : Nat → Int32} {r : Int32} {k : Int32} {r_3 : Int32} (hr1 : 0 ≤ r) (hr2 : r < 4) (hk1 : 0 ≤ k) (hk2 : k < uc r.toNatClampNeg) (hu : uc r.toNatClampNeg ≤ 10) (hr_3 : r_3 = if 0 ≤ k ∧ k < uc r.toNatClampNeg then 1 else 0) (c_4 : ¬ r_3 = 0) : vp_in r 4 := by
  exact in_of (c := 4) (by decide) (by grind) (by grind)
theorem q_X7_fromTop_7 {uc : Nat → Int32} {r : Int32} {k : Int32} {r_3 : Int32} (hr1 : 0 ≤ r) (hr2 : r < 4) (hk1 : 0 ≤ k) (hk2 : k < uc r.toNatClampNeg) (hu : uc r.toNatClampNeg ≤ 10) (hr_3 : r_3 = if 0 ≤ k ∧ k < uc r.toNatClampNeg then 1 else 0) (c_4 : ¬ r_3 = 0) : vp_in ((((r * 10) + (uc r.toNatClampNeg)) - 1) - k) 40 := by
  exact in_of (c := 40) (by decide) (by grind) (by grind)
theorem q_X7_fromTop_8 {uc : Nat → Int32} {un : Nat → Int32} {r : Int32} {k : Int32} {r_3 : Int32} (hr1 : 0 ≤ r) (hr2 : r < 4) (hk1 : 0 ≤ k) (hk2 : k < uc r.toNatClampNeg) (hu : uc r.toNatClampNeg ≤ 10) (hr_3 : r_3 = if 0 ≤ k ∧ k < uc r.toNatClampNeg then 1 else 0) (c_4 : ¬ r_3 = 0) : ((un ((((r * 10) + (uc r.toNatClampNeg)) - 1) - k).toNatClampNeg) = un (r * 10 + uc r.toNatClampNeg - 1 - k).toNatClampNeg) := by
  grind
set_option maxHeartbeats 4000000 in
set_option maxRecDepth 100000 in
theorem c_X7_fromTop (l : Launch) (dC : Nat → ClassId) (dI : Nat → Nat → Nat) (cI : ClassId) (aU : Nat) (u0 : Nat) (u1 : Nat) (u2 : Nat) (uc : Nat → Int32) (un : Nat → Int32) (r : Int32) (k : Int32) (hr1 : 0 ≤ r) (hr2 : r < 4) (hk1 : 0 ≤ k) (hk2 : k < uc r.toNatClampNeg) (hu : uc r.toNatClampNeg ≤ 10) : mRd l yX7_fromTop wsX7_fromTop ({ frames := 2, cells := 0, slots := 0, locals := 43 }) [.ref aU, .int r, .int k] (dC, dI) [(cI, .int)] [(aU, .inr (4, [.ref u0, .ref u1, .ref u2])), (u1, .inl (cI, 4, .inl uc)), (u2, .inl (cI, 40, .inl un))] (fun v => (v = un (r * 10 + uc r.toNatClampNeg - 1 - k).toNatClampNeg)) := by
  refine o_rd (cc := cX7_fromTop) (maxL := 3) (ret := (some .int)) (by decide) rfl (Nat.le_of_ble_eq_true rfl) ?_
  intro p e s m below meth c ls hx hb hr hml hts hown hlocks hP hK hl
  have hown : s.vm.findClass RX7 = some m.cls := hown
  have hl : lv_has ls 3 [(0, .ref aU), (1, .int r), (2, .int k)] := hl
  have k_1 := hts (.fieldLink RX7 18 "ZRoutines$UserStacks" "numbers" "[I") (List.mem_of_getElem? (i := 1) rfl)
  have k_2 := hts (.fieldLink RX7 15 "ZRoutines$UserStacks" "counts" "[I") (List.mem_of_getElem? (i := 2) rfl)
  have i_X7 : ∀ w ∈ u_ws RX7 TX7 3, w ∈ wsX7_fromTop := fun _ h => List.mem_cons_of_mem _ (List.mem_append_right _ h)
  refine lv_aload_n hx hb dX7_fromTop_0 rfl (lv_at hl 0 rfl) ?_
  refine lv_iload_n hx hb dX7_fromTop_1 rfl (lv_at hl 1 rfl) ?_
  refine lv_iload_n hx hb dX7_fromTop_2 rfl (lv_at hl 2 rfl) ?_
  refine k_rd (ci := 4) (q0 := 0) (q := (RX7, TX7, 3)) (As := [.int r, .int k]) (rest := []) ⟨hx, hb, hml, hown, hts⟩ (c_X7_hasNumber l dC dI cI aU u0 u1 u2 uc r k (q_X7_fromTop_1 hr1 hr2 hk1 hk2 hu) (q_X7_fromTop_2 hr1 hr2 hk1 hk2 hu)) (cwV 2 hts gX7_fromTop_X7_hasNumber rfl rfl rfl (by decide +kernel) ⟨Nat.le_of_ble_eq_true rfl, Nat.le_of_ble_eq_true rfl⟩) hK hP [0, 1] rfl rfl rfl rfl hl.1 rfl (Nat.le_of_ble_eq_true rfl) dX7_fromTop_3 ⟨Nat.zero_le _, Nat.zero_le _⟩ (fun r_3 hr_3 => ?_)
  have hr_3 : r_3 = if 0 ≤ k ∧ k < uc r.toNatClampNeg then 1 else 0 := hr_3
  refine lv_if_eq (tgt := 32) hx hb dX7_fromTop_6 (by decide) (fun c_4 => False.elim (q_X7_fromTop_5 hr1 hr2 hk1 hk2 hu hr_3 c_4)) (fun c_4 => ?_)
  refine lv_aload_n hx hb dX7_fromTop_9 rfl (lv_at hl 0 rfl) ?_
  refine va_get (D := (dC, dI)) (ci := 4) (v := .ref u2) (C := RX7) (T := TX7) (N := 3) hx hb hts i_X7 hown hK hP 0 rfl rfl 2 (by decide) k_1 (fun _ h9 => h9) rfl dX7_fromTop_10 ?_
  refine lv_iload_n hx hb dX7_fromTop_13 rfl (lv_at hl 1 rfl) ?_
  refine lv_bipush (v := 10) hx hb dX7_fromTop_14 (by decide) ?_
  refine lv_imul hx hb dX7_fromTop_16 ?_
  refine lv_aload_n hx hb dX7_fromTop_17 rfl (lv_at hl 0 rfl) ?_
  refine va_get (D := (dC, dI)) (ci := 4) (v := .ref u1) (C := RX7) (T := TX7) (N := 3) hx hb hts i_X7 hown hK hP 0 rfl rfl 1 (by decide) k_2 (fun _ h9 => h9) rfl dX7_fromTop_18 ?_
  refine lv_iload_n hx hb dX7_fromTop_21 rfl (lv_at hl 1 rfl) ?_
  refine va_iald hx hb hK hP 1 0 rfl rfl (q_X7_fromTop_6 hr1 hr2 hk1 hk2 hu hr_3 c_4) dX7_fromTop_22 ?_
  refine lv_iadd hx hb dX7_fromTop_23 ?_
  refine lv_iconst (v := 1) hx hb dX7_fromTop_24 (by decide) ?_
  refine lv_isub hx hb dX7_fromTop_25 ?_
  refine lv_iload_n hx hb dX7_fromTop_26 rfl (lv_at hl 2 rfl) ?_
  refine lv_isub hx hb dX7_fromTop_27 ?_
  refine va_iald hx hb hK hP 2 0 rfl rfl (q_X7_fromTop_7 hr1 hr2 hk1 hk2 hu hr_3 c_4) dX7_fromTop_28 ?_
  refine lv_goto (tgt := 33) hx hb dX7_fromTop_29 (by decide) ?_
  exact e_rdi hx hb hr hlocks dX7_fromTop_33 (q_X7_fromTop_8 hr1 hr2 hk1 hk2 hu hr_3 c_4)

theorem q_X7_put_3 {ur : Nat → Int32} {uc : Nat → Int32} {r : Int32} {r_1 : Int32} (hr1 : 0 ≤ r) (hr2 : r < 4) (hu1 : 0 ≤ uc r.toNatClampNeg) (hu2 : ur r.toNatClampNeg ≤ 10) (hr_1 : r_1 = if 0 ≤ r ∧ r < 4 then 1 else 0) (c_2 : r_1 = 0) : False := by
  grind
theorem q_X7_put_4 {ur : Nat → Int32} {uc : Nat → Int32} {r : Int32} {r_1 : Int32} (hr1 : 0 ≤ r) (hr2 : r < 4) (hu1 : 0 ≤ uc r.toNatClampNeg) (hu2 : ur r.toNatClampNeg ≤ 10) (hr_1 : r_1 = if 0 ≤ r ∧ r < 4 then 1 else 0) (c_2 : ¬ r_1 = 0) : vp_in r 4 := by
  exact in_of (c := 4) (by decide) (by grind) (by grind)
theorem q_X7_put_5 {ur : Nat → Int32} {uc : Nat → Int32} {r : Int32} {r_1 : Int32} (hr1 : 0 ≤ r) (hr2 : r < 4) (hu1 : 0 ≤ uc r.toNatClampNeg) (hu2 : ur r.toNatClampNeg ≤ 10) (hr_1 : r_1 = if 0 ≤ r ∧ r < 4 then 1 else 0) (c_2 : ¬ r_1 = 0) : vp_in r 4 := by
  exact in_of (c := 4) (by decide) (by grind) (by grind)
theorem q_X7_put_7 {ur : Nat → Int32} {uc : Nat → Int32} {r : Int32} {r_1 : Int32} (hr1 : 0 ≤ r) (hr2 : r < 4) (hu1 : 0 ≤ uc r.toNatClampNeg) (hu2 : ur r.toNatClampNeg ≤ 10) (hr_1 : r_1 = if 0 ≤ r ∧ r < 4 then 1 else 0) (c_2 : ¬ r_1 = 0) (c_6 : (uc r.toNatClampNeg) < (ur r.toNatClampNeg)) : vp_in r 4 := by
  exact in_of (c := 4) (by decide) (by grind) (by grind)
theorem q_X7_put_8 {ur : Nat → Int32} {uc : Nat → Int32} {r : Int32} {r_1 : Int32} (hr1 : 0 ≤ r) (hr2 : r < 4) (hu1 : 0 ≤ uc r.toNatClampNeg) (hu2 : ur r.toNatClampNeg ≤ 10) (hr_1 : r_1 = if 0 ≤ r ∧ r < 4 then 1 else 0) (c_2 : ¬ r_1 = 0) (c_6 : (uc r.toNatClampNeg) < (ur r.toNatClampNeg)) : vp_in ((r * 10) + (uc r.toNatClampNeg)) 40 := by
  exact in_of (c := 40) (by decide) (by grind) (by grind)
theorem q_X7_put_9 {ur : Nat → Int32} {uc : Nat → Int32} {r : Int32} {r_1 : Int32} (hr1 : 0 ≤ r) (hr2 : r < 4) (hu1 : 0 ≤ uc r.toNatClampNeg) (hu2 : ur r.toNatClampNeg ≤ 10) (hr_1 : r_1 = if 0 ≤ r ∧ r < 4 then 1 else 0) (c_2 : ¬ r_1 = 0) (c_6 : (uc r.toNatClampNeg) < (ur r.toNatClampNeg)) : vp_in r 4 := by
  exact in_of (c := 4) (by decide) (by grind) (by grind)
theorem q_X7_put_10 {ur : Nat → Int32} {uc : Nat → Int32} {r : Int32} {r_1 : Int32} (hr1 : 0 ≤ r) (hr2 : r < 4) (hu1 : 0 ≤ uc r.toNatClampNeg) (hu2 : ur r.toNatClampNeg ≤ 10) (hr_1 : r_1 = if 0 ≤ r ∧ r < 4 then 1 else 0) (c_2 : ¬ r_1 = 0) (c_6 : (uc r.toNatClampNeg) < (ur r.toNatClampNeg)) : vp_in r 4 := by
  exact in_of (c := 4) (by decide) (by grind) (by grind)
theorem q_X7_put_11 {ur : Nat → Int32} {uc : Nat → Int32} {un : Nat → Int32} {r : Int32} {k : Int32} {r_1 : Int32} (hr1 : 0 ≤ r) (hr2 : r < 4) (hu1 : 0 ≤ uc r.toNatClampNeg) (hu2 : ur r.toNatClampNeg ≤ 10) (hr_1 : r_1 = if 0 ≤ r ∧ r < 4 then 1 else 0) (c_2 : ¬ r_1 = 0) (c_6 : (uc r.toNatClampNeg) < (ur r.toNatClampNeg)) : ((1 : Int32) = if uc r.toNatClampNeg < ur r.toNatClampNeg then 1 else 0) ∧ ((upd uc r.toNatClampNeg ((uc r.toNatClampNeg) + 1)) = if uc r.toNatClampNeg < ur r.toNatClampNeg then upd uc r.toNatClampNeg (uc r.toNatClampNeg + 1) else uc) ∧ ((upd un ((r * 10) + (uc r.toNatClampNeg)).toNatClampNeg k) = if uc r.toNatClampNeg < ur r.toNatClampNeg then upd un (r * 10 + uc r.toNatClampNeg).toNatClampNeg k else un) := by
  grind
theorem q_X7_put_12 {ur : Nat → Int32} {uc : Nat → Int32} {un : Nat → Int32} {r : Int32} {k : Int32} {r_1 : Int32} (hr1 : 0 ≤ r) (hr2 : r < 4) (hu1 : 0 ≤ uc r.toNatClampNeg) (hu2 : ur r.toNatClampNeg ≤ 10) (hr_1 : r_1 = if 0 ≤ r ∧ r < 4 then 1 else 0) (c_2 : ¬ r_1 = 0) (c_6 : ¬ (uc r.toNatClampNeg) < (ur r.toNatClampNeg)) : ((0 : Int32) = if uc r.toNatClampNeg < ur r.toNatClampNeg then 1 else 0) ∧ (uc = if uc r.toNatClampNeg < ur r.toNatClampNeg then upd uc r.toNatClampNeg (uc r.toNatClampNeg + 1) else uc) ∧ (un = if uc r.toNatClampNeg < ur r.toNatClampNeg then upd un (r * 10 + uc r.toNatClampNeg).toNatClampNeg k else un) := by
  grind
set_option maxHeartbeats 4000000 in
set_option maxRecDepth 100000 in
theorem c_X7_put (l : Launch) (dC : Nat → ClassId) (dI : Nat → Nat → Nat) (cI : ClassId) (sz : Nat) (aU : Nat) (u0 : Nat) (u1 : Nat) (u2 : Nat) (ur : Nat → Int32) (uc : Nat → Int32) (un : Nat → Int32) (r : Int32) (k : Int32) (hr1 : 0 ≤ r) (hr2 : r < 4) (hu1 : 0 ≤ uc r.toNatClampNeg) (hu2 : ur r.toNatClampNeg ≤ 10) : mWi l yX7_put wsX7_put ({ frames := 1, cells := 0, slots := 0, locals := 21 }) [.ref aU, .int r, .int k] (dC, dI) [(cI, .int)] [(aU, .inr (4, [.ref u0, .ref u1, .ref u2])), (u0, .inl (cI, 4, .inl ur)), (u1, .inl (cI, 4, .inl uc)), (u2, .inl (cI, 40, .inl un))] sz (fun (v : Int32) (u : (Nat → Int32) × (Nat → Int32)) => (v = if uc r.toNatClampNeg < ur r.toNatClampNeg then 1 else 0) ∧ (u.1 = if uc r.toNatClampNeg < ur r.toNatClampNeg then upd uc r.toNatClampNeg (uc r.toNatClampNeg + 1) else uc) ∧ (u.2 = if uc r.toNatClampNeg < ur r.toNatClampNeg then upd un (r * 10 + uc r.toNatClampNeg).toNatClampNeg k else un)) (fun u : (Nat → Int32) × (Nat → Int32) => [(aU, .inr (4, [.ref u0, .ref u1, .ref u2])), (u0, .inl (cI, 4, .inl ur)), (u1, .inl (cI, 4, .inl u.1)), (u2, .inl (cI, 40, .inl u.2))]) := by
  refine o_wi (cc := cX7_put) (maxL := 3) (ret := (some .boolean)) (by decide) rfl (Nat.le_of_ble_eq_true rfl) ?_
  intro p e s m below meth c ls A hx hb hr hml hts hown hlocks hP hK hD hS hA hl
  have hown : s.vm.findClass RX7 = some m.cls := hown
  have hl : lv_has ls 3 [(0, .ref aU), (1, .int r), (2, .int k)] := hl
  have k_1 := hts (.fieldLink RX7 15 "ZRoutines$UserStacks" "counts" "[I") (List.mem_of_getElem? (i := 1) rfl)
  have k_2 := hts (.fieldLink RX7 9 "ZRoutines$UserStacks" "rooms" "[I") (List.mem_of_getElem? (i := 2) rfl)
  have k_3 := hts (.fieldLink RX7 18 "ZRoutines$UserStacks" "numbers" "[I") (List.mem_of_getElem? (i := 3) rfl)
  have i_X7 : ∀ w ∈ u_ws RX7 TX7 3, w ∈ wsX7_put := fun _ h => List.mem_cons_of_mem _ (List.mem_append_right _ h)
  refine lv_aload_n hx hb dX7_put_0 rfl (lv_at hl 0 rfl) ?_
  refine lv_iload_n hx hb dX7_put_1 rfl (lv_at hl 1 rfl) ?_
  refine k_rd (ci := 4) (q0 := 0) (q := (RX7, TX7, 3)) (As := [.int r]) (rest := []) ⟨hx, hb, hml, hown, hts⟩ (c_X7_has l dC dI cI aU u0 u1 u2 r ) (cwV 1 hts gX7_put_X7_has rfl rfl rfl (by decide +kernel) ⟨Nat.le_of_ble_eq_true rfl, Nat.le_of_ble_eq_true rfl⟩) hK hP [0] rfl rfl rfl rfl hl.1 rfl (Nat.le_of_ble_eq_true rfl) dX7_put_2 ⟨Nat.zero_le _, Nat.zero_le _⟩ (fun r_1 hr_1 => ?_)
  have hr_1 : r_1 = if 0 ≤ r ∧ r < 4 then 1 else 0 := hr_1
  refine lv_if_eq (tgt := 23) hx hb dX7_put_5 (by decide) (fun c_2 => False.elim (q_X7_put_3 hr1 hr2 hu1 hu2 hr_1 c_2)) (fun c_2 => ?_)
  refine lv_aload_n hx hb dX7_put_8 rfl (lv_at hl 0 rfl) ?_
  refine va_get (D := (dC, dI)) (ci := 4) (v := .ref u1) (C := RX7) (T := TX7) (N := 3) hx hb hts i_X7 hown hK hP 0 rfl rfl 1 (by decide) k_1 (fun _ h9 => h9) rfl dX7_put_9 ?_
  refine lv_iload_n hx hb dX7_put_12 rfl (lv_at hl 1 rfl) ?_
  refine va_iald hx hb hK hP 2 0 rfl rfl (q_X7_put_4 hr1 hr2 hu1 hu2 hr_1 c_2) dX7_put_13 ?_
  refine lv_aload_n hx hb dX7_put_14 rfl (lv_at hl 0 rfl) ?_
  refine va_get (D := (dC, dI)) (ci := 4) (v := .ref u0) (C := RX7) (T := TX7) (N := 3) hx hb hts i_X7 hown hK hP 0 rfl rfl 0 (by decide) k_2 (fun _ h9 => h9) rfl dX7_put_15 ?_
  refine lv_iload_n hx hb dX7_put_18 rfl (lv_at hl 1 rfl) ?_
  refine va_iald hx hb hK hP 1 0 rfl rfl (q_X7_put_5 hr1 hr2 hu1 hu2 hr_1 c_2) dX7_put_19 ?_
  refine lv_icmp_lt (tgt := 25) hx hb dX7_put_20 (by decide) (fun c_6 => ?_) (fun c_6 => ?_)
  · skip
    refine lv_aload_n hx hb dX7_put_25 rfl (lv_at hl 0 rfl) ?_
    refine va_get (D := (dC, dI)) (ci := 4) (v := .ref u2) (C := RX7) (T := TX7) (N := 3) hx hb hts i_X7 hown hK hP 0 rfl rfl 2 (by decide) k_3 (fun _ h9 => h9) rfl dX7_put_26 ?_
    refine lv_iload_n hx hb dX7_put_29 rfl (lv_at hl 1 rfl) ?_
    refine lv_bipush (v := 10) hx hb dX7_put_30 (by decide) ?_
    refine lv_imul hx hb dX7_put_32 ?_
    refine lv_aload_n hx hb dX7_put_33 rfl (lv_at hl 0 rfl) ?_
    refine va_get (D := (dC, dI)) (ci := 4) (v := .ref u1) (C := RX7) (T := TX7) (N := 3) hx hb hts i_X7 hown hK hP 0 rfl rfl 1 (by decide) k_1 (fun _ h9 => h9) rfl dX7_put_34 ?_
    refine lv_iload_n hx hb dX7_put_37 rfl (lv_at hl 1 rfl) ?_
    refine va_iald hx hb hK hP 2 0 rfl rfl (q_X7_put_7 hr1 hr2 hu1 hu2 hr_1 c_2 c_6) dX7_put_38 ?_
    refine lv_iadd hx hb dX7_put_39 ?_
    refine lv_iload_n hx hb dX7_put_40 rfl (lv_at hl 2 rfl) ?_
    refine va_iast hx hb hK hP hD hS 3 0 rfl rfl (q_X7_put_8 hr1 hr2 hu1 hu2 hr_1 c_2 c_6) dX7_put_41 (fun H locs hP hD hS => ?_)
    have hP : va_P (dC, dI) vwCl [(aU, .inr (4, [.ref u0, .ref u1, .ref u2])), (u0, .inl (cI, 4, .inl ur)), (u1, .inl (cI, 4, .inl uc)), (u2, .inl (cI, 40, .inl (upd un ((r * 10) + (uc r.toNatClampNeg)).toNatClampNeg k)))] H := hP
    have hD : va_D A [(aU, .inr (4, [.ref u0, .ref u1, .ref u2])), (u0, .inl (cI, 4, .inl ur)), (u1, .inl (cI, 4, .inl uc)), (u2, .inl (cI, 40, .inl (upd un ((r * 10) + (uc r.toNatClampNeg)).toNatClampNeg k)))] := hD
    refine lv_aload_n hx hb dX7_put_42 rfl (lv_at hl 0 rfl) ?_
    refine va_get (D := (dC, dI)) (ci := 4) (v := .ref u1) (C := RX7) (T := TX7) (N := 3) hx hb hts i_X7 hown hK hP 0 rfl rfl 1 (by decide) k_1 (fun _ h9 => h9) rfl dX7_put_43 ?_
    refine lv_iload_n hx hb dX7_put_46 rfl (lv_at hl 1 rfl) ?_
    refine lv_dup2_11 hx hb dX7_put_47 rfl rfl ?_
    refine va_iald hx hb hK hP 2 0 rfl rfl (q_X7_put_9 hr1 hr2 hu1 hu2 hr_1 c_2 c_6) dX7_put_48 ?_
    refine lv_iconst (v := 1) hx hb dX7_put_49 (by decide) ?_
    refine lv_iadd hx hb dX7_put_50 ?_
    refine va_iast hx hb hK hP hD hS 2 0 rfl rfl (q_X7_put_10 hr1 hr2 hu1 hu2 hr_1 c_2 c_6) dX7_put_51 (fun H locs hP hD hS => ?_)
    have hP : va_P (dC, dI) vwCl [(aU, .inr (4, [.ref u0, .ref u1, .ref u2])), (u0, .inl (cI, 4, .inl ur)), (u1, .inl (cI, 4, .inl (upd uc r.toNatClampNeg ((uc r.toNatClampNeg) + 1)))), (u2, .inl (cI, 40, .inl (upd un ((r * 10) + (uc r.toNatClampNeg)).toNatClampNeg k)))] H := hP
    have hD : va_D A [(aU, .inr (4, [.ref u0, .ref u1, .ref u2])), (u0, .inl (cI, 4, .inl ur)), (u1, .inl (cI, 4, .inl (upd uc r.toNatClampNeg ((uc r.toNatClampNeg) + 1)))), (u2, .inl (cI, 40, .inl (upd un ((r * 10) + (uc r.toNatClampNeg)).toNatClampNeg k)))] := hD
    refine lv_iconst (v := 1) hx hb dX7_put_52 (by decide) ?_
    exact e_wz hx hb hr hlocks dX7_put_53 rfl hK hS (upd uc r.toNatClampNeg ((uc r.toNatClampNeg) + 1), upd un ((r * 10) + (uc r.toNatClampNeg)).toNatClampNeg k) hP hD (q_X7_put_11 hr1 hr2 hu1 hu2 hr_1 c_2 c_6)
  · skip
    refine lv_iconst (v := 0) hx hb dX7_put_23 (by decide) ?_
    exact e_wz hx hb hr hlocks dX7_put_24 rfl hK hS (uc, un) hP hD (q_X7_put_12 hr1 hr2 hu1 hu2 hr_1 c_2 c_6)

theorem q_X7_take_3 {uc : Nat → Int32} {r : Int32} {r_1 : Int32} (hr1 : 0 ≤ r) (hr2 : r < 4) (hu1 : 1 ≤ uc r.toNatClampNeg) (hu2 : uc r.toNatClampNeg ≤ 10) (hr_1 : r_1 = if 0 ≤ r ∧ r < 4 then 1 else 0) (c_2 : r_1 = 0) : False := by
  (try simp only [upd_s]) <;> grind
theorem q_X7_take_4 {uc : Nat → Int32} {r : Int32} {r_1 : Int32} (hr1 : 0 ≤ r) (hr2 : r < 4) (hu1 : 1 ≤ uc r.toNatClampNeg) (hu2 : uc r.toNatClampNeg ≤ 10) (hr_1 : r_1 = if 0 ≤ r ∧ r < 4 then 1 else 0) (c_2 : ¬ r_1 = 0) : vp_in r 4 := by
  exact in_of (c := 4) (by decide) (by (try simp only [upd_s]) <;> grind) (by (try simp only [upd_s]) <;> grind)
theorem q_X7_take_6 {uc : Nat → Int32} {r : Int32} {r_1 : Int32} (hr1 : 0 ≤ r) (hr2 : r < 4) (hu1 : 1 ≤ uc r.toNatClampNeg) (hu2 : uc r.toNatClampNeg ≤ 10) (hr_1 : r_1 = if 0 ≤ r ∧ r < 4 then 1 else 0) (c_2 : ¬ r_1 = 0) (c_5 : ¬ 1 ≤ (uc r.toNatClampNeg)) : False := by
  (try simp only [upd_s]) <;> grind
theorem q_X7_take_7 {uc : Nat → Int32} {r : Int32} {r_1 : Int32} (hr1 : 0 ≤ r) (hr2 : r < 4) (hu1 : 1 ≤ uc r.toNatClampNeg) (hu2 : uc r.toNatClampNeg ≤ 10) (hr_1 : r_1 = if 0 ≤ r ∧ r < 4 then 1 else 0) (c_2 : ¬ r_1 = 0) (c_5 : 1 ≤ (uc r.toNatClampNeg)) : vp_in r 4 := by
  exact in_of (c := 4) (by decide) (by (try simp only [upd_s]) <;> grind) (by (try simp only [upd_s]) <;> grind)
theorem q_X7_take_8 {uc : Nat → Int32} {r : Int32} {r_1 : Int32} (hr1 : 0 ≤ r) (hr2 : r < 4) (hu1 : 1 ≤ uc r.toNatClampNeg) (hu2 : uc r.toNatClampNeg ≤ 10) (hr_1 : r_1 = if 0 ≤ r ∧ r < 4 then 1 else 0) (c_2 : ¬ r_1 = 0) (c_5 : 1 ≤ (uc r.toNatClampNeg)) : vp_in r 4 := by
  exact in_of (c := 4) (by decide) (by (try simp only [upd_s]) <;> grind) (by (try simp only [upd_s]) <;> grind)
theorem q_X7_take_9 {uc : Nat → Int32} {r : Int32} {r_1 : Int32} (hr1 : 0 ≤ r) (hr2 : r < 4) (hu1 : 1 ≤ uc r.toNatClampNeg) (hu2 : uc r.toNatClampNeg ≤ 10) (hr_1 : r_1 = if 0 ≤ r ∧ r < 4 then 1 else 0) (c_2 : ¬ r_1 = 0) (c_5 : 1 ≤ (uc r.toNatClampNeg)) : vp_in r 4 := by
  exact in_of (c := 4) (by decide) (by (try simp only [upd_s]) <;> grind) (by (try simp only [upd_s]) <;> grind)
theorem q_X7_take_10 {uc : Nat → Int32} {r : Int32} {r_1 : Int32} (hr1 : 0 ≤ r) (hr2 : r < 4) (hu1 : 1 ≤ uc r.toNatClampNeg) (hu2 : uc r.toNatClampNeg ≤ 10) (hr_1 : r_1 = if 0 ≤ r ∧ r < 4 then 1 else 0) (c_2 : ¬ r_1 = 0) (c_5 : 1 ≤ (uc r.toNatClampNeg)) : vp_in ((r * 10) + ((upd uc r.toNatClampNeg ((uc r.toNatClampNeg) - 1)) r.toNatClampNeg)) 40 := by
  exact in_of (c := 40) (by decide) (by (try simp only [upd_s]) <;> grind) (by (try simp only [upd_s]) <;> grind)
theorem q_X7_take_11 {uc : Nat → Int32} {un : Nat → Int32} {r : Int32} {r_1 : Int32} (hr1 : 0 ≤ r) (hr2 : r < 4) (hu1 : 1 ≤ uc r.toNatClampNeg) (hu2 : uc r.toNatClampNeg ≤ 10) (hr_1 : r_1 = if 0 ≤ r ∧ r < 4 then 1 else 0) (c_2 : ¬ r_1 = 0) (c_5 : 1 ≤ (uc r.toNatClampNeg)) : ((un ((r * 10) + ((upd uc r.toNatClampNeg ((uc r.toNatClampNeg) - 1)) r.toNatClampNeg)).toNatClampNeg) = un (r * 10 + (uc r.toNatClampNeg - 1)).toNatClampNeg) ∧ ((upd uc r.toNatClampNeg ((uc r.toNatClampNeg) - 1)) = upd uc r.toNatClampNeg (uc r.toNatClampNeg - 1)) := by
  (try simp only [upd_s]) <;> grind
set_option maxHeartbeats 4000000 in
set_option maxRecDepth 100000 in
theorem c_X7_take (l : Launch) (dC : Nat → ClassId) (dI : Nat → Nat → Nat) (cI : ClassId) (sz : Nat) (aU : Nat) (u0 : Nat) (u1 : Nat) (u2 : Nat) (uc : Nat → Int32) (un : Nat → Int32) (r : Int32) (hr1 : 0 ≤ r) (hr2 : r < 4) (hu1 : 1 ≤ uc r.toNatClampNeg) (hu2 : uc r.toNatClampNeg ≤ 10) : mWi l yX7_take wsX7_take ({ frames := 1, cells := 0, slots := 0, locals := 21 }) [.ref aU, .int r] (dC, dI) [(cI, .int)] [(aU, .inr (4, [.ref u0, .ref u1, .ref u2])), (u1, .inl (cI, 4, .inl uc)), (u2, .inl (cI, 40, .inl un))] sz (fun (v : Int32) (u : (Nat → Int32)) => (v = un (r * 10 + (uc r.toNatClampNeg - 1)).toNatClampNeg) ∧ (u = upd uc r.toNatClampNeg (uc r.toNatClampNeg - 1))) (fun u : (Nat → Int32) => [(aU, .inr (4, [.ref u0, .ref u1, .ref u2])), (u1, .inl (cI, 4, .inl u)), (u2, .inl (cI, 40, .inl un))]) := by
  refine o_wi (cc := cX7_take) (maxL := 2) (ret := (some .int)) (by decide) rfl (Nat.le_of_ble_eq_true rfl) ?_
  intro p e s m below meth c ls A hx hb hr hml hts hown hlocks hP hK hD hS hA hl
  have hown : s.vm.findClass RX7 = some m.cls := hown
  have hl : lv_has ls 2 [(0, .ref aU), (1, .int r)] := hl
  have k_1 := hts (.fieldLink RX7 15 "ZRoutines$UserStacks" "counts" "[I") (List.mem_of_getElem? (i := 1) rfl)
  have k_2 := hts (.fieldLink RX7 18 "ZRoutines$UserStacks" "numbers" "[I") (List.mem_of_getElem? (i := 2) rfl)
  have i_X7 : ∀ w ∈ u_ws RX7 TX7 3, w ∈ wsX7_take := fun _ h => List.mem_cons_of_mem _ (List.mem_append_right _ h)
  refine lv_aload_n hx hb dX7_take_0 rfl (lv_at hl 0 rfl) ?_
  refine lv_iload_n hx hb dX7_take_1 rfl (lv_at hl 1 rfl) ?_
  refine k_rd (ci := 4) (q0 := 0) (q := (RX7, TX7, 3)) (As := [.int r]) (rest := []) ⟨hx, hb, hml, hown, hts⟩ (c_X7_has l dC dI cI aU u0 u1 u2 r ) (cwV 1 hts gX7_take_X7_has rfl rfl rfl (by decide +kernel) ⟨Nat.le_of_ble_eq_true rfl, Nat.le_of_ble_eq_true rfl⟩) hK hP [0] rfl rfl rfl rfl hl.1 rfl (Nat.le_of_ble_eq_true rfl) dX7_take_2 ⟨Nat.zero_le _, Nat.zero_le _⟩ (fun r_1 hr_1 => ?_)
  have hr_1 : r_1 = if 0 ≤ r ∧ r < 4 then 1 else 0 := hr_1
  refine lv_if_eq (tgt := 18) hx hb dX7_take_5 (by decide) (fun c_2 => False.elim (q_X7_take_3 hr1 hr2 hu1 hu2 hr_1 c_2)) (fun c_2 => ?_)
  refine lv_aload_n hx hb dX7_take_8 rfl (lv_at hl 0 rfl) ?_
  refine va_get (D := (dC, dI)) (ci := 4) (v := .ref u1) (C := RX7) (T := TX7) (N := 3) hx hb hts i_X7 hown hK hP 0 rfl rfl 1 (by decide) k_1 (fun _ h9 => h9) rfl dX7_take_9 ?_
  refine lv_iload_n hx hb dX7_take_12 rfl (lv_at hl 1 rfl) ?_
  refine va_iald hx hb hK hP 1 0 rfl rfl (q_X7_take_4 hr1 hr2 hu1 hu2 hr_1 c_2) dX7_take_13 ?_
  refine lv_iconst (v := 1) hx hb dX7_take_14 (by decide) ?_
  refine lv_icmp_ge (tgt := 20) hx hb dX7_take_15 (by decide) (fun c_5 => ?_) (fun c_5 => False.elim (q_X7_take_6 hr1 hr2 hu1 hu2 hr_1 c_2 c_5))
  refine lv_aload_n hx hb dX7_take_20 rfl (lv_at hl 0 rfl) ?_
  refine va_get (D := (dC, dI)) (ci := 4) (v := .ref u1) (C := RX7) (T := TX7) (N := 3) hx hb hts i_X7 hown hK hP 0 rfl rfl 1 (by decide) k_1 (fun _ h9 => h9) rfl dX7_take_21 ?_
  refine lv_iload_n hx hb dX7_take_24 rfl (lv_at hl 1 rfl) ?_
  refine lv_dup2_11 hx hb dX7_take_25 rfl rfl ?_
  refine va_iald hx hb hK hP 1 0 rfl rfl (q_X7_take_7 hr1 hr2 hu1 hu2 hr_1 c_2 c_5) dX7_take_26 ?_
  refine lv_iconst (v := 1) hx hb dX7_take_27 (by decide) ?_
  refine lv_isub hx hb dX7_take_28 ?_
  refine va_iast hx hb hK hP hD hS 1 0 rfl rfl (q_X7_take_8 hr1 hr2 hu1 hu2 hr_1 c_2 c_5) dX7_take_29 (fun H locs hP hD hS => ?_)
  have hP : va_P (dC, dI) vwCl [(aU, .inr (4, [.ref u0, .ref u1, .ref u2])), (u1, .inl (cI, 4, .inl (upd uc r.toNatClampNeg ((uc r.toNatClampNeg) - 1)))), (u2, .inl (cI, 40, .inl un))] H := hP
  have hD : va_D A [(aU, .inr (4, [.ref u0, .ref u1, .ref u2])), (u1, .inl (cI, 4, .inl (upd uc r.toNatClampNeg ((uc r.toNatClampNeg) - 1)))), (u2, .inl (cI, 40, .inl un))] := hD
  refine lv_aload_n hx hb dX7_take_30 rfl (lv_at hl 0 rfl) ?_
  refine va_get (D := (dC, dI)) (ci := 4) (v := .ref u2) (C := RX7) (T := TX7) (N := 3) hx hb hts i_X7 hown hK hP 0 rfl rfl 2 (by decide) k_2 (fun _ h9 => h9) rfl dX7_take_31 ?_
  refine lv_iload_n hx hb dX7_take_34 rfl (lv_at hl 1 rfl) ?_
  refine lv_bipush (v := 10) hx hb dX7_take_35 (by decide) ?_
  refine lv_imul hx hb dX7_take_37 ?_
  refine lv_aload_n hx hb dX7_take_38 rfl (lv_at hl 0 rfl) ?_
  refine va_get (D := (dC, dI)) (ci := 4) (v := .ref u1) (C := RX7) (T := TX7) (N := 3) hx hb hts i_X7 hown hK hP 0 rfl rfl 1 (by decide) k_1 (fun _ h9 => h9) rfl dX7_take_39 ?_
  refine lv_iload_n hx hb dX7_take_42 rfl (lv_at hl 1 rfl) ?_
  refine va_iald hx hb hK hP 1 0 rfl rfl (q_X7_take_9 hr1 hr2 hu1 hu2 hr_1 c_2 c_5) dX7_take_43 ?_
  refine lv_iadd hx hb dX7_take_44 ?_
  refine va_iald hx hb hK hP 2 0 rfl rfl (q_X7_take_10 hr1 hr2 hu1 hu2 hr_1 c_2 c_5) dX7_take_45 ?_
  exact e_wi hx hb hr hlocks dX7_take_46 hK hS (upd uc r.toNatClampNeg ((uc r.toNatClampNeg) - 1)) hP hD (q_X7_take_11 hr1 hr2 hu1 hu2 hr_1 c_2 c_5)

theorem q_X6_forget_1   : ((0 : Int32) = 0) ∧ ((0 : Int32) = 0) ∧ ((0 : Int32) = 0) ∧ ((0 : Int32) = 0) ∧ ((0 : Int32) = 0) ∧ ((0 : Int32) = 0) ∧ ((0 : Int32) = 0) ∧ ((0 : Int32) = 0) := by
  grind
set_option maxHeartbeats 4000000 in
set_option maxRecDepth 100000 in
theorem c_X6_forget (l : Launch) (dC : Nat → ClassId) (dI : Nat → Nat → Nat) (cI : ClassId) (sz : Nat) (aR : Nat) (en : Int32) (fa : Int32) (ro : Int32) (pp : Int32) (fm : Int32) (sp : Int32) (it : Int32) (mo : Int32)  : mWv l yX6_forget wsX6_forget ({ frames := 0, cells := 0, slots := 0, locals := 0 }) [.ref aR] (dC, dI) [(cI, .int)] [(aR, .inr (3, [.int en, .int fa, .int ro, .int pp, .int fm, .int sp, .int it, .int mo]))] sz (fun u : (Int32) × (Int32) × (Int32) × (Int32) × (Int32) × (Int32) × (Int32) × (Int32) => (u.1 = 0) ∧ (u.2.1 = 0) ∧ (u.2.2.1 = 0) ∧ (u.2.2.2.1 = 0) ∧ (u.2.2.2.2.1 = 0) ∧ (u.2.2.2.2.2.1 = 0) ∧ (u.2.2.2.2.2.2.1 = 0) ∧ (u.2.2.2.2.2.2.2 = 0)) (fun u : (Int32) × (Int32) × (Int32) × (Int32) × (Int32) × (Int32) × (Int32) × (Int32) => [(aR, .inr (3, [.int u.1, .int u.2.1, .int u.2.2.1, .int u.2.2.2.1, .int u.2.2.2.2.1, .int u.2.2.2.2.2.1, .int u.2.2.2.2.2.2.1, .int u.2.2.2.2.2.2.2]))]) := by
  refine o_wv (cc := cX6_forget) (maxL := 1) (ret := none) (by decide) rfl (Nat.le_of_ble_eq_true rfl) ?_
  intro p e s m below meth c ls A hx hb hr hml hts hown hlocks hP hK hD hS hA hl
  have hown : s.vm.findClass RX6 = some m.cls := hown
  have hl : lv_has ls 1 [(0, .ref aR)] := hl
  have k_1 := hts (.fieldLink RX6 11 "ZRoutines$Report" "ending" "I") (List.mem_of_getElem? (i := 1) rfl)
  have k_2 := hts (.fieldLink RX6 19 "ZRoutines$Report" "fault" "I") (List.mem_of_getElem? (i := 2) rfl)
  have k_3 := hts (.fieldLink RX6 22 "ZRoutines$Report" "routine" "I") (List.mem_of_getElem? (i := 3) rfl)
  have k_4 := hts (.fieldLink RX6 25 "ZRoutines$Report" "place" "I") (List.mem_of_getElem? (i := 4) rfl)
  have k_5 := hts (.fieldLink RX6 28 "ZRoutines$Report" "frames" "I") (List.mem_of_getElem? (i := 5) rfl)
  have k_6 := hts (.fieldLink RX6 31 "ZRoutines$Report" "steps" "I") (List.mem_of_getElem? (i := 6) rfl)
  have k_7 := hts (.fieldLink RX6 34 "ZRoutines$Report" "interrupts" "I") (List.mem_of_getElem? (i := 7) rfl)
  have k_8 := hts (.fieldLink RX6 37 "ZRoutines$Report" "mostFrames" "I") (List.mem_of_getElem? (i := 8) rfl)
  have i_X6 : ∀ w ∈ u_ws RX6 TX6 8, w ∈ wsX6_forget := fun _ h => List.mem_cons_of_mem _ (List.mem_append_right _ h)
  refine lv_aload_n hx hb dX6_forget_0 rfl (lv_at hl 0 rfl) ?_
  refine lv_iconst (v := 0) hx hb dX6_forget_1 (by decide) ?_
  refine va_put (D := (dC, dI)) (ci := 3) (v := .int 0) (ty := .int) (C := RX6) (T := TX6) (N := 8) hx hb hts i_X6 tyX6 tyX6_ok nmX6 hown hK hP hD hS 0 rfl rfl 0 (by decide) k_1 (fun _ h9 => h9) rfl (by decide +kernel) rfl rfl (Nat.le_of_ble_eq_true rfl) dX6_forget_2 (fun H locs hP hD hS => ?_)
  have hP : va_P (dC, dI) vwCl [(aR, .inr (3, [.int 0, .int fa, .int ro, .int pp, .int fm, .int sp, .int it, .int mo]))] H := hP
  have hD : va_D A [(aR, .inr (3, [.int 0, .int fa, .int ro, .int pp, .int fm, .int sp, .int it, .int mo]))] := hD
  refine lv_aload_n hx hb dX6_forget_5 rfl (lv_at hl 0 rfl) ?_
  refine lv_iconst (v := 0) hx hb dX6_forget_6 (by decide) ?_
  refine va_put (D := (dC, dI)) (ci := 3) (v := .int 0) (ty := .int) (C := RX6) (T := TX6) (N := 8) hx hb hts i_X6 tyX6 tyX6_ok nmX6 hown hK hP hD hS 0 rfl rfl 1 (by decide) k_2 (fun _ h9 => h9) rfl (by decide +kernel) rfl rfl (Nat.le_of_ble_eq_true rfl) dX6_forget_7 (fun H locs hP hD hS => ?_)
  have hP : va_P (dC, dI) vwCl [(aR, .inr (3, [.int 0, .int 0, .int ro, .int pp, .int fm, .int sp, .int it, .int mo]))] H := hP
  have hD : va_D A [(aR, .inr (3, [.int 0, .int 0, .int ro, .int pp, .int fm, .int sp, .int it, .int mo]))] := hD
  refine lv_aload_n hx hb dX6_forget_10 rfl (lv_at hl 0 rfl) ?_
  refine lv_iconst (v := 0) hx hb dX6_forget_11 (by decide) ?_
  refine va_put (D := (dC, dI)) (ci := 3) (v := .int 0) (ty := .int) (C := RX6) (T := TX6) (N := 8) hx hb hts i_X6 tyX6 tyX6_ok nmX6 hown hK hP hD hS 0 rfl rfl 2 (by decide) k_3 (fun _ h9 => h9) rfl (by decide +kernel) rfl rfl (Nat.le_of_ble_eq_true rfl) dX6_forget_12 (fun H locs hP hD hS => ?_)
  have hP : va_P (dC, dI) vwCl [(aR, .inr (3, [.int 0, .int 0, .int 0, .int pp, .int fm, .int sp, .int it, .int mo]))] H := hP
  have hD : va_D A [(aR, .inr (3, [.int 0, .int 0, .int 0, .int pp, .int fm, .int sp, .int it, .int mo]))] := hD
  refine lv_aload_n hx hb dX6_forget_15 rfl (lv_at hl 0 rfl) ?_
  refine lv_iconst (v := 0) hx hb dX6_forget_16 (by decide) ?_
  refine va_put (D := (dC, dI)) (ci := 3) (v := .int 0) (ty := .int) (C := RX6) (T := TX6) (N := 8) hx hb hts i_X6 tyX6 tyX6_ok nmX6 hown hK hP hD hS 0 rfl rfl 3 (by decide) k_4 (fun _ h9 => h9) rfl (by decide +kernel) rfl rfl (Nat.le_of_ble_eq_true rfl) dX6_forget_17 (fun H locs hP hD hS => ?_)
  have hP : va_P (dC, dI) vwCl [(aR, .inr (3, [.int 0, .int 0, .int 0, .int 0, .int fm, .int sp, .int it, .int mo]))] H := hP
  have hD : va_D A [(aR, .inr (3, [.int 0, .int 0, .int 0, .int 0, .int fm, .int sp, .int it, .int mo]))] := hD
  refine lv_aload_n hx hb dX6_forget_20 rfl (lv_at hl 0 rfl) ?_
  refine lv_iconst (v := 0) hx hb dX6_forget_21 (by decide) ?_
  refine va_put (D := (dC, dI)) (ci := 3) (v := .int 0) (ty := .int) (C := RX6) (T := TX6) (N := 8) hx hb hts i_X6 tyX6 tyX6_ok nmX6 hown hK hP hD hS 0 rfl rfl 4 (by decide) k_5 (fun _ h9 => h9) rfl (by decide +kernel) rfl rfl (Nat.le_of_ble_eq_true rfl) dX6_forget_22 (fun H locs hP hD hS => ?_)
  have hP : va_P (dC, dI) vwCl [(aR, .inr (3, [.int 0, .int 0, .int 0, .int 0, .int 0, .int sp, .int it, .int mo]))] H := hP
  have hD : va_D A [(aR, .inr (3, [.int 0, .int 0, .int 0, .int 0, .int 0, .int sp, .int it, .int mo]))] := hD
  refine lv_aload_n hx hb dX6_forget_25 rfl (lv_at hl 0 rfl) ?_
  refine lv_iconst (v := 0) hx hb dX6_forget_26 (by decide) ?_
  refine va_put (D := (dC, dI)) (ci := 3) (v := .int 0) (ty := .int) (C := RX6) (T := TX6) (N := 8) hx hb hts i_X6 tyX6 tyX6_ok nmX6 hown hK hP hD hS 0 rfl rfl 5 (by decide) k_6 (fun _ h9 => h9) rfl (by decide +kernel) rfl rfl (Nat.le_of_ble_eq_true rfl) dX6_forget_27 (fun H locs hP hD hS => ?_)
  have hP : va_P (dC, dI) vwCl [(aR, .inr (3, [.int 0, .int 0, .int 0, .int 0, .int 0, .int 0, .int it, .int mo]))] H := hP
  have hD : va_D A [(aR, .inr (3, [.int 0, .int 0, .int 0, .int 0, .int 0, .int 0, .int it, .int mo]))] := hD
  refine lv_aload_n hx hb dX6_forget_30 rfl (lv_at hl 0 rfl) ?_
  refine lv_iconst (v := 0) hx hb dX6_forget_31 (by decide) ?_
  refine va_put (D := (dC, dI)) (ci := 3) (v := .int 0) (ty := .int) (C := RX6) (T := TX6) (N := 8) hx hb hts i_X6 tyX6 tyX6_ok nmX6 hown hK hP hD hS 0 rfl rfl 6 (by decide) k_7 (fun _ h9 => h9) rfl (by decide +kernel) rfl rfl (Nat.le_of_ble_eq_true rfl) dX6_forget_32 (fun H locs hP hD hS => ?_)
  have hP : va_P (dC, dI) vwCl [(aR, .inr (3, [.int 0, .int 0, .int 0, .int 0, .int 0, .int 0, .int 0, .int mo]))] H := hP
  have hD : va_D A [(aR, .inr (3, [.int 0, .int 0, .int 0, .int 0, .int 0, .int 0, .int 0, .int mo]))] := hD
  refine lv_aload_n hx hb dX6_forget_35 rfl (lv_at hl 0 rfl) ?_
  refine lv_iconst (v := 0) hx hb dX6_forget_36 (by decide) ?_
  refine va_put (D := (dC, dI)) (ci := 3) (v := .int 0) (ty := .int) (C := RX6) (T := TX6) (N := 8) hx hb hts i_X6 tyX6 tyX6_ok nmX6 hown hK hP hD hS 0 rfl rfl 7 (by decide) k_8 (fun _ h9 => h9) rfl (by decide +kernel) rfl rfl (Nat.le_of_ble_eq_true rfl) dX6_forget_37 (fun H locs hP hD hS => ?_)
  have hP : va_P (dC, dI) vwCl [(aR, .inr (3, [.int 0, .int 0, .int 0, .int 0, .int 0, .int 0, .int 0, .int 0]))] H := hP
  have hD : va_D A [(aR, .inr (3, [.int 0, .int 0, .int 0, .int 0, .int 0, .int 0, .int 0, .int 0]))] := hD
  exact e_wv hx hb hr hlocks dX6_forget_40 hK hS (0, 0, 0, 0, 0, 0, 0, 0) hP hD q_X6_forget_1

theorem q_X6_answer_2 {en : Int32} {fa : Int32} {ro : Int32} {pp : Int32} {fm : Int32} {sp : Int32} {it : Int32} {mo : Int32} {k : Int32} (c_1o : k < 0 ∨ 7 < k) : ((-40000 : Int32) = if k = 0 then en else if k = 1 then fa else if k = 2 then ro else if k = 3 then pp else if k = 4 then fm else if k = 5 then sp else if k = 6 then it else if k = 7 then mo else (-40000)) := by
  grind
theorem q_X6_answer_3 {en : Int32} {fa : Int32} {ro : Int32} {pp : Int32} {fm : Int32} {sp : Int32} {it : Int32} {mo : Int32} {k : Int32} (c_1o : ¬ (k < 0 ∨ 7 < k)) (c_1_0 : k = 0) : (en = if k = 0 then en else if k = 1 then fa else if k = 2 then ro else if k = 3 then pp else if k = 4 then fm else if k = 5 then sp else if k = 6 then it else if k = 7 then mo else (-40000)) := by
  grind
theorem q_X6_answer_4 {en : Int32} {fa : Int32} {ro : Int32} {pp : Int32} {fm : Int32} {sp : Int32} {it : Int32} {mo : Int32} {k : Int32} (c_1o : ¬ (k < 0 ∨ 7 < k)) (c_1_0 : ¬ k = 0) (c_1_1 : k = 1) : (fa = if k = 0 then en else if k = 1 then fa else if k = 2 then ro else if k = 3 then pp else if k = 4 then fm else if k = 5 then sp else if k = 6 then it else if k = 7 then mo else (-40000)) := by
  grind
theorem q_X6_answer_5 {en : Int32} {fa : Int32} {ro : Int32} {pp : Int32} {fm : Int32} {sp : Int32} {it : Int32} {mo : Int32} {k : Int32} (c_1o : ¬ (k < 0 ∨ 7 < k)) (c_1_0 : ¬ k = 0) (c_1_1 : ¬ k = 1) (c_1_2 : k = 2) : (ro = if k = 0 then en else if k = 1 then fa else if k = 2 then ro else if k = 3 then pp else if k = 4 then fm else if k = 5 then sp else if k = 6 then it else if k = 7 then mo else (-40000)) := by
  grind
theorem q_X6_answer_6 {en : Int32} {fa : Int32} {ro : Int32} {pp : Int32} {fm : Int32} {sp : Int32} {it : Int32} {mo : Int32} {k : Int32} (c_1o : ¬ (k < 0 ∨ 7 < k)) (c_1_0 : ¬ k = 0) (c_1_1 : ¬ k = 1) (c_1_2 : ¬ k = 2) (c_1_3 : k = 3) : (pp = if k = 0 then en else if k = 1 then fa else if k = 2 then ro else if k = 3 then pp else if k = 4 then fm else if k = 5 then sp else if k = 6 then it else if k = 7 then mo else (-40000)) := by
  grind
theorem q_X6_answer_7 {en : Int32} {fa : Int32} {ro : Int32} {pp : Int32} {fm : Int32} {sp : Int32} {it : Int32} {mo : Int32} {k : Int32} (c_1o : ¬ (k < 0 ∨ 7 < k)) (c_1_0 : ¬ k = 0) (c_1_1 : ¬ k = 1) (c_1_2 : ¬ k = 2) (c_1_3 : ¬ k = 3) (c_1_4 : k = 4) : (fm = if k = 0 then en else if k = 1 then fa else if k = 2 then ro else if k = 3 then pp else if k = 4 then fm else if k = 5 then sp else if k = 6 then it else if k = 7 then mo else (-40000)) := by
  grind
theorem q_X6_answer_8 {en : Int32} {fa : Int32} {ro : Int32} {pp : Int32} {fm : Int32} {sp : Int32} {it : Int32} {mo : Int32} {k : Int32} (c_1o : ¬ (k < 0 ∨ 7 < k)) (c_1_0 : ¬ k = 0) (c_1_1 : ¬ k = 1) (c_1_2 : ¬ k = 2) (c_1_3 : ¬ k = 3) (c_1_4 : ¬ k = 4) (c_1_5 : k = 5) : (sp = if k = 0 then en else if k = 1 then fa else if k = 2 then ro else if k = 3 then pp else if k = 4 then fm else if k = 5 then sp else if k = 6 then it else if k = 7 then mo else (-40000)) := by
  grind
theorem q_X6_answer_9 {en : Int32} {fa : Int32} {ro : Int32} {pp : Int32} {fm : Int32} {sp : Int32} {it : Int32} {mo : Int32} {k : Int32} (c_1o : ¬ (k < 0 ∨ 7 < k)) (c_1_0 : ¬ k = 0) (c_1_1 : ¬ k = 1) (c_1_2 : ¬ k = 2) (c_1_3 : ¬ k = 3) (c_1_4 : ¬ k = 4) (c_1_5 : ¬ k = 5) (c_1_6 : k = 6) : (it = if k = 0 then en else if k = 1 then fa else if k = 2 then ro else if k = 3 then pp else if k = 4 then fm else if k = 5 then sp else if k = 6 then it else if k = 7 then mo else (-40000)) := by
  grind
theorem q_X6_answer_10 {k : Int32} (c_1o : ¬ (k < 0 ∨ 7 < k)) (c_1_0 : ¬ k = 0) (c_1_1 : ¬ k = 1) (c_1_2 : ¬ k = 2) (c_1_3 : ¬ k = 3) (c_1_4 : ¬ k = 4) (c_1_5 : ¬ k = 5) (c_1_6 : ¬ k = 6) : k = 7 := by
  grind
theorem q_X6_answer_11 {en : Int32} {fa : Int32} {ro : Int32} {pp : Int32} {fm : Int32} {sp : Int32} {it : Int32} {mo : Int32} {k : Int32} (c_1_7 : k = 7) : (mo = if k = 0 then en else if k = 1 then fa else if k = 2 then ro else if k = 3 then pp else if k = 4 then fm else if k = 5 then sp else if k = 6 then it else if k = 7 then mo else (-40000)) := by
  grind
set_option maxHeartbeats 4000000 in
set_option maxRecDepth 100000 in
theorem c_X6_answer (l : Launch) (dC : Nat → ClassId) (dI : Nat → Nat → Nat) (cI : ClassId) (aR : Nat) (en : Int32) (fa : Int32) (ro : Int32) (pp : Int32) (fm : Int32) (sp : Int32) (it : Int32) (mo : Int32) (k : Int32)  : mRd l yX6_answer wsX6_answer ({ frames := 0, cells := 0, slots := 0, locals := 0 }) [.ref aR, .int k] (dC, dI) [(cI, .int)] [(aR, .inr (3, [.int en, .int fa, .int ro, .int pp, .int fm, .int sp, .int it, .int mo]))] (fun v => (v = if k = 0 then en else if k = 1 then fa else if k = 2 then ro else if k = 3 then pp else if k = 4 then fm else if k = 5 then sp else if k = 6 then it else if k = 7 then mo else (-40000))) := by
  refine o_rd (cc := cX6_answer) (maxL := 2) (ret := (some .int)) (by decide) rfl (Nat.le_of_ble_eq_true rfl) ?_
  intro p e s m below meth c ls hx hb hr hml hts hown hlocks hP hK hl
  have hown : s.vm.findClass RX6 = some m.cls := hown
  have hl : lv_has ls 2 [(0, .ref aR), (1, .int k)] := hl
  have k_1 := hts (.constant RX6 40 (-40000)) (List.mem_of_getElem? (i := 9) rfl)
  have k_2 := hts (.fieldLink RX6 11 "ZRoutines$Report" "ending" "I") (List.mem_of_getElem? (i := 1) rfl)
  have k_3 := hts (.fieldLink RX6 19 "ZRoutines$Report" "fault" "I") (List.mem_of_getElem? (i := 2) rfl)
  have k_4 := hts (.fieldLink RX6 22 "ZRoutines$Report" "routine" "I") (List.mem_of_getElem? (i := 3) rfl)
  have k_5 := hts (.fieldLink RX6 25 "ZRoutines$Report" "place" "I") (List.mem_of_getElem? (i := 4) rfl)
  have k_6 := hts (.fieldLink RX6 28 "ZRoutines$Report" "frames" "I") (List.mem_of_getElem? (i := 5) rfl)
  have k_7 := hts (.fieldLink RX6 31 "ZRoutines$Report" "steps" "I") (List.mem_of_getElem? (i := 6) rfl)
  have k_8 := hts (.fieldLink RX6 34 "ZRoutines$Report" "interrupts" "I") (List.mem_of_getElem? (i := 7) rfl)
  have k_9 := hts (.fieldLink RX6 37 "ZRoutines$Report" "mostFrames" "I") (List.mem_of_getElem? (i := 8) rfl)
  have i_X6 : ∀ w ∈ u_ws RX6 TX6 8, w ∈ wsX6_answer := fun _ h => List.mem_cons_of_mem _ (List.mem_append_right _ h)
  refine lv_iload_n hx hb dX6_answer_0 rfl (lv_at hl 1 rfl) ?_
  by_cases c_1o : k < 0 ∨ 7 < k
  · refine lv_tableOut (tgt := 88) hx hb dX6_answer_1 (sw_out (by decide) (by decide) c_1o) (by decide) ?_
    refine lv_ldc (v := (-40000)) hx hb hown k_1 dX6_answer_88 ?_
    exact e_rdi hx hb hr hlocks dX6_answer_90 (q_X6_answer_2 c_1o)
  by_cases c_1_0 : k = 0
  · refine lv_tableIn (off := 47) (tgt := 48) hx hb dX6_answer_1 (by rw [c_1_0]; decide) (by rw [c_1_0]; decide) (by rw [c_1_0]; rfl) (by decide) ?_
    refine lv_aload_n hx hb dX6_answer_48 rfl (lv_at hl 0 rfl) ?_
    refine va_get (D := (dC, dI)) (ci := 3) (v := .int en) (C := RX6) (T := TX6) (N := 8) hx hb hts i_X6 hown hK hP 0 rfl rfl 0 (by decide) k_2 (fun _ h9 => h9) rfl dX6_answer_49 ?_
    exact e_rdi hx hb hr hlocks dX6_answer_52 (q_X6_answer_3 c_1o c_1_0)
  by_cases c_1_1 : k = 1
  · refine lv_tableIn (off := 52) (tgt := 53) hx hb dX6_answer_1 (by rw [c_1_1]; decide) (by rw [c_1_1]; decide) (by rw [c_1_1]; rfl) (by decide) ?_
    refine lv_aload_n hx hb dX6_answer_53 rfl (lv_at hl 0 rfl) ?_
    refine va_get (D := (dC, dI)) (ci := 3) (v := .int fa) (C := RX6) (T := TX6) (N := 8) hx hb hts i_X6 hown hK hP 0 rfl rfl 1 (by decide) k_3 (fun _ h9 => h9) rfl dX6_answer_54 ?_
    exact e_rdi hx hb hr hlocks dX6_answer_57 (q_X6_answer_4 c_1o c_1_0 c_1_1)
  by_cases c_1_2 : k = 2
  · refine lv_tableIn (off := 57) (tgt := 58) hx hb dX6_answer_1 (by rw [c_1_2]; decide) (by rw [c_1_2]; decide) (by rw [c_1_2]; rfl) (by decide) ?_
    refine lv_aload_n hx hb dX6_answer_58 rfl (lv_at hl 0 rfl) ?_
    refine va_get (D := (dC, dI)) (ci := 3) (v := .int ro) (C := RX6) (T := TX6) (N := 8) hx hb hts i_X6 hown hK hP 0 rfl rfl 2 (by decide) k_4 (fun _ h9 => h9) rfl dX6_answer_59 ?_
    exact e_rdi hx hb hr hlocks dX6_answer_62 (q_X6_answer_5 c_1o c_1_0 c_1_1 c_1_2)
  by_cases c_1_3 : k = 3
  · refine lv_tableIn (off := 62) (tgt := 63) hx hb dX6_answer_1 (by rw [c_1_3]; decide) (by rw [c_1_3]; decide) (by rw [c_1_3]; rfl) (by decide) ?_
    refine lv_aload_n hx hb dX6_answer_63 rfl (lv_at hl 0 rfl) ?_
    refine va_get (D := (dC, dI)) (ci := 3) (v := .int pp) (C := RX6) (T := TX6) (N := 8) hx hb hts i_X6 hown hK hP 0 rfl rfl 3 (by decide) k_5 (fun _ h9 => h9) rfl dX6_answer_64 ?_
    exact e_rdi hx hb hr hlocks dX6_answer_67 (q_X6_answer_6 c_1o c_1_0 c_1_1 c_1_2 c_1_3)
  by_cases c_1_4 : k = 4
  · refine lv_tableIn (off := 67) (tgt := 68) hx hb dX6_answer_1 (by rw [c_1_4]; decide) (by rw [c_1_4]; decide) (by rw [c_1_4]; rfl) (by decide) ?_
    refine lv_aload_n hx hb dX6_answer_68 rfl (lv_at hl 0 rfl) ?_
    refine va_get (D := (dC, dI)) (ci := 3) (v := .int fm) (C := RX6) (T := TX6) (N := 8) hx hb hts i_X6 hown hK hP 0 rfl rfl 4 (by decide) k_6 (fun _ h9 => h9) rfl dX6_answer_69 ?_
    exact e_rdi hx hb hr hlocks dX6_answer_72 (q_X6_answer_7 c_1o c_1_0 c_1_1 c_1_2 c_1_3 c_1_4)
  by_cases c_1_5 : k = 5
  · refine lv_tableIn (off := 72) (tgt := 73) hx hb dX6_answer_1 (by rw [c_1_5]; decide) (by rw [c_1_5]; decide) (by rw [c_1_5]; rfl) (by decide) ?_
    refine lv_aload_n hx hb dX6_answer_73 rfl (lv_at hl 0 rfl) ?_
    refine va_get (D := (dC, dI)) (ci := 3) (v := .int sp) (C := RX6) (T := TX6) (N := 8) hx hb hts i_X6 hown hK hP 0 rfl rfl 5 (by decide) k_7 (fun _ h9 => h9) rfl dX6_answer_74 ?_
    exact e_rdi hx hb hr hlocks dX6_answer_77 (q_X6_answer_8 c_1o c_1_0 c_1_1 c_1_2 c_1_3 c_1_4 c_1_5)
  by_cases c_1_6 : k = 6
  · refine lv_tableIn (off := 77) (tgt := 78) hx hb dX6_answer_1 (by rw [c_1_6]; decide) (by rw [c_1_6]; decide) (by rw [c_1_6]; rfl) (by decide) ?_
    refine lv_aload_n hx hb dX6_answer_78 rfl (lv_at hl 0 rfl) ?_
    refine va_get (D := (dC, dI)) (ci := 3) (v := .int it) (C := RX6) (T := TX6) (N := 8) hx hb hts i_X6 hown hK hP 0 rfl rfl 6 (by decide) k_8 (fun _ h9 => h9) rfl dX6_answer_79 ?_
    exact e_rdi hx hb hr hlocks dX6_answer_82 (q_X6_answer_9 c_1o c_1_0 c_1_1 c_1_2 c_1_3 c_1_4 c_1_5 c_1_6)
  have c_1_7 : k = 7 := (q_X6_answer_10 c_1o c_1_0 c_1_1 c_1_2 c_1_3 c_1_4 c_1_5 c_1_6)
  refine lv_tableIn (off := 82) (tgt := 83) hx hb dX6_answer_1 (by rw [c_1_7]; decide) (by rw [c_1_7]; decide) (by rw [c_1_7]; rfl) (by decide) ?_
  refine lv_aload_n hx hb dX6_answer_83 rfl (lv_at hl 0 rfl) ?_
  refine va_get (D := (dC, dI)) (ci := 3) (v := .int mo) (C := RX6) (T := TX6) (N := 8) hx hb hts i_X6 hown hK hP 0 rfl rfl 7 (by decide) k_9 (fun _ h9 => h9) rfl dX6_answer_84 ?_
  exact e_rdi hx hb hr hlocks dX6_answer_87 (q_X6_answer_11 c_1_7)
