theorem q_X5_count_1 {cn : Int32}  : (cn = cn) := by
  grind
set_option maxHeartbeats 4000000 in
set_option maxRecDepth 100000 in
theorem c_X5_count (l : Launch) (dC : Nat → ClassId) (dI : Nat → Nat → Nat) (cI : ClassId) (aP : Nat) (p0 : Nat) (p1 : Nat) (p2 : Nat) (p3 : Nat) (p4 : Nat) (p5 : Nat) (cn : Int32)  : mRd l yX5_count wsX5_count ({ frames := 0, cells := 0, slots := 0, locals := 0 }) [.ref aP] (dC, dI) [(cI, .int)] [(aP, .inr (2, [.ref p0, .ref p1, .ref p2, .ref p3, .ref p4, .ref p5, .int cn]))] (fun v => (v = cn)) := by
  refine o_rd (cc := cX5_count) (maxL := 1) (ret := (some .int)) (by decide) rfl (Nat.le_of_ble_eq_true rfl) ?_
  intro p e s m below meth c ls hx hb hr hml hts hown hlocks hP hK hl
  have hown : s.vm.findClass RX5 = some m.cls := hown
  have hl : lv_has ls 1 [(0, .ref aP)] := hl
  have k_1 := hts (.fieldLink RX5 30 "ZRoutines$Program" "count" "I") (List.mem_of_getElem? (i := 1) rfl)
  have i_X5 : ∀ w ∈ u_ws RX5 TX5 7, w ∈ wsX5_count := fun _ h => List.mem_cons_of_mem _ (List.mem_append_right _ h)
  refine lv_aload_n hx hb dX5_count_0 rfl (lv_at hl 0 rfl) ?_
  refine va_get (D := (dC, dI)) (ci := 2) (v := .int cn) (C := RX5) (T := TX5) (N := 7) hx hb hts i_X5 hown hK hP 0 rfl rfl 6 (by decide) k_1 (fun _ h9 => h9) rfl dX5_count_1 ?_
  exact e_rdi hx hb hr hlocks dX5_count_4 q_X5_count_1

theorem q_X5_isFull_2 {cn : Int32} (c_1 : cn < 20) : ((0 : Int32) = if 20 ≤ cn then 1 else 0) := by
  grind
theorem q_X5_isFull_3 {cn : Int32} (c_1 : ¬ cn < 20) : ((1 : Int32) = if 20 ≤ cn then 1 else 0) := by
  grind
set_option maxHeartbeats 4000000 in
set_option maxRecDepth 100000 in
theorem c_X5_isFull (l : Launch) (dC : Nat → ClassId) (dI : Nat → Nat → Nat) (cI : ClassId) (aP : Nat) (p0 : Nat) (p1 : Nat) (p2 : Nat) (p3 : Nat) (p4 : Nat) (p5 : Nat) (cn : Int32)  : mRd l yX5_isFull wsX5_isFull ({ frames := 0, cells := 0, slots := 0, locals := 0 }) [.ref aP] (dC, dI) [(cI, .int)] [(aP, .inr (2, [.ref p0, .ref p1, .ref p2, .ref p3, .ref p4, .ref p5, .int cn]))] (fun v => (v = if 20 ≤ cn then 1 else 0)) := by
  refine o_rd (cc := cX5_isFull) (maxL := 1) (ret := (some .boolean)) (by decide) rfl (Nat.le_of_ble_eq_true rfl) ?_
  intro p e s m below meth c ls hx hb hr hml hts hown hlocks hP hK hl
  have hown : s.vm.findClass RX5 = some m.cls := hown
  have hl : lv_has ls 1 [(0, .ref aP)] := hl
  have k_1 := hts (.fieldLink RX5 30 "ZRoutines$Program" "count" "I") (List.mem_of_getElem? (i := 1) rfl)
  have i_X5 : ∀ w ∈ u_ws RX5 TX5 7, w ∈ wsX5_isFull := fun _ h => List.mem_cons_of_mem _ (List.mem_append_right _ h)
  refine lv_aload_n hx hb dX5_isFull_0 rfl (lv_at hl 0 rfl) ?_
  refine va_get (D := (dC, dI)) (ci := 2) (v := .int cn) (C := RX5) (T := TX5) (N := 7) hx hb hts i_X5 hown hK hP 0 rfl rfl 6 (by decide) k_1 (fun _ h9 => h9) rfl dX5_isFull_1 ?_
  refine lv_bipush (v := 20) hx hb dX5_isFull_4 (by decide) ?_
  refine lv_icmp_lt (tgt := 13) hx hb dX5_isFull_6 (by decide) (fun c_1 => ?_) (fun c_1 => ?_)
  · skip
    refine lv_iconst (v := 0) hx hb dX5_isFull_13 (by decide) ?_
    exact e_rdz hx hb hr hlocks dX5_isFull_14 rfl (q_X5_isFull_2 c_1)
  · skip
    refine lv_iconst (v := 1) hx hb dX5_isFull_9 (by decide) ?_
    refine lv_goto (tgt := 14) hx hb dX5_isFull_10 (by decide) ?_
    exact e_rdz hx hb hr hlocks dX5_isFull_14 rfl (q_X5_isFull_3 c_1)

theorem q_X5_append_3 {cn : Int32} {r_1 : Int32} (hcn : 0 ≤ cn) (hcn2 : cn < 20) (hr_1 : r_1 = if 20 ≤ cn then 1 else 0) (c_2 : ¬ r_1 = 0) : False := by
  grind
theorem q_X5_append_4 {cn : Int32} {r_1 : Int32} (hcn : 0 ≤ cn) (hcn2 : cn < 20) (hr_1 : r_1 = if 20 ≤ cn then 1 else 0) (c_2 : r_1 = 0) : vp_in cn 20 := by
  exact in_of (c := 20) (by decide) (by grind) (by grind)
theorem q_X5_append_5 {lc : Nat → Int32} {cn : Int32} {k : Int32} {r_1 : Int32} (hcn : 0 ≤ cn) (hcn2 : cn < 20) (hr_1 : r_1 = if 20 ≤ cn then 1 else 0) (c_2 : r_1 = 0) : (((cn + 1) - 1) = cn) ∧ ((cn + 1) = cn + 1) ∧ ((upd lc cn.toNatClampNeg k) = upd lc cn.toNatClampNeg k) := by
  grind
set_option maxHeartbeats 4000000 in
set_option maxRecDepth 100000 in
theorem c_X5_append (l : Launch) (dC : Nat → ClassId) (dI : Nat → Nat → Nat) (cI : ClassId) (sz : Nat) (aP : Nat) (p0 : Nat) (p1 : Nat) (p2 : Nat) (p3 : Nat) (p4 : Nat) (p5 : Nat) (lc : Nat → Int32) (cn : Int32) (k : Int32) (hcn : 0 ≤ cn) (hcn2 : cn < 20) : mWi l yX5_append wsX5_append ({ frames := 1, cells := 0, slots := 0, locals := 20 }) [.ref aP, .int k] (dC, dI) [(cI, .int)] [(aP, .inr (2, [.ref p0, .ref p1, .ref p2, .ref p3, .ref p4, .ref p5, .int cn])), (p0, .inl (cI, 20, .inl lc))] sz (fun (v : Int32) (u : (Int32) × (Nat → Int32)) => (v = cn) ∧ (u.1 = cn + 1) ∧ (u.2 = upd lc cn.toNatClampNeg k)) (fun u : (Int32) × (Nat → Int32) => [(aP, .inr (2, [.ref p0, .ref p1, .ref p2, .ref p3, .ref p4, .ref p5, .int u.1])), (p0, .inl (cI, 20, .inl u.2))]) := by
  refine o_wi (cc := cX5_append) (maxL := 2) (ret := (some .int)) (by decide) rfl (Nat.le_of_ble_eq_true rfl) ?_
  intro p e s m below meth c ls A hx hb hr hml hts hown hlocks hP hK hD hS hA hl
  have hown : s.vm.findClass RX5 = some m.cls := hown
  have hl : lv_has ls 2 [(0, .ref aP), (1, .int k)] := hl
  have k_1 := hts (.fieldLink RX5 9 "ZRoutines$Program" "localCounts" "[I") (List.mem_of_getElem? (i := 2) rfl)
  have k_2 := hts (.fieldLink RX5 30 "ZRoutines$Program" "count" "I") (List.mem_of_getElem? (i := 3) rfl)
  have i_X5 : ∀ w ∈ u_ws RX5 TX5 7, w ∈ wsX5_append := fun _ h => List.mem_cons_of_mem _ (List.mem_append_right _ h)
  refine lv_aload_n hx hb dX5_append_0 rfl (lv_at hl 0 rfl) ?_
  refine k_rd (ci := 2) (q0 := 0) (q := (RX5, TX5, 7)) (As := []) (rest := []) ⟨hx, hb, hml, hown, hts⟩ (c_X5_isFull l dC dI cI aP p0 p1 p2 p3 p4 p5 cn ) (cwV 0 hts gX5_append_X5_isFull rfl rfl rfl (by decide +kernel) ⟨Nat.le_of_ble_eq_true rfl, Nat.le_of_ble_eq_true rfl⟩) hK hP [0] rfl rfl rfl rfl hl.1 rfl (Nat.le_of_ble_eq_true rfl) dX5_append_1 ⟨Nat.zero_le _, Nat.zero_le _⟩ (fun r_1 hr_1 => ?_)
  have hr_1 : r_1 = if 20 ≤ cn then 1 else 0 := hr_1
  refine lv_if_eq (tgt := 10) hx hb dX5_append_4 (by decide) (fun c_2 => ?_) (fun c_2 => False.elim (q_X5_append_3 hcn hcn2 hr_1 c_2))
  refine lv_aload_n hx hb dX5_append_10 rfl (lv_at hl 0 rfl) ?_
  refine va_get (D := (dC, dI)) (ci := 2) (v := .ref p0) (C := RX5) (T := TX5) (N := 7) hx hb hts i_X5 hown hK hP 0 rfl rfl 0 (by decide) k_1 (fun _ h9 => h9) rfl dX5_append_11 ?_
  refine lv_aload_n hx hb dX5_append_14 rfl (lv_at hl 0 rfl) ?_
  refine va_get (D := (dC, dI)) (ci := 2) (v := .int cn) (C := RX5) (T := TX5) (N := 7) hx hb hts i_X5 hown hK hP 0 rfl rfl 6 (by decide) k_2 (fun _ h9 => h9) rfl dX5_append_15 ?_
  refine lv_iload_n hx hb dX5_append_18 rfl (lv_at hl 1 rfl) ?_
  refine va_iast hx hb hK hP hD hS 1 0 rfl rfl (q_X5_append_4 hcn hcn2 hr_1 c_2) dX5_append_19 (fun H locs hP hD hS => ?_)
  have hP : va_P (dC, dI) vwCl [(aP, .inr (2, [.ref p0, .ref p1, .ref p2, .ref p3, .ref p4, .ref p5, .int cn])), (p0, .inl (cI, 20, .inl (upd lc cn.toNatClampNeg k)))] H := hP
  have hD : va_D A [(aP, .inr (2, [.ref p0, .ref p1, .ref p2, .ref p3, .ref p4, .ref p5, .int cn])), (p0, .inl (cI, 20, .inl (upd lc cn.toNatClampNeg k)))] := hD
  refine lv_aload_n hx hb dX5_append_20 rfl (lv_at hl 0 rfl) ?_
  refine lv_dup hx hb dX5_append_21 rfl ?_
  refine va_get (D := (dC, dI)) (ci := 2) (v := .int cn) (C := RX5) (T := TX5) (N := 7) hx hb hts i_X5 hown hK hP 0 rfl rfl 6 (by decide) k_2 (fun _ h9 => h9) rfl dX5_append_22 ?_
  refine lv_iconst (v := 1) hx hb dX5_append_25 (by decide) ?_
  refine lv_iadd hx hb dX5_append_26 ?_
  refine va_put (D := (dC, dI)) (ci := 2) (v := .int (cn + 1)) (ty := .int) (C := RX5) (T := TX5) (N := 7) hx hb hts i_X5 tyX5 tyX5_ok nmX5 hown hK hP hD hS 0 rfl rfl 6 (by decide) k_2 (fun _ h9 => h9) rfl (by decide +kernel) rfl rfl (Nat.le_of_ble_eq_true rfl) dX5_append_27 (fun H locs hP hD hS => ?_)
  have hP : va_P (dC, dI) vwCl [(aP, .inr (2, [.ref p0, .ref p1, .ref p2, .ref p3, .ref p4, .ref p5, .int (cn + 1)])), (p0, .inl (cI, 20, .inl (upd lc cn.toNatClampNeg k)))] H := hP
  have hD : va_D A [(aP, .inr (2, [.ref p0, .ref p1, .ref p2, .ref p3, .ref p4, .ref p5, .int (cn + 1)])), (p0, .inl (cI, 20, .inl (upd lc cn.toNatClampNeg k)))] := hD
  refine lv_aload_n hx hb dX5_append_30 rfl (lv_at hl 0 rfl) ?_
  refine va_get (D := (dC, dI)) (ci := 2) (v := .int (cn + 1)) (C := RX5) (T := TX5) (N := 7) hx hb hts i_X5 hown hK hP 0 rfl rfl 6 (by decide) k_2 (fun _ h9 => h9) rfl dX5_append_31 ?_
  refine lv_iconst (v := 1) hx hb dX5_append_34 (by decide) ?_
  refine lv_isub hx hb dX5_append_35 ?_
  exact e_wi hx hb hr hlocks dX5_append_36 hK hS ((cn + 1), upd lc cn.toNatClampNeg k) hP hD (q_X5_append_5 hcn hcn2 hr_1 c_2)

theorem q_X5_has_2 {cn : Int32} {r : Int32} (c_1 : r < 0) : ((0 : Int32) = if 0 ≤ r ∧ r < cn then 1 else 0) := by
  grind
theorem q_X5_has_4 {cn : Int32} {r : Int32} (c_1 : ¬ r < 0) (c_3 : cn ≤ r) : ((0 : Int32) = if 0 ≤ r ∧ r < cn then 1 else 0) := by
  grind
theorem q_X5_has_5 {cn : Int32} {r : Int32} (c_1 : ¬ r < 0) (c_3 : ¬ cn ≤ r) : ((1 : Int32) = if 0 ≤ r ∧ r < cn then 1 else 0) := by
  grind
set_option maxHeartbeats 4000000 in
set_option maxRecDepth 100000 in
theorem c_X5_has (l : Launch) (dC : Nat → ClassId) (dI : Nat → Nat → Nat) (cI : ClassId) (aP : Nat) (p0 : Nat) (p1 : Nat) (p2 : Nat) (p3 : Nat) (p4 : Nat) (p5 : Nat) (cn : Int32) (r : Int32)  : mRd l yX5_has wsX5_has ({ frames := 0, cells := 0, slots := 0, locals := 0 }) [.ref aP, .int r] (dC, dI) [(cI, .int)] [(aP, .inr (2, [.ref p0, .ref p1, .ref p2, .ref p3, .ref p4, .ref p5, .int cn]))] (fun v => (v = if 0 ≤ r ∧ r < cn then 1 else 0)) := by
  refine o_rd (cc := cX5_has) (maxL := 2) (ret := (some .boolean)) (by decide) rfl (Nat.le_of_ble_eq_true rfl) ?_
  intro p e s m below meth c ls hx hb hr hml hts hown hlocks hP hK hl
  have hown : s.vm.findClass RX5 = some m.cls := hown
  have hl : lv_has ls 2 [(0, .ref aP), (1, .int r)] := hl
  have k_1 := hts (.fieldLink RX5 30 "ZRoutines$Program" "count" "I") (List.mem_of_getElem? (i := 1) rfl)
  have i_X5 : ∀ w ∈ u_ws RX5 TX5 7, w ∈ wsX5_has := fun _ h => List.mem_cons_of_mem _ (List.mem_append_right _ h)
  refine lv_iload_n hx hb dX5_has_0 rfl (lv_at hl 1 rfl) ?_
  refine lv_if_lt (tgt := 16) hx hb dX5_has_1 (by decide) (fun c_1 => ?_) (fun c_1 => ?_)
  · skip
    refine lv_iconst (v := 0) hx hb dX5_has_16 (by decide) ?_
    exact e_rdz hx hb hr hlocks dX5_has_17 rfl (q_X5_has_2 c_1)
  · skip
    refine lv_iload_n hx hb dX5_has_4 rfl (lv_at hl 1 rfl) ?_
    refine lv_aload_n hx hb dX5_has_5 rfl (lv_at hl 0 rfl) ?_
    refine va_get (D := (dC, dI)) (ci := 2) (v := .int cn) (C := RX5) (T := TX5) (N := 7) hx hb hts i_X5 hown hK hP 0 rfl rfl 6 (by decide) k_1 (fun _ h9 => h9) rfl dX5_has_6 ?_
    refine lv_icmp_ge (tgt := 16) hx hb dX5_has_9 (by decide) (fun c_3 => ?_) (fun c_3 => ?_)
    · skip
      refine lv_iconst (v := 0) hx hb dX5_has_16 (by decide) ?_
      exact e_rdz hx hb hr hlocks dX5_has_17 rfl (q_X5_has_4 c_1 c_3)
    · skip
      refine lv_iconst (v := 1) hx hb dX5_has_12 (by decide) ?_
      refine lv_goto (tgt := 17) hx hb dX5_has_13 (by decide) ?_
      exact e_rdz hx hb hr hlocks dX5_has_17 rfl (q_X5_has_5 c_1 c_3)

theorem q_X5_hasLocal_3 {lc : Nat → Int32} {cn : Int32} {r : Int32} {k : Int32} {r_1 : Int32} (hcn2 : cn ≤ 20) (hr_1 : r_1 = if 0 ≤ r ∧ r < cn then 1 else 0) (c_2 : r_1 = 0) : ((0 : Int32) = if 0 ≤ r ∧ r < cn ∧ 0 ≤ k ∧ k < lc r.toNatClampNeg then 1 else 0) := by
  grind
theorem q_X5_hasLocal_5 {lc : Nat → Int32} {cn : Int32} {r : Int32} {k : Int32} {r_1 : Int32} (hcn2 : cn ≤ 20) (hr_1 : r_1 = if 0 ≤ r ∧ r < cn then 1 else 0) (c_2 : ¬ r_1 = 0) (c_4 : k < 0) : ((0 : Int32) = if 0 ≤ r ∧ r < cn ∧ 0 ≤ k ∧ k < lc r.toNatClampNeg then 1 else 0) := by
  grind
theorem q_X5_hasLocal_6 {cn : Int32} {r : Int32} {k : Int32} {r_1 : Int32} (hcn2 : cn ≤ 20) (hr_1 : r_1 = if 0 ≤ r ∧ r < cn then 1 else 0) (c_2 : ¬ r_1 = 0) (c_4 : ¬ k < 0) : vp_in r 20 := by
  exact in_of (c := 20) (by decide) (by grind) (by grind)
theorem q_X5_hasLocal_8 {lc : Nat → Int32} {cn : Int32} {r : Int32} {k : Int32} {r_1 : Int32} (hcn2 : cn ≤ 20) (hr_1 : r_1 = if 0 ≤ r ∧ r < cn then 1 else 0) (c_2 : ¬ r_1 = 0) (c_4 : ¬ k < 0) (c_7 : (lc r.toNatClampNeg) ≤ k) : ((0 : Int32) = if 0 ≤ r ∧ r < cn ∧ 0 ≤ k ∧ k < lc r.toNatClampNeg then 1 else 0) := by
  grind
theorem q_X5_hasLocal_9 {lc : Nat → Int32} {cn : Int32} {r : Int32} {k : Int32} {r_1 : Int32} (hcn2 : cn ≤ 20) (hr_1 : r_1 = if 0 ≤ r ∧ r < cn then 1 else 0) (c_2 : ¬ r_1 = 0) (c_4 : ¬ k < 0) (c_7 : ¬ (lc r.toNatClampNeg) ≤ k) : ((1 : Int32) = if 0 ≤ r ∧ r < cn ∧ 0 ≤ k ∧ k < lc r.toNatClampNeg then 1 else 0) := by
  grind
set_option maxHeartbeats 4000000 in
set_option maxRecDepth 100000 in
theorem c_X5_hasLocal (l : Launch) (dC : Nat → ClassId) (dI : Nat → Nat → Nat) (cI : ClassId) (aP : Nat) (p0 : Nat) (p1 : Nat) (p2 : Nat) (p3 : Nat) (p4 : Nat) (p5 : Nat) (lc : Nat → Int32) (cn : Int32) (r : Int32) (k : Int32) (hcn2 : cn ≤ 20) : mRd l yX5_hasLocal wsX5_hasLocal ({ frames := 1, cells := 0, slots := 0, locals := 21 }) [.ref aP, .int r, .int k] (dC, dI) [(cI, .int)] [(aP, .inr (2, [.ref p0, .ref p1, .ref p2, .ref p3, .ref p4, .ref p5, .int cn])), (p0, .inl (cI, 20, .inl lc))] (fun v => (v = if 0 ≤ r ∧ r < cn ∧ 0 ≤ k ∧ k < lc r.toNatClampNeg then 1 else 0)) := by
  refine o_rd (cc := cX5_hasLocal) (maxL := 3) (ret := (some .boolean)) (by decide) rfl (Nat.le_of_ble_eq_true rfl) ?_
  intro p e s m below meth c ls hx hb hr hml hts hown hlocks hP hK hl
  have hown : s.vm.findClass RX5 = some m.cls := hown
  have hl : lv_has ls 3 [(0, .ref aP), (1, .int r), (2, .int k)] := hl
  have k_1 := hts (.fieldLink RX5 9 "ZRoutines$Program" "localCounts" "[I") (List.mem_of_getElem? (i := 1) rfl)
  have i_X5 : ∀ w ∈ u_ws RX5 TX5 7, w ∈ wsX5_hasLocal := fun _ h => List.mem_cons_of_mem _ (List.mem_append_right _ h)
  refine lv_aload_n hx hb dX5_hasLocal_0 rfl (lv_at hl 0 rfl) ?_
  refine lv_iload_n hx hb dX5_hasLocal_1 rfl (lv_at hl 1 rfl) ?_
  refine k_rd (ci := 2) (q0 := 0) (q := (RX5, TX5, 7)) (As := [.int r]) (rest := []) ⟨hx, hb, hml, hown, hts⟩ (c_X5_has l dC dI cI aP p0 p1 p2 p3 p4 p5 cn r ) (cwV 1 hts gX5_hasLocal_X5_has rfl rfl rfl (by decide +kernel) ⟨Nat.le_of_ble_eq_true rfl, Nat.le_of_ble_eq_true rfl⟩) hK hP [0] rfl rfl rfl rfl hl.1 rfl (Nat.le_of_ble_eq_true rfl) dX5_hasLocal_2 ⟨Nat.zero_le _, Nat.zero_le _⟩ (fun r_1 hr_1 => ?_)
  have hr_1 : r_1 = if 0 ≤ r ∧ r < cn then 1 else 0 := hr_1
  refine lv_if_eq (tgt := 26) hx hb dX5_hasLocal_5 (by decide) (fun c_2 => ?_) (fun c_2 => ?_)
  · skip
    refine lv_iconst (v := 0) hx hb dX5_hasLocal_26 (by decide) ?_
    exact e_rdz hx hb hr hlocks dX5_hasLocal_27 rfl (q_X5_hasLocal_3 hcn2 hr_1 c_2)
  · skip
    refine lv_iload_n hx hb dX5_hasLocal_8 rfl (lv_at hl 2 rfl) ?_
    refine lv_if_lt (tgt := 26) hx hb dX5_hasLocal_9 (by decide) (fun c_4 => ?_) (fun c_4 => ?_)
    · skip
      refine lv_iconst (v := 0) hx hb dX5_hasLocal_26 (by decide) ?_
      exact e_rdz hx hb hr hlocks dX5_hasLocal_27 rfl (q_X5_hasLocal_5 hcn2 hr_1 c_2 c_4)
    · skip
      refine lv_iload_n hx hb dX5_hasLocal_12 rfl (lv_at hl 2 rfl) ?_
      refine lv_aload_n hx hb dX5_hasLocal_13 rfl (lv_at hl 0 rfl) ?_
      refine va_get (D := (dC, dI)) (ci := 2) (v := .ref p0) (C := RX5) (T := TX5) (N := 7) hx hb hts i_X5 hown hK hP 0 rfl rfl 0 (by decide) k_1 (fun _ h9 => h9) rfl dX5_hasLocal_14 ?_
      refine lv_iload_n hx hb dX5_hasLocal_17 rfl (lv_at hl 1 rfl) ?_
      refine va_iald hx hb hK hP 1 0 rfl rfl (q_X5_hasLocal_6 hcn2 hr_1 c_2 c_4) dX5_hasLocal_18 ?_
      refine lv_icmp_ge (tgt := 26) hx hb dX5_hasLocal_19 (by decide) (fun c_7 => ?_) (fun c_7 => ?_)
      · skip
        refine lv_iconst (v := 0) hx hb dX5_hasLocal_26 (by decide) ?_
        exact e_rdz hx hb hr hlocks dX5_hasLocal_27 rfl (q_X5_hasLocal_8 hcn2 hr_1 c_2 c_4 c_7)
      · skip
        refine lv_iconst (v := 1) hx hb dX5_hasLocal_22 (by decide) ?_
        refine lv_goto (tgt := 27) hx hb dX5_hasLocal_23 (by decide) ?_
        exact e_rdz hx hb hr hlocks dX5_hasLocal_27 rfl (q_X5_hasLocal_9 hcn2 hr_1 c_2 c_4 c_7)

theorem q_X5_localCount_3 {lc : Nat → Int32} {cn : Int32} {r : Int32} {r_1 : Int32} (hcn2 : cn ≤ 20) (hr1 : 0 ≤ r) (hr2 : r < cn) (hr_1 : r_1 = if 0 ≤ r ∧ r < cn then 1 else 0) (c_2 : r_1 = 0) : ((0 : Int32) = lc r.toNatClampNeg) := by
  grind
theorem q_X5_localCount_4 {cn : Int32} {r : Int32} {r_1 : Int32} (hcn2 : cn ≤ 20) (hr1 : 0 ≤ r) (hr2 : r < cn) (hr_1 : r_1 = if 0 ≤ r ∧ r < cn then 1 else 0) (c_2 : ¬ r_1 = 0) : vp_in r 20 := by
  exact in_of (c := 20) (by decide) (by grind) (by grind)
theorem q_X5_localCount_5 {lc : Nat → Int32} {cn : Int32} {r : Int32} {r_1 : Int32} (hcn2 : cn ≤ 20) (hr1 : 0 ≤ r) (hr2 : r < cn) (hr_1 : r_1 = if 0 ≤ r ∧ r < cn then 1 else 0) (c_2 : ¬ r_1 = 0) : ((lc r.toNatClampNeg) = lc r.toNatClampNeg) := by
  grind
set_option maxHeartbeats 4000000 in
set_option maxRecDepth 100000 in
theorem c_X5_localCount (l : Launch) (dC : Nat → ClassId) (dI : Nat → Nat → Nat) (cI : ClassId) (aP : Nat) (p0 : Nat) (p1 : Nat) (p2 : Nat) (p3 : Nat) (p4 : Nat) (p5 : Nat) (lc : Nat → Int32) (cn : Int32) (r : Int32) (hcn2 : cn ≤ 20) (hr1 : 0 ≤ r) (hr2 : r < cn) : mRd l yX5_localCount wsX5_localCount ({ frames := 1, cells := 0, slots := 0, locals := 21 }) [.ref aP, .int r] (dC, dI) [(cI, .int)] [(aP, .inr (2, [.ref p0, .ref p1, .ref p2, .ref p3, .ref p4, .ref p5, .int cn])), (p0, .inl (cI, 20, .inl lc))] (fun v => (v = lc r.toNatClampNeg)) := by
  refine o_rd (cc := cX5_localCount) (maxL := 2) (ret := (some .int)) (by decide) rfl (Nat.le_of_ble_eq_true rfl) ?_
  intro p e s m below meth c ls hx hb hr hml hts hown hlocks hP hK hl
  have hown : s.vm.findClass RX5 = some m.cls := hown
  have hl : lv_has ls 2 [(0, .ref aP), (1, .int r)] := hl
  have k_1 := hts (.fieldLink RX5 9 "ZRoutines$Program" "localCounts" "[I") (List.mem_of_getElem? (i := 1) rfl)
  have i_X5 : ∀ w ∈ u_ws RX5 TX5 7, w ∈ wsX5_localCount := fun _ h => List.mem_cons_of_mem _ (List.mem_append_right _ h)
  refine lv_aload_n hx hb dX5_localCount_0 rfl (lv_at hl 0 rfl) ?_
  refine lv_iload_n hx hb dX5_localCount_1 rfl (lv_at hl 1 rfl) ?_
  refine k_rd (ci := 2) (q0 := 0) (q := (RX5, TX5, 7)) (As := [.int r]) (rest := []) ⟨hx, hb, hml, hown, hts⟩ (c_X5_has l dC dI cI aP p0 p1 p2 p3 p4 p5 cn r ) (cwV 1 hts gX5_localCount_X5_has rfl rfl rfl (by decide +kernel) ⟨Nat.le_of_ble_eq_true rfl, Nat.le_of_ble_eq_true rfl⟩) hK hP [0] rfl rfl rfl rfl hl.1 rfl (Nat.le_of_ble_eq_true rfl) dX5_localCount_2 ⟨Nat.zero_le _, Nat.zero_le _⟩ (fun r_1 hr_1 => ?_)
  have hr_1 : r_1 = if 0 ≤ r ∧ r < cn then 1 else 0 := hr_1
  refine lv_if_eq (tgt := 17) hx hb dX5_localCount_5 (by decide) (fun c_2 => ?_) (fun c_2 => ?_)
  · skip
    refine lv_iconst (v := 0) hx hb dX5_localCount_17 (by decide) ?_
    exact e_rdi hx hb hr hlocks dX5_localCount_18 (q_X5_localCount_3 hcn2 hr1 hr2 hr_1 c_2)
  · skip
    refine lv_aload_n hx hb dX5_localCount_8 rfl (lv_at hl 0 rfl) ?_
    refine va_get (D := (dC, dI)) (ci := 2) (v := .ref p0) (C := RX5) (T := TX5) (N := 7) hx hb hts i_X5 hown hK hP 0 rfl rfl 0 (by decide) k_1 (fun _ h9 => h9) rfl dX5_localCount_9 ?_
    refine lv_iload_n hx hb dX5_localCount_12 rfl (lv_at hl 1 rfl) ?_
    refine va_iald hx hb hK hP 1 0 rfl rfl (q_X5_localCount_4 hcn2 hr1 hr2 hr_1 c_2) dX5_localCount_13 ?_
    refine lv_goto (tgt := 18) hx hb dX5_localCount_14 (by decide) ?_
    exact e_rdi hx hb hr hlocks dX5_localCount_18 (q_X5_localCount_5 hcn2 hr1 hr2 hr_1 c_2)

theorem q_X5_length_3 {ln : Nat → Int32} {cn : Int32} {r : Int32} {r_1 : Int32} (hcn2 : cn ≤ 20) (hr1 : 0 ≤ r) (hr2 : r < cn) (hr_1 : r_1 = if 0 ≤ r ∧ r < cn then 1 else 0) (c_2 : r_1 = 0) : ((0 : Int32) = ln r.toNatClampNeg) := by
  grind
theorem q_X5_length_4 {cn : Int32} {r : Int32} {r_1 : Int32} (hcn2 : cn ≤ 20) (hr1 : 0 ≤ r) (hr2 : r < cn) (hr_1 : r_1 = if 0 ≤ r ∧ r < cn then 1 else 0) (c_2 : ¬ r_1 = 0) : vp_in r 20 := by
  exact in_of (c := 20) (by decide) (by grind) (by grind)
theorem q_X5_length_5 {ln : Nat → Int32} {cn : Int32} {r : Int32} {r_1 : Int32} (hcn2 : cn ≤ 20) (hr1 : 0 ≤ r) (hr2 : r < cn) (hr_1 : r_1 = if 0 ≤ r ∧ r < cn then 1 else 0) (c_2 : ¬ r_1 = 0) : ((ln r.toNatClampNeg) = ln r.toNatClampNeg) := by
  grind
set_option maxHeartbeats 4000000 in
set_option maxRecDepth 100000 in
theorem c_X5_length (l : Launch) (dC : Nat → ClassId) (dI : Nat → Nat → Nat) (cI : ClassId) (aP : Nat) (p0 : Nat) (p1 : Nat) (p2 : Nat) (p3 : Nat) (p4 : Nat) (p5 : Nat) (ln : Nat → Int32) (cn : Int32) (r : Int32) (hcn2 : cn ≤ 20) (hr1 : 0 ≤ r) (hr2 : r < cn) : mRd l yX5_length wsX5_length ({ frames := 1, cells := 0, slots := 0, locals := 21 }) [.ref aP, .int r] (dC, dI) [(cI, .int)] [(aP, .inr (2, [.ref p0, .ref p1, .ref p2, .ref p3, .ref p4, .ref p5, .int cn])), (p1, .inl (cI, 20, .inl ln))] (fun v => (v = ln r.toNatClampNeg)) := by
  refine o_rd (cc := cX5_length) (maxL := 2) (ret := (some .int)) (by decide) rfl (Nat.le_of_ble_eq_true rfl) ?_
  intro p e s m below meth c ls hx hb hr hml hts hown hlocks hP hK hl
  have hown : s.vm.findClass RX5 = some m.cls := hown
  have hl : lv_has ls 2 [(0, .ref aP), (1, .int r)] := hl
  have k_1 := hts (.fieldLink RX5 15 "ZRoutines$Program" "lengths" "[I") (List.mem_of_getElem? (i := 1) rfl)
  have i_X5 : ∀ w ∈ u_ws RX5 TX5 7, w ∈ wsX5_length := fun _ h => List.mem_cons_of_mem _ (List.mem_append_right _ h)
  refine lv_aload_n hx hb dX5_length_0 rfl (lv_at hl 0 rfl) ?_
  refine lv_iload_n hx hb dX5_length_1 rfl (lv_at hl 1 rfl) ?_
  refine k_rd (ci := 2) (q0 := 0) (q := (RX5, TX5, 7)) (As := [.int r]) (rest := []) ⟨hx, hb, hml, hown, hts⟩ (c_X5_has l dC dI cI aP p0 p1 p2 p3 p4 p5 cn r ) (cwV 1 hts gX5_length_X5_has rfl rfl rfl (by decide +kernel) ⟨Nat.le_of_ble_eq_true rfl, Nat.le_of_ble_eq_true rfl⟩) hK hP [0] rfl rfl rfl rfl hl.1 rfl (Nat.le_of_ble_eq_true rfl) dX5_length_2 ⟨Nat.zero_le _, Nat.zero_le _⟩ (fun r_1 hr_1 => ?_)
  have hr_1 : r_1 = if 0 ≤ r ∧ r < cn then 1 else 0 := hr_1
  refine lv_if_eq (tgt := 17) hx hb dX5_length_5 (by decide) (fun c_2 => ?_) (fun c_2 => ?_)
  · skip
    refine lv_iconst (v := 0) hx hb dX5_length_17 (by decide) ?_
    exact e_rdi hx hb hr hlocks dX5_length_18 (q_X5_length_3 hcn2 hr1 hr2 hr_1 c_2)
  · skip
    refine lv_aload_n hx hb dX5_length_8 rfl (lv_at hl 0 rfl) ?_
    refine va_get (D := (dC, dI)) (ci := 2) (v := .ref p1) (C := RX5) (T := TX5) (N := 7) hx hb hts i_X5 hown hK hP 0 rfl rfl 1 (by decide) k_1 (fun _ h9 => h9) rfl dX5_length_9 ?_
    refine lv_iload_n hx hb dX5_length_12 rfl (lv_at hl 1 rfl) ?_
    refine va_iald hx hb hK hP 1 0 rfl rfl (q_X5_length_4 hcn2 hr1 hr2 hr_1 c_2) dX5_length_13 ?_
    refine lv_goto (tgt := 18) hx hb dX5_length_14 (by decide) ?_
    exact e_rdi hx hb hr hlocks dX5_length_18 (q_X5_length_5 hcn2 hr1 hr2 hr_1 c_2)

theorem q_X5_isBodyFull_1 {cn : Int32} {r : Int32} (hcn2 : cn ≤ 20) (hr1 : 0 ≤ r) (hr2 : r < cn) : cn ≤ 20 := by
  grind
theorem q_X5_isBodyFull_2 {cn : Int32} {r : Int32} (hcn2 : cn ≤ 20) (hr1 : 0 ≤ r) (hr2 : r < cn) : 0 ≤ r := by
  grind
theorem q_X5_isBodyFull_3 {cn : Int32} {r : Int32} (hcn2 : cn ≤ 20) (hr1 : 0 ≤ r) (hr2 : r < cn) : r < cn := by
  grind
theorem q_X5_isBodyFull_6 {ln : Nat → Int32} {cn : Int32} {r : Int32} {r_4 : Int32} (hcn2 : cn ≤ 20) (hr1 : 0 ≤ r) (hr2 : r < cn) (hr_4 : r_4 = ln r.toNatClampNeg) (c_5 : r_4 < 24) : ((0 : Int32) = if 24 ≤ ln r.toNatClampNeg then 1 else 0) := by
  grind
theorem q_X5_isBodyFull_7 {ln : Nat → Int32} {cn : Int32} {r : Int32} {r_4 : Int32} (hcn2 : cn ≤ 20) (hr1 : 0 ≤ r) (hr2 : r < cn) (hr_4 : r_4 = ln r.toNatClampNeg) (c_5 : ¬ r_4 < 24) : ((1 : Int32) = if 24 ≤ ln r.toNatClampNeg then 1 else 0) := by
  grind
set_option maxHeartbeats 4000000 in
set_option maxRecDepth 100000 in
theorem c_X5_isBodyFull (l : Launch) (dC : Nat → ClassId) (dI : Nat → Nat → Nat) (cI : ClassId) (aP : Nat) (p0 : Nat) (p1 : Nat) (p2 : Nat) (p3 : Nat) (p4 : Nat) (p5 : Nat) (ln : Nat → Int32) (cn : Int32) (r : Int32) (hcn2 : cn ≤ 20) (hr1 : 0 ≤ r) (hr2 : r < cn) : mRd l yX5_isBodyFull wsX5_isBodyFull ({ frames := 2, cells := 0, slots := 0, locals := 42 }) [.ref aP, .int r] (dC, dI) [(cI, .int)] [(aP, .inr (2, [.ref p0, .ref p1, .ref p2, .ref p3, .ref p4, .ref p5, .int cn])), (p1, .inl (cI, 20, .inl ln))] (fun v => (v = if 24 ≤ ln r.toNatClampNeg then 1 else 0)) := by
  refine o_rd (cc := cX5_isBodyFull) (maxL := 2) (ret := (some .boolean)) (by decide) rfl (Nat.le_of_ble_eq_true rfl) ?_
  intro p e s m below meth c ls hx hb hr hml hts hown hlocks hP hK hl
  have hown : s.vm.findClass RX5 = some m.cls := hown
  have hl : lv_has ls 2 [(0, .ref aP), (1, .int r)] := hl
  refine lv_aload_n hx hb dX5_isBodyFull_0 rfl (lv_at hl 0 rfl) ?_
  refine lv_iload_n hx hb dX5_isBodyFull_1 rfl (lv_at hl 1 rfl) ?_
  refine k_rd (ci := 2) (q0 := 0) (q := (RX5, TX5, 7)) (As := [.int r]) (rest := []) ⟨hx, hb, hml, hown, hts⟩ (c_X5_length l dC dI cI aP p0 p1 p2 p3 p4 p5 ln cn r (q_X5_isBodyFull_1 hcn2 hr1 hr2) (q_X5_isBodyFull_2 hcn2 hr1 hr2) (q_X5_isBodyFull_3 hcn2 hr1 hr2)) (cwV 1 hts gX5_isBodyFull_X5_length rfl rfl rfl (by decide +kernel) ⟨Nat.le_of_ble_eq_true rfl, Nat.le_of_ble_eq_true rfl⟩) hK hP [0, 1] rfl rfl rfl rfl hl.1 rfl (Nat.le_of_ble_eq_true rfl) dX5_isBodyFull_2 ⟨Nat.zero_le _, Nat.zero_le _⟩ (fun r_4 hr_4 => ?_)
  have hr_4 : r_4 = ln r.toNatClampNeg := hr_4
  refine lv_bipush (v := 24) hx hb dX5_isBodyFull_5 (by decide) ?_
  refine lv_icmp_lt (tgt := 14) hx hb dX5_isBodyFull_7 (by decide) (fun c_5 => ?_) (fun c_5 => ?_)
  · skip
    refine lv_iconst (v := 0) hx hb dX5_isBodyFull_14 (by decide) ?_
    exact e_rdz hx hb hr hlocks dX5_isBodyFull_15 rfl (q_X5_isBodyFull_6 hcn2 hr1 hr2 hr_4 c_5)
  · skip
    refine lv_iconst (v := 1) hx hb dX5_isBodyFull_10 (by decide) ?_
    refine lv_goto (tgt := 15) hx hb dX5_isBodyFull_11 (by decide) ?_
    exact e_rdz hx hb hr hlocks dX5_isBodyFull_15 rfl (q_X5_isBodyFull_7 hcn2 hr1 hr2 hr_4 c_5)

theorem q_X5_hasPlace_3 {ln : Nat → Int32} {cn : Int32} {r : Int32} {k : Int32} {r_1 : Int32} (hcn2 : cn ≤ 20) (hr1 : 0 ≤ r) (hr2 : r < cn) (hr_1 : r_1 = if 0 ≤ r ∧ r < cn then 1 else 0) (c_2 : r_1 = 0) : ((0 : Int32) = if 0 ≤ k ∧ k < ln r.toNatClampNeg then 1 else 0) := by
  grind
theorem q_X5_hasPlace_5 {ln : Nat → Int32} {cn : Int32} {r : Int32} {k : Int32} {r_1 : Int32} (hcn2 : cn ≤ 20) (hr1 : 0 ≤ r) (hr2 : r < cn) (hr_1 : r_1 = if 0 ≤ r ∧ r < cn then 1 else 0) (c_2 : ¬ r_1 = 0) (c_4 : k < 0) : ((0 : Int32) = if 0 ≤ k ∧ k < ln r.toNatClampNeg then 1 else 0) := by
  grind
theorem q_X5_hasPlace_6 {cn : Int32} {r : Int32} {k : Int32} {r_1 : Int32} (hcn2 : cn ≤ 20) (hr1 : 0 ≤ r) (hr2 : r < cn) (hr_1 : r_1 = if 0 ≤ r ∧ r < cn then 1 else 0) (c_2 : ¬ r_1 = 0) (c_4 : ¬ k < 0) : vp_in r 20 := by
  exact in_of (c := 20) (by decide) (by grind) (by grind)
theorem q_X5_hasPlace_8 {ln : Nat → Int32} {cn : Int32} {r : Int32} {k : Int32} {r_1 : Int32} (hcn2 : cn ≤ 20) (hr1 : 0 ≤ r) (hr2 : r < cn) (hr_1 : r_1 = if 0 ≤ r ∧ r < cn then 1 else 0) (c_2 : ¬ r_1 = 0) (c_4 : ¬ k < 0) (c_7 : (ln r.toNatClampNeg) ≤ k) : ((0 : Int32) = if 0 ≤ k ∧ k < ln r.toNatClampNeg then 1 else 0) := by
  grind
theorem q_X5_hasPlace_9 {ln : Nat → Int32} {cn : Int32} {r : Int32} {k : Int32} {r_1 : Int32} (hcn2 : cn ≤ 20) (hr1 : 0 ≤ r) (hr2 : r < cn) (hr_1 : r_1 = if 0 ≤ r ∧ r < cn then 1 else 0) (c_2 : ¬ r_1 = 0) (c_4 : ¬ k < 0) (c_7 : ¬ (ln r.toNatClampNeg) ≤ k) : ((1 : Int32) = if 0 ≤ k ∧ k < ln r.toNatClampNeg then 1 else 0) := by
  grind
set_option maxHeartbeats 4000000 in
set_option maxRecDepth 100000 in
theorem c_X5_hasPlace (l : Launch) (dC : Nat → ClassId) (dI : Nat → Nat → Nat) (cI : ClassId) (aP : Nat) (p0 : Nat) (p1 : Nat) (p2 : Nat) (p3 : Nat) (p4 : Nat) (p5 : Nat) (ln : Nat → Int32) (cn : Int32) (r : Int32) (k : Int32) (hcn2 : cn ≤ 20) (hr1 : 0 ≤ r) (hr2 : r < cn) : mRd l yX5_hasPlace wsX5_hasPlace ({ frames := 1, cells := 0, slots := 0, locals := 21 }) [.ref aP, .int r, .int k] (dC, dI) [(cI, .int)] [(aP, .inr (2, [.ref p0, .ref p1, .ref p2, .ref p3, .ref p4, .ref p5, .int cn])), (p1, .inl (cI, 20, .inl ln))] (fun v => (v = if 0 ≤ k ∧ k < ln r.toNatClampNeg then 1 else 0)) := by
  refine o_rd (cc := cX5_hasPlace) (maxL := 3) (ret := (some .boolean)) (by decide) rfl (Nat.le_of_ble_eq_true rfl) ?_
  intro p e s m below meth c ls hx hb hr hml hts hown hlocks hP hK hl
  have hown : s.vm.findClass RX5 = some m.cls := hown
  have hl : lv_has ls 3 [(0, .ref aP), (1, .int r), (2, .int k)] := hl
  have k_1 := hts (.fieldLink RX5 15 "ZRoutines$Program" "lengths" "[I") (List.mem_of_getElem? (i := 1) rfl)
  have i_X5 : ∀ w ∈ u_ws RX5 TX5 7, w ∈ wsX5_hasPlace := fun _ h => List.mem_cons_of_mem _ (List.mem_append_right _ h)
  refine lv_aload_n hx hb dX5_hasPlace_0 rfl (lv_at hl 0 rfl) ?_
  refine lv_iload_n hx hb dX5_hasPlace_1 rfl (lv_at hl 1 rfl) ?_
  refine k_rd (ci := 2) (q0 := 0) (q := (RX5, TX5, 7)) (As := [.int r]) (rest := []) ⟨hx, hb, hml, hown, hts⟩ (c_X5_has l dC dI cI aP p0 p1 p2 p3 p4 p5 cn r ) (cwV 1 hts gX5_hasPlace_X5_has rfl rfl rfl (by decide +kernel) ⟨Nat.le_of_ble_eq_true rfl, Nat.le_of_ble_eq_true rfl⟩) hK hP [0] rfl rfl rfl rfl hl.1 rfl (Nat.le_of_ble_eq_true rfl) dX5_hasPlace_2 ⟨Nat.zero_le _, Nat.zero_le _⟩ (fun r_1 hr_1 => ?_)
  have hr_1 : r_1 = if 0 ≤ r ∧ r < cn then 1 else 0 := hr_1
  refine lv_if_eq (tgt := 26) hx hb dX5_hasPlace_5 (by decide) (fun c_2 => ?_) (fun c_2 => ?_)
  · skip
    refine lv_iconst (v := 0) hx hb dX5_hasPlace_26 (by decide) ?_
    exact e_rdz hx hb hr hlocks dX5_hasPlace_27 rfl (q_X5_hasPlace_3 hcn2 hr1 hr2 hr_1 c_2)
  · skip
    refine lv_iload_n hx hb dX5_hasPlace_8 rfl (lv_at hl 2 rfl) ?_
    refine lv_if_lt (tgt := 26) hx hb dX5_hasPlace_9 (by decide) (fun c_4 => ?_) (fun c_4 => ?_)
    · skip
      refine lv_iconst (v := 0) hx hb dX5_hasPlace_26 (by decide) ?_
      exact e_rdz hx hb hr hlocks dX5_hasPlace_27 rfl (q_X5_hasPlace_5 hcn2 hr1 hr2 hr_1 c_2 c_4)
    · skip
      refine lv_iload_n hx hb dX5_hasPlace_12 rfl (lv_at hl 2 rfl) ?_
      refine lv_aload_n hx hb dX5_hasPlace_13 rfl (lv_at hl 0 rfl) ?_
      refine va_get (D := (dC, dI)) (ci := 2) (v := .ref p1) (C := RX5) (T := TX5) (N := 7) hx hb hts i_X5 hown hK hP 0 rfl rfl 1 (by decide) k_1 (fun _ h9 => h9) rfl dX5_hasPlace_14 ?_
      refine lv_iload_n hx hb dX5_hasPlace_17 rfl (lv_at hl 1 rfl) ?_
      refine va_iald hx hb hK hP 1 0 rfl rfl (q_X5_hasPlace_6 hcn2 hr1 hr2 hr_1 c_2 c_4) dX5_hasPlace_18 ?_
      refine lv_icmp_ge (tgt := 26) hx hb dX5_hasPlace_19 (by decide) (fun c_7 => ?_) (fun c_7 => ?_)
      · skip
        refine lv_iconst (v := 0) hx hb dX5_hasPlace_26 (by decide) ?_
        exact e_rdz hx hb hr hlocks dX5_hasPlace_27 rfl (q_X5_hasPlace_8 hcn2 hr1 hr2 hr_1 c_2 c_4 c_7)
      · skip
        refine lv_iconst (v := 1) hx hb dX5_hasPlace_22 (by decide) ?_
        refine lv_goto (tgt := 27) hx hb dX5_hasPlace_23 (by decide) ?_
        exact e_rdz hx hb hr hlocks dX5_hasPlace_27 rfl (q_X5_hasPlace_9 hcn2 hr1 hr2 hr_1 c_2 c_4 c_7)

theorem q_X5_setFirstValue_1 {lc : Nat → Int32} {cn : Int32} {r : Int32} {k : Int32} (hcn2 : cn ≤ 20) (hr1 : 0 ≤ r) (hr2 : r < cn) (hk1 : 0 ≤ k) (hk2 : k < lc r.toNatClampNeg) (hll : lc r.toNatClampNeg ≤ 15) : cn ≤ 20 := by
  grind
theorem q_X5_setFirstValue_4 {lc : Nat → Int32} {cn : Int32} {r : Int32} {k : Int32} {r_2 : Int32} (hcn2 : cn ≤ 20) (hr1 : 0 ≤ r) (hr2 : r < cn) (hk1 : 0 ≤ k) (hk2 : k < lc r.toNatClampNeg) (hll : lc r.toNatClampNeg ≤ 15) (hr_2 : r_2 = if 0 ≤ r ∧ r < cn ∧ 0 ≤ k ∧ k < lc r.toNatClampNeg then 1 else 0) (c_3 : r_2 = 0) : False := by
  grind
theorem q_X5_setFirstValue_5 {lc : Nat → Int32} {cn : Int32} {r : Int32} {k : Int32} {r_2 : Int32} (hcn2 : cn ≤ 20) (hr1 : 0 ≤ r) (hr2 : r < cn) (hk1 : 0 ≤ k) (hk2 : k < lc r.toNatClampNeg) (hll : lc r.toNatClampNeg ≤ 15) (hr_2 : r_2 = if 0 ≤ r ∧ r < cn ∧ 0 ≤ k ∧ k < lc r.toNatClampNeg then 1 else 0) (c_3 : ¬ r_2 = 0) : vp_in ((r * 15) + k) 300 := by
  exact in_of (c := 300) (by decide) (by grind) (by grind)
theorem q_X5_setFirstValue_6 {lc : Nat → Int32} {fv : Nat → Int32} {cn : Int32} {r : Int32} {k : Int32} {w : Int32} {r_2 : Int32} (hcn2 : cn ≤ 20) (hr1 : 0 ≤ r) (hr2 : r < cn) (hk1 : 0 ≤ k) (hk2 : k < lc r.toNatClampNeg) (hll : lc r.toNatClampNeg ≤ 15) (hr_2 : r_2 = if 0 ≤ r ∧ r < cn ∧ 0 ≤ k ∧ k < lc r.toNatClampNeg then 1 else 0) (c_3 : ¬ r_2 = 0) : ((upd fv ((r * 15) + k).toNatClampNeg (sx w)) = upd fv (r * 15 + k).toNatClampNeg (sx w)) := by
  grind
set_option maxHeartbeats 4000000 in
set_option maxRecDepth 100000 in
theorem c_X5_setFirstValue (l : Launch) (dC : Nat → ClassId) (dI : Nat → Nat → Nat) (cI : ClassId) (sz : Nat) (aP : Nat) (p0 : Nat) (p1 : Nat) (p2 : Nat) (p3 : Nat) (p4 : Nat) (p5 : Nat) (lc : Nat → Int32) (fv : Nat → Int32) (cn : Int32) (r : Int32) (k : Int32) (w : Int32) (hcn2 : cn ≤ 20) (hr1 : 0 ≤ r) (hr2 : r < cn) (hk1 : 0 ≤ k) (hk2 : k < lc r.toNatClampNeg) (hll : lc r.toNatClampNeg ≤ 15) : mWv l yX5_setFirstValue wsX5_setFirstValue ({ frames := 2, cells := 0, slots := 0, locals := 43 }) [.ref aP, .int r, .int k, .int w] (dC, dI) [(cI, .int)] [(aP, .inr (2, [.ref p0, .ref p1, .ref p2, .ref p3, .ref p4, .ref p5, .int cn])), (p0, .inl (cI, 20, .inl lc)), (p2, .inl (cI, 300, .inl fv))] sz (fun u : (Nat → Int32) => (u = upd fv (r * 15 + k).toNatClampNeg (sx w))) (fun u : (Nat → Int32) => [(aP, .inr (2, [.ref p0, .ref p1, .ref p2, .ref p3, .ref p4, .ref p5, .int cn])), (p0, .inl (cI, 20, .inl lc)), (p2, .inl (cI, 300, .inl u))]) := by
  refine o_wv (cc := cX5_setFirstValue) (maxL := 4) (ret := none) (by decide) rfl (Nat.le_of_ble_eq_true rfl) ?_
  intro p e s m below meth c ls A hx hb hr hml hts hown hlocks hP hK hD hS hA hl
  have hown : s.vm.findClass RX5 = some m.cls := hown
  have hl : lv_has ls 4 [(0, .ref aP), (1, .int r), (2, .int k), (3, .int w)] := hl
  have k_1 := hts (.fieldLink RX5 18 "ZRoutines$Program" "firstValues" "[I") (List.mem_of_getElem? (i := 1) rfl)
  have i_X5 : ∀ w ∈ u_ws RX5 TX5 7, w ∈ wsX5_setFirstValue := fun _ h => List.mem_cons_of_mem _ (List.mem_append_right _ h)
  refine lv_aload_n hx hb dX5_setFirstValue_0 rfl (lv_at hl 0 rfl) ?_
  refine lv_iload_n hx hb dX5_setFirstValue_1 rfl (lv_at hl 1 rfl) ?_
  refine lv_iload_n hx hb dX5_setFirstValue_2 rfl (lv_at hl 2 rfl) ?_
  refine k_rd (ci := 2) (q0 := 0) (q := (RX5, TX5, 7)) (As := [.int r, .int k]) (rest := []) ⟨hx, hb, hml, hown, hts⟩ (c_X5_hasLocal l dC dI cI aP p0 p1 p2 p3 p4 p5 lc cn r k (q_X5_setFirstValue_1 hcn2 hr1 hr2 hk1 hk2 hll)) (cwV 2 hts gX5_setFirstValue_X5_hasLocal rfl rfl rfl (by decide +kernel) ⟨Nat.le_of_ble_eq_true rfl, Nat.le_of_ble_eq_true rfl⟩) hK hP [0, 1] rfl rfl rfl rfl hl.1 rfl (Nat.le_of_ble_eq_true rfl) dX5_setFirstValue_3 ⟨Nat.zero_le _, Nat.zero_le _⟩ (fun r_2 hr_2 => ?_)
  have hr_2 : r_2 = if 0 ≤ r ∧ r < cn ∧ 0 ≤ k ∧ k < lc r.toNatClampNeg then 1 else 0 := hr_2
  refine lv_if_eq (tgt := 22) hx hb dX5_setFirstValue_6 (by decide) (fun c_3 => False.elim (q_X5_setFirstValue_4 hcn2 hr1 hr2 hk1 hk2 hll hr_2 c_3)) (fun c_3 => ?_)
  refine lv_aload_n hx hb dX5_setFirstValue_9 rfl (lv_at hl 0 rfl) ?_
  refine va_get (D := (dC, dI)) (ci := 2) (v := .ref p2) (C := RX5) (T := TX5) (N := 7) hx hb hts i_X5 hown hK hP 0 rfl rfl 2 (by decide) k_1 (fun _ h9 => h9) rfl dX5_setFirstValue_10 ?_
  refine lv_iload_n hx hb dX5_setFirstValue_13 rfl (lv_at hl 1 rfl) ?_
  refine lv_bipush (v := 15) hx hb dX5_setFirstValue_14 (by decide) ?_
  refine lv_imul hx hb dX5_setFirstValue_16 ?_
  refine lv_iload_n hx hb dX5_setFirstValue_17 rfl (lv_at hl 2 rfl) ?_
  refine lv_iadd hx hb dX5_setFirstValue_18 ?_
  refine lv_iload_n hx hb dX5_setFirstValue_19 rfl (lv_at hl 3 rfl) ?_
  refine lv_i2s (v := sx w) hx hb dX5_setFirstValue_20 rfl ?_
  refine va_iast hx hb hK hP hD hS 2 0 rfl rfl (q_X5_setFirstValue_5 hcn2 hr1 hr2 hk1 hk2 hll hr_2 c_3) dX5_setFirstValue_21 (fun H locs hP hD hS => ?_)
  have hP : va_P (dC, dI) vwCl [(aP, .inr (2, [.ref p0, .ref p1, .ref p2, .ref p3, .ref p4, .ref p5, .int cn])), (p0, .inl (cI, 20, .inl lc)), (p2, .inl (cI, 300, .inl (upd fv ((r * 15) + k).toNatClampNeg (sx w))))] H := hP
  have hD : va_D A [(aP, .inr (2, [.ref p0, .ref p1, .ref p2, .ref p3, .ref p4, .ref p5, .int cn])), (p0, .inl (cI, 20, .inl lc)), (p2, .inl (cI, 300, .inl (upd fv ((r * 15) + k).toNatClampNeg (sx w))))] := hD
  exact e_wv hx hb hr hlocks dX5_setFirstValue_22 hK hS (upd fv ((r * 15) + k).toNatClampNeg (sx w)) hP hD (q_X5_setFirstValue_6 hcn2 hr1 hr2 hk1 hk2 hll hr_2 c_3)

theorem q_X5_copyFirstValues_2 {lc : Nat → Int32} {cn : Int32} {r : Int32} {k : Int32} {o : Int32} (hcn2 : cn ≤ 20) (hr1 : 0 ≤ r) (hr2 : r < cn) (hk : k = (o + 1) * 15) (ho1 : 0 ≤ o) (ho2 : o ≤ 24) (hl1 : 0 ≤ lc r.toNatClampNeg) (hl2 : lc r.toNatClampNeg ≤ 15) (c_1 : k < 0) : False := by
  grind
theorem q_X5_copyFirstValues_4 {lc : Nat → Int32} {cn : Int32} {r : Int32} {k : Int32} {o : Int32} (hcn2 : cn ≤ 20) (hr1 : 0 ≤ r) (hr2 : r < cn) (hk : k = (o + 1) * 15) (ho1 : 0 ≤ o) (ho2 : o ≤ 24) (hl1 : 0 ≤ lc r.toNatClampNeg) (hl2 : lc r.toNatClampNeg ≤ 15) (c_1 : ¬ k < 0) (c_3 : (390 - 15) < k) : False := by
  grind
theorem q_X5_copyFirstValues_8 {lc : Nat → Int32} {cn : Int32} {r : Int32} {k : Int32} {o : Int32} {r_6 : Int32} (hcn2 : cn ≤ 20) (hr1 : 0 ≤ r) (hr2 : r < cn) (hk : k = (o + 1) * 15) (ho1 : 0 ≤ o) (ho2 : o ≤ 24) (hl1 : 0 ≤ lc r.toNatClampNeg) (hl2 : lc r.toNatClampNeg ≤ 15) (c_1 : ¬ k < 0) (c_3 : ¬ (390 - 15) < k) (hr_6 : r_6 = if 0 ≤ r ∧ r < cn then 1 else 0) (c_7 : r_6 = 0) : False := by
  grind
theorem q_X5_copyFirstValues_9 {lc : Nat → Int32} {cn : Int32} {r : Int32} {k : Int32} {o : Int32} {r_6 : Int32} (hcn2 : cn ≤ 20) (hr1 : 0 ≤ r) (hr2 : r < cn) (hk : k = (o + 1) * 15) (ho1 : 0 ≤ o) (ho2 : o ≤ 24) (hl1 : 0 ≤ lc r.toNatClampNeg) (hl2 : lc r.toNatClampNeg ≤ 15) (c_1 : ¬ k < 0) (c_3 : ¬ (390 - 15) < k) (hr_6 : r_6 = if 0 ≤ r ∧ r < cn then 1 else 0) (c_7 : ¬ r_6 = 0) : vp_in r 20 := by
  exact in_of (c := 20) (by decide) (by grind) (by grind)
theorem q_X5_copyFirstValues_10 {lc : Nat → Int32} {cn : Int32} {r : Int32} {k : Int32} {o : Int32} {r_6 : Int32} (hcn2 : cn ≤ 20) (hr1 : 0 ≤ r) (hr2 : r < cn) (hk : k = (o + 1) * 15) (ho1 : 0 ≤ o) (ho2 : o ≤ 24) (hl1 : 0 ≤ lc r.toNatClampNeg) (hl2 : lc r.toNatClampNeg ≤ 15) (c_1 : ¬ k < 0) (c_3 : ¬ (390 - 15) < k) (hr_6 : r_6 = if 0 ≤ r ∧ r < cn then 1 else 0) (c_7 : ¬ r_6 = 0) : ¬ (r * 15) < 0 := by
  grind
theorem q_X5_copyFirstValues_11 {lc : Nat → Int32} {cn : Int32} {r : Int32} {k : Int32} {o : Int32} {r_6 : Int32} (hcn2 : cn ≤ 20) (hr1 : 0 ≤ r) (hr2 : r < cn) (hk : k = (o + 1) * 15) (ho1 : 0 ≤ o) (ho2 : o ≤ 24) (hl1 : 0 ≤ lc r.toNatClampNeg) (hl2 : lc r.toNatClampNeg ≤ 15) (c_1 : ¬ k < 0) (c_3 : ¬ (390 - 15) < k) (hr_6 : r_6 = if 0 ≤ r ∧ r < cn then 1 else 0) (c_7 : ¬ r_6 = 0) : ¬ k < 0 := by
  grind
theorem q_X5_copyFirstValues_12 {lc : Nat → Int32} {cn : Int32} {r : Int32} {k : Int32} {o : Int32} {r_6 : Int32} (hcn2 : cn ≤ 20) (hr1 : 0 ≤ r) (hr2 : r < cn) (hk : k = (o + 1) * 15) (ho1 : 0 ≤ o) (ho2 : o ≤ 24) (hl1 : 0 ≤ lc r.toNatClampNeg) (hl2 : lc r.toNatClampNeg ≤ 15) (c_1 : ¬ k < 0) (c_3 : ¬ (390 - 15) < k) (hr_6 : r_6 = if 0 ≤ r ∧ r < cn then 1 else 0) (c_7 : ¬ r_6 = 0) : ¬ (lc r.toNatClampNeg) < 0 := by
  grind
theorem q_X5_copyFirstValues_13 {lc : Nat → Int32} {cn : Int32} {r : Int32} {k : Int32} {o : Int32} {r_6 : Int32} (hcn2 : cn ≤ 20) (hr1 : 0 ≤ r) (hr2 : r < cn) (hk : k = (o + 1) * 15) (ho1 : 0 ≤ o) (ho2 : o ≤ 24) (hl1 : 0 ≤ lc r.toNatClampNeg) (hl2 : lc r.toNatClampNeg ≤ 15) (c_1 : ¬ k < 0) (c_3 : ¬ (390 - 15) < k) (hr_6 : r_6 = if 0 ≤ r ∧ r < cn then 1 else 0) (c_7 : ¬ r_6 = 0) : (r * 15).toNatClampNeg + (lc r.toNatClampNeg).toNatClampNeg ≤ 300 := by
  exact cp_in (c := 300) (by decide) (by grind) (by grind) (by grind)
theorem q_X5_copyFirstValues_14 {lc : Nat → Int32} {cn : Int32} {r : Int32} {k : Int32} {o : Int32} {r_6 : Int32} (hcn2 : cn ≤ 20) (hr1 : 0 ≤ r) (hr2 : r < cn) (hk : k = (o + 1) * 15) (ho1 : 0 ≤ o) (ho2 : o ≤ 24) (hl1 : 0 ≤ lc r.toNatClampNeg) (hl2 : lc r.toNatClampNeg ≤ 15) (c_1 : ¬ k < 0) (c_3 : ¬ (390 - 15) < k) (hr_6 : r_6 = if 0 ≤ r ∧ r < cn then 1 else 0) (c_7 : ¬ r_6 = 0) : k.toNatClampNeg + (lc r.toNatClampNeg).toNatClampNeg ≤ 390 := by
  exact cp_in (c := 390) (by decide) (by grind) (by grind) (by grind)
theorem q_X5_copyFirstValues_15 {lc : Nat → Int32} {fv : Nat → Int32} {vs : Nat → Int32} {cn : Int32} {r : Int32} {k : Int32} {o : Int32} {r_6 : Int32} (hcn2 : cn ≤ 20) (hr1 : 0 ≤ r) (hr2 : r < cn) (hk : k = (o + 1) * 15) (ho1 : 0 ≤ o) (ho2 : o ≤ 24) (hl1 : 0 ≤ lc r.toNatClampNeg) (hl2 : lc r.toNatClampNeg ≤ 15) (c_1 : ¬ k < 0) (c_3 : ¬ (390 - 15) < k) (hr_6 : r_6 = if 0 ≤ r ∧ r < cn then 1 else 0) (c_7 : ¬ r_6 = 0) : va_cpy fv (sw vs) (r * 15).toNatClampNeg k.toNatClampNeg (lc r.toNatClampNeg).toNatClampNeg = sw (va_cpy fv vs (r * 15).toNatClampNeg (15 * o).toNatClampNeg (lc r.toNatClampNeg).toNatClampNeg) := by
  subst hk; rw [sw_cpy (o := o + 1) (by grind) (by grind)]; rw [show (15 * (o + 1 - 1)) = 15 * o by grind]
theorem q_X5_copyFirstValues_16 {lc : Nat → Int32} {fv : Nat → Int32} {vs : Nat → Int32} {cn : Int32} {r : Int32} {k : Int32} {o : Int32} {r_6 : Int32} (hcn2 : cn ≤ 20) (hr1 : 0 ≤ r) (hr2 : r < cn) (hk : k = (o + 1) * 15) (ho1 : 0 ≤ o) (ho2 : o ≤ 24) (hl1 : 0 ≤ lc r.toNatClampNeg) (hl2 : lc r.toNatClampNeg ≤ 15) (c_1 : ¬ k < 0) (c_3 : ¬ (390 - 15) < k) (hr_6 : r_6 = if 0 ≤ r ∧ r < cn then 1 else 0) (c_7 : ¬ r_6 = 0) : ((va_cpy fv vs (r * 15).toNatClampNeg (15 * o).toNatClampNeg (lc r.toNatClampNeg).toNatClampNeg) = va_cpy fv vs (r * 15).toNatClampNeg (15 * o).toNatClampNeg (lc r.toNatClampNeg).toNatClampNeg) := by
  grind
set_option maxHeartbeats 4000000 in
set_option maxRecDepth 100000 in
theorem c_X5_copyFirstValues (l : Launch) (dC : Nat → ClassId) (dI : Nat → Nat → Nat) (cI : ClassId) (sz : Nat) (aP : Nat) (p0 : Nat) (p1 : Nat) (p2 : Nat) (p3 : Nat) (p4 : Nat) (p5 : Nat) (f5 : Nat) (lc : Nat → Int32) (fv : Nat → Int32) (vs : Nat → Int32) (cn : Int32) (r : Int32) (k : Int32) (o : Int32) (hcn2 : cn ≤ 20) (hr1 : 0 ≤ r) (hr2 : r < cn) (hk : k = (o + 1) * 15) (ho1 : 0 ≤ o) (ho2 : o ≤ 24) (hl1 : 0 ≤ lc r.toNatClampNeg) (hl2 : lc r.toNatClampNeg ≤ 15) : mWv l yX5_copyFirstValues wsX5_copyFirstValues ({ frames := 1, cells := 0, slots := 0, locals := 21 }) [.ref aP, .int r, .ref f5, .int k] (dC, dI) [(cI, .int)] [(aP, .inr (2, [.ref p0, .ref p1, .ref p2, .ref p3, .ref p4, .ref p5, .int cn])), (p0, .inl (cI, 20, .inl lc)), (p2, .inl (cI, 300, .inl fv)), (f5, .inl (cI, 390, .inl (sw vs)))] sz (fun u : (Nat → Int32) => (u = va_cpy fv vs (r * 15).toNatClampNeg (15 * o).toNatClampNeg (lc r.toNatClampNeg).toNatClampNeg)) (fun u : (Nat → Int32) => [(aP, .inr (2, [.ref p0, .ref p1, .ref p2, .ref p3, .ref p4, .ref p5, .int cn])), (p0, .inl (cI, 20, .inl lc)), (p2, .inl (cI, 300, .inl fv)), (f5, .inl (cI, 390, .inl (sw u)))]) := by
  refine o_wv (cc := cX5_copyFirstValues) (maxL := 5) (ret := none) (by decide) rfl (Nat.le_of_ble_eq_true rfl) ?_
  intro p e s m below meth c ls A hx hb hr hml hts hown hlocks hP hK hD hS hA hl
  have hown : s.vm.findClass RX5 = some m.cls := hown
  have hl : lv_has ls 5 [(0, .ref aP), (1, .int r), (2, .ref f5), (3, .int k)] := hl
  have k_1 := hts (.fieldLink RX5 18 "ZRoutines$Program" "firstValues" "[I") (List.mem_of_getElem? (i := 1) rfl)
  have k_2 := hts (.fieldLink RX5 9 "ZRoutines$Program" "localCounts" "[I") (List.mem_of_getElem? (i := 2) rfl)
  have k_3 := hts (.methodLink RX5 47 arraycopyName) (List.mem_of_getElem? (i := 3) rfl)
  have k_4 := hts (.native arraycopyName) (List.mem_of_getElem? (i := 4) rfl)
  have k_5 := hts (.static arraycopyName) (List.mem_of_getElem? (i := 5) rfl)
  have k_6 := hts (.initialized "java/lang/System") (List.mem_of_getElem? (i := 6) rfl)
  have i_X5 : ∀ w ∈ u_ws RX5 TX5 7, w ∈ wsX5_copyFirstValues := fun _ h => List.mem_cons_of_mem _ (List.mem_append_right _ h)
  refine lv_iload_n hx hb dX5_copyFirstValues_0 rfl (lv_at hl 3 rfl) ?_
  refine lv_if_lt (tgt := 17) hx hb dX5_copyFirstValues_1 (by decide) (fun c_1 => False.elim (q_X5_copyFirstValues_2 hcn2 hr1 hr2 hk ho1 ho2 hl1 hl2 c_1)) (fun c_1 => ?_)
  refine lv_iload_n hx hb dX5_copyFirstValues_4 rfl (lv_at hl 3 rfl) ?_
  refine lv_aload_n hx hb dX5_copyFirstValues_5 rfl (lv_at hl 2 rfl) ?_
  refine va_alen hx hb hK hP 3 0 rfl rfl (v := 390) (show Int32.ofNat 390 = 390 by decide) dX5_copyFirstValues_6 ?_
  refine lv_bipush (v := 15) hx hb dX5_copyFirstValues_7 (by decide) ?_
  refine lv_isub hx hb dX5_copyFirstValues_9 ?_
  refine lv_icmp_gt (tgt := 17) hx hb dX5_copyFirstValues_10 (by decide) (fun c_3 => False.elim (q_X5_copyFirstValues_4 hcn2 hr1 hr2 hk ho1 ho2 hl1 hl2 c_1 c_3)) (fun c_3 => ?_)
  refine lv_iconst (v := 1) hx hb dX5_copyFirstValues_13 (by decide) ?_
  refine lv_goto (tgt := 18) hx hb dX5_copyFirstValues_14 (by decide) ?_
  refine lv_istore (lv' := [(4, .int 1), (0, .ref aP), (1, .int r), (2, .ref f5), (3, .int k)]) hx hb dX5_copyFirstValues_18 hl (by decide) rfl (fun ls hl => ?_)
  refine lv_iload hx hb dX5_copyFirstValues_20 (lv_at hl 0 rfl) ?_
  refine lv_if_eq (tgt := 52) hx hb dX5_copyFirstValues_22 (by decide) (fun c_5 => absurd c_5 (by decide)) (fun _ => ?_)
  refine lv_aload_n hx hb dX5_copyFirstValues_25 rfl (lv_at hl 1 rfl) ?_
  refine lv_iload_n hx hb dX5_copyFirstValues_26 rfl (lv_at hl 2 rfl) ?_
  refine k_rd (ci := 2) (q0 := 0) (q := (RX5, TX5, 7)) (As := [.int r]) (rest := []) ⟨hx, hb, hml, hown, hts⟩ (c_X5_has l dC dI cI aP p0 p1 p2 p3 p4 p5 cn r ) (cwV 1 hts gX5_copyFirstValues_X5_has rfl rfl rfl (by decide +kernel) ⟨Nat.le_of_ble_eq_true rfl, Nat.le_of_ble_eq_true rfl⟩) hK hP [0] rfl rfl rfl rfl hl.1 rfl (Nat.le_of_ble_eq_true rfl) dX5_copyFirstValues_27 ⟨Nat.zero_le _, Nat.zero_le _⟩ (fun r_6 hr_6 => ?_)
  have hr_6 : r_6 = if 0 ≤ r ∧ r < cn then 1 else 0 := hr_6
  refine lv_if_eq (tgt := 52) hx hb dX5_copyFirstValues_30 (by decide) (fun c_7 => False.elim (q_X5_copyFirstValues_8 hcn2 hr1 hr2 hk ho1 ho2 hl1 hl2 c_1 c_3 hr_6 c_7)) (fun c_7 => ?_)
  refine lv_aload_n hx hb dX5_copyFirstValues_33 rfl (lv_at hl 1 rfl) ?_
  refine va_get (D := (dC, dI)) (ci := 2) (v := .ref p2) (C := RX5) (T := TX5) (N := 7) hx hb hts i_X5 hown hK hP 0 rfl rfl 2 (by decide) k_1 (fun _ h9 => h9) rfl dX5_copyFirstValues_34 ?_
  refine lv_iload_n hx hb dX5_copyFirstValues_37 rfl (lv_at hl 2 rfl) ?_
  refine lv_bipush (v := 15) hx hb dX5_copyFirstValues_38 (by decide) ?_
  refine lv_imul hx hb dX5_copyFirstValues_40 ?_
  refine lv_aload_n hx hb dX5_copyFirstValues_41 rfl (lv_at hl 3 rfl) ?_
  refine lv_iload_n hx hb dX5_copyFirstValues_42 rfl (lv_at hl 4 rfl) ?_
  refine lv_aload_n hx hb dX5_copyFirstValues_43 rfl (lv_at hl 1 rfl) ?_
  refine va_get (D := (dC, dI)) (ci := 2) (v := .ref p0) (C := RX5) (T := TX5) (N := 7) hx hb hts i_X5 hown hK hP 0 rfl rfl 0 (by decide) k_2 (fun _ h9 => h9) rfl dX5_copyFirstValues_44 ?_
  refine lv_iload_n hx hb dX5_copyFirstValues_47 rfl (lv_at hl 2 rfl) ?_
  refine va_iald hx hb hK hP 1 0 rfl rfl (q_X5_copyFirstValues_9 hcn2 hr1 hr2 hk ho1 ho2 hl1 hl2 c_1 c_3 hr_6 c_7) dX5_copyFirstValues_48 ?_
  refine va_copyi hx hb (hml.trans hl.1.symm) hown k_3 k_4 k_5 k_6 hK hP hD hS 2 3 0 0 rfl rfl rfl rfl rfl (q_X5_copyFirstValues_10 hcn2 hr1 hr2 hk ho1 ho2 hl1 hl2 c_1 c_3 hr_6 c_7) (q_X5_copyFirstValues_11 hcn2 hr1 hr2 hk ho1 ho2 hl1 hl2 c_1 c_3 hr_6 c_7) (q_X5_copyFirstValues_12 hcn2 hr1 hr2 hk ho1 ho2 hl1 hl2 c_1 c_3 hr_6 c_7) (q_X5_copyFirstValues_13 hcn2 hr1 hr2 hk ho1 ho2 hl1 hl2 c_1 c_3 hr_6 c_7) (q_X5_copyFirstValues_14 hcn2 hr1 hr2 hk ho1 ho2 hl1 hl2 c_1 c_3 hr_6 c_7) (fun _ _ => rfl) (Nat.le_of_ble_eq_true rfl) (Nat.le_of_ble_eq_true rfl) dX5_copyFirstValues_49 (fun H locs hP hD hS => ?_)
  have hP : va_P (dC, dI) vwCl [(aP, .inr (2, [.ref p0, .ref p1, .ref p2, .ref p3, .ref p4, .ref p5, .int cn])), (p0, .inl (cI, 20, .inl lc)), (p2, .inl (cI, 300, .inl fv)), (f5, .inl (cI, 390, .inl (va_cpy fv (sw vs) (r * 15).toNatClampNeg k.toNatClampNeg (lc r.toNatClampNeg).toNatClampNeg)))] H := hP
  have hD : va_D A [(aP, .inr (2, [.ref p0, .ref p1, .ref p2, .ref p3, .ref p4, .ref p5, .int cn])), (p0, .inl (cI, 20, .inl lc)), (p2, .inl (cI, 300, .inl fv)), (f5, .inl (cI, 390, .inl (va_cpy fv (sw vs) (r * 15).toNatClampNeg k.toNatClampNeg (lc r.toNatClampNeg).toNatClampNeg)))] := hD
  rw [(q_X5_copyFirstValues_15 hcn2 hr1 hr2 hk ho1 ho2 hl1 hl2 c_1 c_3 hr_6 c_7)] at hP hD
  have hP : va_P (dC, dI) vwCl [(aP, .inr (2, [.ref p0, .ref p1, .ref p2, .ref p3, .ref p4, .ref p5, .int cn])), (p0, .inl (cI, 20, .inl lc)), (p2, .inl (cI, 300, .inl fv)), (f5, .inl (cI, 390, .inl (sw (va_cpy fv vs (r * 15).toNatClampNeg (15 * o).toNatClampNeg (lc r.toNatClampNeg).toNatClampNeg))))] H := hP
  have hD : va_D A [(aP, .inr (2, [.ref p0, .ref p1, .ref p2, .ref p3, .ref p4, .ref p5, .int cn])), (p0, .inl (cI, 20, .inl lc)), (p2, .inl (cI, 300, .inl fv)), (f5, .inl (cI, 390, .inl (sw (va_cpy fv vs (r * 15).toNatClampNeg (15 * o).toNatClampNeg (lc r.toNatClampNeg).toNatClampNeg))))] := hD
  exact e_wv hx hb hr hlocks dX5_copyFirstValues_52 hK hS (va_cpy fv vs (r * 15).toNatClampNeg (15 * o).toNatClampNeg (lc r.toNatClampNeg).toNatClampNeg) hP hD (q_X5_copyFirstValues_16 hcn2 hr1 hr2 hk ho1 ho2 hl1 hl2 c_1 c_3 hr_6 c_7)

theorem q_X5_appendInstruction_3 {ln : Nat → Int32} {cn : Int32} {r : Int32} {r_1 : Int32} (hcn2 : cn ≤ 20) (hr1 : 0 ≤ r) (hr2 : r < cn) (hl1 : 0 ≤ ln r.toNatClampNeg) (hl2 : ln r.toNatClampNeg < 24) (hr_1 : r_1 = if 0 ≤ r ∧ r < cn then 1 else 0) (c_2 : r_1 = 0) : False := by
  (try simp only [upd_s]) <;> grind
theorem q_X5_appendInstruction_4 {ln : Nat → Int32} {cn : Int32} {r : Int32} {r_1 : Int32} (hcn2 : cn ≤ 20) (hr1 : 0 ≤ r) (hr2 : r < cn) (hl1 : 0 ≤ ln r.toNatClampNeg) (hl2 : ln r.toNatClampNeg < 24) (hr_1 : r_1 = if 0 ≤ r ∧ r < cn then 1 else 0) (c_2 : ¬ r_1 = 0) : cn ≤ 20 := by
  (try simp only [upd_s]) <;> grind
theorem q_X5_appendInstruction_5 {ln : Nat → Int32} {cn : Int32} {r : Int32} {r_1 : Int32} (hcn2 : cn ≤ 20) (hr1 : 0 ≤ r) (hr2 : r < cn) (hl1 : 0 ≤ ln r.toNatClampNeg) (hl2 : ln r.toNatClampNeg < 24) (hr_1 : r_1 = if 0 ≤ r ∧ r < cn then 1 else 0) (c_2 : ¬ r_1 = 0) : 0 ≤ r := by
  (try simp only [upd_s]) <;> grind
theorem q_X5_appendInstruction_6 {ln : Nat → Int32} {cn : Int32} {r : Int32} {r_1 : Int32} (hcn2 : cn ≤ 20) (hr1 : 0 ≤ r) (hr2 : r < cn) (hl1 : 0 ≤ ln r.toNatClampNeg) (hl2 : ln r.toNatClampNeg < 24) (hr_1 : r_1 = if 0 ≤ r ∧ r < cn then 1 else 0) (c_2 : ¬ r_1 = 0) : r < cn := by
  (try simp only [upd_s]) <;> grind
theorem q_X5_appendInstruction_9 {ln : Nat → Int32} {cn : Int32} {r : Int32} {r_1 : Int32} {r_7 : Int32} (hcn2 : cn ≤ 20) (hr1 : 0 ≤ r) (hr2 : r < cn) (hl1 : 0 ≤ ln r.toNatClampNeg) (hl2 : ln r.toNatClampNeg < 24) (hr_1 : r_1 = if 0 ≤ r ∧ r < cn then 1 else 0) (c_2 : ¬ r_1 = 0) (hr_7 : r_7 = if 24 ≤ ln r.toNatClampNeg then 1 else 0) (c_8 : ¬ r_7 = 0) : False := by
  (try simp only [upd_s]) <;> grind
theorem q_X5_appendInstruction_10 {ln : Nat → Int32} {cn : Int32} {r : Int32} {r_1 : Int32} {r_7 : Int32} (hcn2 : cn ≤ 20) (hr1 : 0 ≤ r) (hr2 : r < cn) (hl1 : 0 ≤ ln r.toNatClampNeg) (hl2 : ln r.toNatClampNeg < 24) (hr_1 : r_1 = if 0 ≤ r ∧ r < cn then 1 else 0) (c_2 : ¬ r_1 = 0) (hr_7 : r_7 = if 24 ≤ ln r.toNatClampNeg then 1 else 0) (c_8 : r_7 = 0) : vp_in r 20 := by
  exact in_of (c := 20) (by decide) (by (try simp only [upd_s]) <;> grind) (by (try simp only [upd_s]) <;> grind)
theorem q_X5_appendInstruction_12 {ln : Nat → Int32} {cn : Int32} {r : Int32} {r_1 : Int32} {r_7 : Int32} {x_11 : Int32} (hcn2 : cn ≤ 20) (hr1 : 0 ≤ r) (hr2 : r < cn) (hl1 : 0 ≤ ln r.toNatClampNeg) (hl2 : ln r.toNatClampNeg < 24) (hr_1 : r_1 = if 0 ≤ r ∧ r < cn then 1 else 0) (c_2 : ¬ r_1 = 0) (hr_7 : r_7 = if 24 ≤ ln r.toNatClampNeg then 1 else 0) (c_8 : r_7 = 0) (ex_11 : x_11 = ((r * 24) + (ln r.toNatClampNeg))) : vp_in x_11 480 := by
  exact in_of (c := 480) (by decide) (by (try simp only [upd_s]) <;> grind) (by (try simp only [upd_s]) <;> grind)
theorem q_X5_appendInstruction_13 {ln : Nat → Int32} {cn : Int32} {r : Int32} {r_1 : Int32} {r_7 : Int32} {x_11 : Int32} (hcn2 : cn ≤ 20) (hr1 : 0 ≤ r) (hr2 : r < cn) (hl1 : 0 ≤ ln r.toNatClampNeg) (hl2 : ln r.toNatClampNeg < 24) (hr_1 : r_1 = if 0 ≤ r ∧ r < cn then 1 else 0) (c_2 : ¬ r_1 = 0) (hr_7 : r_7 = if 24 ≤ ln r.toNatClampNeg then 1 else 0) (c_8 : r_7 = 0) (ex_11 : x_11 = ((r * 24) + (ln r.toNatClampNeg))) : vp_in x_11 480 := by
  exact in_of (c := 480) (by decide) (by (try simp only [upd_s]) <;> grind) (by (try simp only [upd_s]) <;> grind)
theorem q_X5_appendInstruction_14 {ln : Nat → Int32} {cn : Int32} {r : Int32} {r_1 : Int32} {r_7 : Int32} {x_11 : Int32} (hcn2 : cn ≤ 20) (hr1 : 0 ≤ r) (hr2 : r < cn) (hl1 : 0 ≤ ln r.toNatClampNeg) (hl2 : ln r.toNatClampNeg < 24) (hr_1 : r_1 = if 0 ≤ r ∧ r < cn then 1 else 0) (c_2 : ¬ r_1 = 0) (hr_7 : r_7 = if 24 ≤ ln r.toNatClampNeg then 1 else 0) (c_8 : r_7 = 0) (ex_11 : x_11 = ((r * 24) + (ln r.toNatClampNeg))) : vp_in x_11 480 := by
  exact in_of (c := 480) (by decide) (by (try simp only [upd_s]) <;> grind) (by (try simp only [upd_s]) <;> grind)
theorem q_X5_appendInstruction_15 {ln : Nat → Int32} {cn : Int32} {r : Int32} {r_1 : Int32} {r_7 : Int32} {x_11 : Int32} (hcn2 : cn ≤ 20) (hr1 : 0 ≤ r) (hr2 : r < cn) (hl1 : 0 ≤ ln r.toNatClampNeg) (hl2 : ln r.toNatClampNeg < 24) (hr_1 : r_1 = if 0 ≤ r ∧ r < cn then 1 else 0) (c_2 : ¬ r_1 = 0) (hr_7 : r_7 = if 24 ≤ ln r.toNatClampNeg then 1 else 0) (c_8 : r_7 = 0) (ex_11 : x_11 = ((r * 24) + (ln r.toNatClampNeg))) : vp_in r 20 := by
  exact in_of (c := 20) (by decide) (by (try simp only [upd_s]) <;> grind) (by (try simp only [upd_s]) <;> grind)
theorem q_X5_appendInstruction_16 {ln : Nat → Int32} {cn : Int32} {r : Int32} {r_1 : Int32} {r_7 : Int32} {x_11 : Int32} (hcn2 : cn ≤ 20) (hr1 : 0 ≤ r) (hr2 : r < cn) (hl1 : 0 ≤ ln r.toNatClampNeg) (hl2 : ln r.toNatClampNeg < 24) (hr_1 : r_1 = if 0 ≤ r ∧ r < cn then 1 else 0) (c_2 : ¬ r_1 = 0) (hr_7 : r_7 = if 24 ≤ ln r.toNatClampNeg then 1 else 0) (c_8 : r_7 = 0) (ex_11 : x_11 = ((r * 24) + (ln r.toNatClampNeg))) : vp_in r 20 := by
  exact in_of (c := 20) (by decide) (by (try simp only [upd_s]) <;> grind) (by (try simp only [upd_s]) <;> grind)
theorem q_X5_appendInstruction_17 {ln : Nat → Int32} {cn : Int32} {r : Int32} {r_1 : Int32} {r_7 : Int32} {x_11 : Int32} (hcn2 : cn ≤ 20) (hr1 : 0 ≤ r) (hr2 : r < cn) (hl1 : 0 ≤ ln r.toNatClampNeg) (hl2 : ln r.toNatClampNeg < 24) (hr_1 : r_1 = if 0 ≤ r ∧ r < cn then 1 else 0) (c_2 : ¬ r_1 = 0) (hr_7 : r_7 = if 24 ≤ ln r.toNatClampNeg then 1 else 0) (c_8 : r_7 = 0) (ex_11 : x_11 = ((r * 24) + (ln r.toNatClampNeg))) : vp_in r 20 := by
  exact in_of (c := 20) (by decide) (by (try simp only [upd_s]) <;> grind) (by (try simp only [upd_s]) <;> grind)
theorem q_X5_appendInstruction_18 {ln : Nat → Int32} {po : Nat → Int32} {pa : Nat → Int32} {pb : Nat → Int32} {cn : Int32} {r : Int32} {k : Int32} {k2 : Int32} {k3 : Int32} {r_1 : Int32} {r_7 : Int32} {x_11 : Int32} (hcn2 : cn ≤ 20) (hr1 : 0 ≤ r) (hr2 : r < cn) (hl1 : 0 ≤ ln r.toNatClampNeg) (hl2 : ln r.toNatClampNeg < 24) (hr_1 : r_1 = if 0 ≤ r ∧ r < cn then 1 else 0) (c_2 : ¬ r_1 = 0) (hr_7 : r_7 = if 24 ≤ ln r.toNatClampNeg then 1 else 0) (c_8 : r_7 = 0) (ex_11 : x_11 = ((r * 24) + (ln r.toNatClampNeg))) : (((upd ln r.toNatClampNeg ((ln r.toNatClampNeg) + 1)) r.toNatClampNeg) = ln r.toNatClampNeg + 1) ∧ ((upd ln r.toNatClampNeg ((ln r.toNatClampNeg) + 1)) = upd ln r.toNatClampNeg (ln r.toNatClampNeg + 1)) ∧ ((upd po x_11.toNatClampNeg k) = upd po (r * 24 + ln r.toNatClampNeg).toNatClampNeg k) ∧ ((upd pa x_11.toNatClampNeg k2) = upd pa (r * 24 + ln r.toNatClampNeg).toNatClampNeg k2) ∧ ((upd pb x_11.toNatClampNeg k3) = upd pb (r * 24 + ln r.toNatClampNeg).toNatClampNeg k3) := by
  (try simp only [upd_s]) <;> grind
set_option maxHeartbeats 4000000 in
set_option maxRecDepth 100000 in
theorem c_X5_appendInstruction (l : Launch) (dC : Nat → ClassId) (dI : Nat → Nat → Nat) (cI : ClassId) (sz : Nat) (aP : Nat) (p0 : Nat) (p1 : Nat) (p2 : Nat) (p3 : Nat) (p4 : Nat) (p5 : Nat) (ln : Nat → Int32) (po : Nat → Int32) (pa : Nat → Int32) (pb : Nat → Int32) (cn : Int32) (r : Int32) (k : Int32) (k2 : Int32) (k3 : Int32) (hcn2 : cn ≤ 20) (hr1 : 0 ≤ r) (hr2 : r < cn) (hl1 : 0 ≤ ln r.toNatClampNeg) (hl2 : ln r.toNatClampNeg < 24) : mWi l yX5_appendInstruction wsX5_appendInstruction ({ frames := 3, cells := 0, slots := 0, locals := 63 }) [.ref aP, .int r, .int k, .int k2, .int k3] (dC, dI) [(cI, .int)] [(aP, .inr (2, [.ref p0, .ref p1, .ref p2, .ref p3, .ref p4, .ref p5, .int cn])), (p1, .inl (cI, 20, .inl ln)), (p3, .inl (cI, 480, .inl po)), (p4, .inl (cI, 480, .inl pa)), (p5, .inl (cI, 480, .inl pb))] sz (fun (v : Int32) (u : (Nat → Int32) × (Nat → Int32) × (Nat → Int32) × (Nat → Int32)) => (v = ln r.toNatClampNeg + 1) ∧ (u.1 = upd ln r.toNatClampNeg (ln r.toNatClampNeg + 1)) ∧ (u.2.1 = upd po (r * 24 + ln r.toNatClampNeg).toNatClampNeg k) ∧ (u.2.2.1 = upd pa (r * 24 + ln r.toNatClampNeg).toNatClampNeg k2) ∧ (u.2.2.2 = upd pb (r * 24 + ln r.toNatClampNeg).toNatClampNeg k3)) (fun u : (Nat → Int32) × (Nat → Int32) × (Nat → Int32) × (Nat → Int32) => [(aP, .inr (2, [.ref p0, .ref p1, .ref p2, .ref p3, .ref p4, .ref p5, .int cn])), (p1, .inl (cI, 20, .inl u.1)), (p3, .inl (cI, 480, .inl u.2.1)), (p4, .inl (cI, 480, .inl u.2.2.1)), (p5, .inl (cI, 480, .inl u.2.2.2))]) := by
  refine o_wi (cc := cX5_appendInstruction) (maxL := 6) (ret := (some .int)) (by decide) rfl (Nat.le_of_ble_eq_true rfl) ?_
  intro p e s m below meth c ls A hx hb hr hml hts hown hlocks hP hK hD hS hA hl
  have hown : s.vm.findClass RX5 = some m.cls := hown
  have hl : lv_has ls 6 [(0, .ref aP), (1, .int r), (2, .int k), (3, .int k2), (4, .int k3)] := hl
  have k_1 := hts (.fieldLink RX5 15 "ZRoutines$Program" "lengths" "[I") (List.mem_of_getElem? (i := 2) rfl)
  have k_2 := hts (.fieldLink RX5 21 "ZRoutines$Program" "ops" "[I") (List.mem_of_getElem? (i := 3) rfl)
  have k_3 := hts (.fieldLink RX5 24 "ZRoutines$Program" "as" "[I") (List.mem_of_getElem? (i := 4) rfl)
  have k_4 := hts (.fieldLink RX5 27 "ZRoutines$Program" "bs" "[I") (List.mem_of_getElem? (i := 5) rfl)
  have i_X5 : ∀ w ∈ u_ws RX5 TX5 7, w ∈ wsX5_appendInstruction := fun _ h => List.mem_cons_of_mem _ (List.mem_append_right _ h)
  refine lv_aload_n hx hb dX5_appendInstruction_0 rfl (lv_at hl 0 rfl) ?_
  refine lv_iload_n hx hb dX5_appendInstruction_1 rfl (lv_at hl 1 rfl) ?_
  refine k_rd (ci := 2) (q0 := 0) (q := (RX5, TX5, 7)) (As := [.int r]) (rest := []) ⟨hx, hb, hml, hown, hts⟩ (c_X5_has l dC dI cI aP p0 p1 p2 p3 p4 p5 cn r ) (cwV 1 hts gX5_appendInstruction_X5_has rfl rfl rfl (by decide +kernel) ⟨Nat.le_of_ble_eq_true rfl, Nat.le_of_ble_eq_true rfl⟩) hK hP [0] rfl rfl rfl rfl hl.1 rfl (Nat.le_of_ble_eq_true rfl) dX5_appendInstruction_2 ⟨Nat.zero_le _, Nat.zero_le _⟩ (fun r_1 hr_1 => ?_)
  have hr_1 : r_1 = if 0 ≤ r ∧ r < cn then 1 else 0 := hr_1
  refine lv_if_eq (tgt := 16) hx hb dX5_appendInstruction_5 (by decide) (fun c_2 => False.elim (q_X5_appendInstruction_3 hcn2 hr1 hr2 hl1 hl2 hr_1 c_2)) (fun c_2 => ?_)
  refine lv_aload_n hx hb dX5_appendInstruction_8 rfl (lv_at hl 0 rfl) ?_
  refine lv_iload_n hx hb dX5_appendInstruction_9 rfl (lv_at hl 1 rfl) ?_
  refine k_rd (ci := 2) (q0 := 0) (q := (RX5, TX5, 7)) (As := [.int r]) (rest := []) ⟨hx, hb, hml, hown, hts⟩ (c_X5_isBodyFull l dC dI cI aP p0 p1 p2 p3 p4 p5 ln cn r (q_X5_appendInstruction_4 hcn2 hr1 hr2 hl1 hl2 hr_1 c_2) (q_X5_appendInstruction_5 hcn2 hr1 hr2 hl1 hl2 hr_1 c_2) (q_X5_appendInstruction_6 hcn2 hr1 hr2 hl1 hl2 hr_1 c_2)) (cwV 1 hts gX5_appendInstruction_X5_isBodyFull rfl rfl rfl (by decide +kernel) ⟨Nat.le_of_ble_eq_true rfl, Nat.le_of_ble_eq_true rfl⟩) hK hP [0, 1] rfl rfl rfl rfl hl.1 rfl (Nat.le_of_ble_eq_true rfl) dX5_appendInstruction_10 ⟨Nat.zero_le _, Nat.zero_le _⟩ (fun r_7 hr_7 => ?_)
  have hr_7 : r_7 = if 24 ≤ ln r.toNatClampNeg then 1 else 0 := hr_7
  refine lv_if_eq (tgt := 19) hx hb dX5_appendInstruction_13 (by decide) (fun c_8 => ?_) (fun c_8 => False.elim (q_X5_appendInstruction_9 hcn2 hr1 hr2 hl1 hl2 hr_1 c_2 hr_7 c_8))
  refine lv_iload_n hx hb dX5_appendInstruction_19 rfl (lv_at hl 1 rfl) ?_
  refine lv_bipush (v := 24) hx hb dX5_appendInstruction_20 (by decide) ?_
  refine lv_imul hx hb dX5_appendInstruction_22 ?_
  refine lv_aload_n hx hb dX5_appendInstruction_23 rfl (lv_at hl 0 rfl) ?_
  refine va_get (D := (dC, dI)) (ci := 2) (v := .ref p1) (C := RX5) (T := TX5) (N := 7) hx hb hts i_X5 hown hK hP 0 rfl rfl 1 (by decide) k_1 (fun _ h9 => h9) rfl dX5_appendInstruction_24 ?_
  refine lv_iload_n hx hb dX5_appendInstruction_27 rfl (lv_at hl 1 rfl) ?_
  refine va_iald hx hb hK hP 1 0 rfl rfl (q_X5_appendInstruction_10 hcn2 hr1 hr2 hl1 hl2 hr_1 c_2 hr_7 c_8) dX5_appendInstruction_28 ?_
  refine lv_iadd hx hb dX5_appendInstruction_29 ?_
  refine lv_topi (fun x_11 ex_11 => ?_)
  refine lv_istore (lv' := [(5, .int x_11), (0, .ref aP), (1, .int r), (2, .int k), (3, .int k2), (4, .int k3)]) hx hb dX5_appendInstruction_30 hl (by decide) rfl (fun ls hl => ?_)
  refine lv_aload_n hx hb dX5_appendInstruction_32 rfl (lv_at hl 1 rfl) ?_
  refine va_get (D := (dC, dI)) (ci := 2) (v := .ref p3) (C := RX5) (T := TX5) (N := 7) hx hb hts i_X5 hown hK hP 0 rfl rfl 3 (by decide) k_2 (fun _ h9 => h9) rfl dX5_appendInstruction_33 ?_
  refine lv_iload hx hb dX5_appendInstruction_36 (lv_at hl 0 rfl) ?_
  refine lv_iload_n hx hb dX5_appendInstruction_38 rfl (lv_at hl 3 rfl) ?_
  refine va_iast hx hb hK hP hD hS 2 0 rfl rfl (q_X5_appendInstruction_12 hcn2 hr1 hr2 hl1 hl2 hr_1 c_2 hr_7 c_8 ex_11) dX5_appendInstruction_39 (fun H locs hP hD hS => ?_)
  have hP : va_P (dC, dI) vwCl [(aP, .inr (2, [.ref p0, .ref p1, .ref p2, .ref p3, .ref p4, .ref p5, .int cn])), (p1, .inl (cI, 20, .inl ln)), (p3, .inl (cI, 480, .inl (upd po x_11.toNatClampNeg k))), (p4, .inl (cI, 480, .inl pa)), (p5, .inl (cI, 480, .inl pb))] H := hP
  have hD : va_D A [(aP, .inr (2, [.ref p0, .ref p1, .ref p2, .ref p3, .ref p4, .ref p5, .int cn])), (p1, .inl (cI, 20, .inl ln)), (p3, .inl (cI, 480, .inl (upd po x_11.toNatClampNeg k))), (p4, .inl (cI, 480, .inl pa)), (p5, .inl (cI, 480, .inl pb))] := hD
  refine lv_aload_n hx hb dX5_appendInstruction_40 rfl (lv_at hl 1 rfl) ?_
  refine va_get (D := (dC, dI)) (ci := 2) (v := .ref p4) (C := RX5) (T := TX5) (N := 7) hx hb hts i_X5 hown hK hP 0 rfl rfl 4 (by decide) k_3 (fun _ h9 => h9) rfl dX5_appendInstruction_41 ?_
  refine lv_iload hx hb dX5_appendInstruction_44 (lv_at hl 0 rfl) ?_
  refine lv_iload_n hx hb dX5_appendInstruction_46 rfl (lv_at hl 4 rfl) ?_
  refine va_iast hx hb hK hP hD hS 3 0 rfl rfl (q_X5_appendInstruction_13 hcn2 hr1 hr2 hl1 hl2 hr_1 c_2 hr_7 c_8 ex_11) dX5_appendInstruction_47 (fun H locs hP hD hS => ?_)
  have hP : va_P (dC, dI) vwCl [(aP, .inr (2, [.ref p0, .ref p1, .ref p2, .ref p3, .ref p4, .ref p5, .int cn])), (p1, .inl (cI, 20, .inl ln)), (p3, .inl (cI, 480, .inl (upd po x_11.toNatClampNeg k))), (p4, .inl (cI, 480, .inl (upd pa x_11.toNatClampNeg k2))), (p5, .inl (cI, 480, .inl pb))] H := hP
  have hD : va_D A [(aP, .inr (2, [.ref p0, .ref p1, .ref p2, .ref p3, .ref p4, .ref p5, .int cn])), (p1, .inl (cI, 20, .inl ln)), (p3, .inl (cI, 480, .inl (upd po x_11.toNatClampNeg k))), (p4, .inl (cI, 480, .inl (upd pa x_11.toNatClampNeg k2))), (p5, .inl (cI, 480, .inl pb))] := hD
  refine lv_aload_n hx hb dX5_appendInstruction_48 rfl (lv_at hl 1 rfl) ?_
  refine va_get (D := (dC, dI)) (ci := 2) (v := .ref p5) (C := RX5) (T := TX5) (N := 7) hx hb hts i_X5 hown hK hP 0 rfl rfl 5 (by decide) k_4 (fun _ h9 => h9) rfl dX5_appendInstruction_49 ?_
  refine lv_iload hx hb dX5_appendInstruction_52 (lv_at hl 0 rfl) ?_
  refine lv_iload hx hb dX5_appendInstruction_54 (lv_at hl 5 rfl) ?_
  refine va_iast hx hb hK hP hD hS 4 0 rfl rfl (q_X5_appendInstruction_14 hcn2 hr1 hr2 hl1 hl2 hr_1 c_2 hr_7 c_8 ex_11) dX5_appendInstruction_56 (fun H locs hP hD hS => ?_)
  have hP : va_P (dC, dI) vwCl [(aP, .inr (2, [.ref p0, .ref p1, .ref p2, .ref p3, .ref p4, .ref p5, .int cn])), (p1, .inl (cI, 20, .inl ln)), (p3, .inl (cI, 480, .inl (upd po x_11.toNatClampNeg k))), (p4, .inl (cI, 480, .inl (upd pa x_11.toNatClampNeg k2))), (p5, .inl (cI, 480, .inl (upd pb x_11.toNatClampNeg k3)))] H := hP
  have hD : va_D A [(aP, .inr (2, [.ref p0, .ref p1, .ref p2, .ref p3, .ref p4, .ref p5, .int cn])), (p1, .inl (cI, 20, .inl ln)), (p3, .inl (cI, 480, .inl (upd po x_11.toNatClampNeg k))), (p4, .inl (cI, 480, .inl (upd pa x_11.toNatClampNeg k2))), (p5, .inl (cI, 480, .inl (upd pb x_11.toNatClampNeg k3)))] := hD
  refine lv_aload_n hx hb dX5_appendInstruction_57 rfl (lv_at hl 1 rfl) ?_
  refine va_get (D := (dC, dI)) (ci := 2) (v := .ref p1) (C := RX5) (T := TX5) (N := 7) hx hb hts i_X5 hown hK hP 0 rfl rfl 1 (by decide) k_1 (fun _ h9 => h9) rfl dX5_appendInstruction_58 ?_
  refine lv_iload_n hx hb dX5_appendInstruction_61 rfl (lv_at hl 2 rfl) ?_
  refine lv_dup2_11 hx hb dX5_appendInstruction_62 rfl rfl ?_
  refine va_iald hx hb hK hP 1 0 rfl rfl (q_X5_appendInstruction_15 hcn2 hr1 hr2 hl1 hl2 hr_1 c_2 hr_7 c_8 ex_11) dX5_appendInstruction_63 ?_
  refine lv_iconst (v := 1) hx hb dX5_appendInstruction_64 (by decide) ?_
  refine lv_iadd hx hb dX5_appendInstruction_65 ?_
  refine va_iast hx hb hK hP hD hS 1 0 rfl rfl (q_X5_appendInstruction_16 hcn2 hr1 hr2 hl1 hl2 hr_1 c_2 hr_7 c_8 ex_11) dX5_appendInstruction_66 (fun H locs hP hD hS => ?_)
  have hP : va_P (dC, dI) vwCl [(aP, .inr (2, [.ref p0, .ref p1, .ref p2, .ref p3, .ref p4, .ref p5, .int cn])), (p1, .inl (cI, 20, .inl (upd ln r.toNatClampNeg ((ln r.toNatClampNeg) + 1)))), (p3, .inl (cI, 480, .inl (upd po x_11.toNatClampNeg k))), (p4, .inl (cI, 480, .inl (upd pa x_11.toNatClampNeg k2))), (p5, .inl (cI, 480, .inl (upd pb x_11.toNatClampNeg k3)))] H := hP
  have hD : va_D A [(aP, .inr (2, [.ref p0, .ref p1, .ref p2, .ref p3, .ref p4, .ref p5, .int cn])), (p1, .inl (cI, 20, .inl (upd ln r.toNatClampNeg ((ln r.toNatClampNeg) + 1)))), (p3, .inl (cI, 480, .inl (upd po x_11.toNatClampNeg k))), (p4, .inl (cI, 480, .inl (upd pa x_11.toNatClampNeg k2))), (p5, .inl (cI, 480, .inl (upd pb x_11.toNatClampNeg k3)))] := hD
  refine lv_aload_n hx hb dX5_appendInstruction_67 rfl (lv_at hl 1 rfl) ?_
  refine va_get (D := (dC, dI)) (ci := 2) (v := .ref p1) (C := RX5) (T := TX5) (N := 7) hx hb hts i_X5 hown hK hP 0 rfl rfl 1 (by decide) k_1 (fun _ h9 => h9) rfl dX5_appendInstruction_68 ?_
  refine lv_iload_n hx hb dX5_appendInstruction_71 rfl (lv_at hl 2 rfl) ?_
  refine va_iald hx hb hK hP 1 0 rfl rfl (q_X5_appendInstruction_17 hcn2 hr1 hr2 hl1 hl2 hr_1 c_2 hr_7 c_8 ex_11) dX5_appendInstruction_72 ?_
  exact e_wi hx hb hr hlocks dX5_appendInstruction_73 hK hS (upd ln r.toNatClampNeg ((ln r.toNatClampNeg) + 1), upd po x_11.toNatClampNeg k, upd pa x_11.toNatClampNeg k2, upd pb x_11.toNatClampNeg k3) hP hD (q_X5_appendInstruction_18 hcn2 hr1 hr2 hl1 hl2 hr_1 c_2 hr_7 c_8 ex_11)

theorem q_X5_emptyBody_3 {cn : Int32} {r : Int32} {r_1 : Int32} (hcn2 : cn ≤ 20) (hr1 : 0 ≤ r) (hr2 : r < cn) (hr_1 : r_1 = if 0 ≤ r ∧ r < cn then 1 else 0) (c_2 : r_1 = 0) : False := by
  grind
theorem q_X5_emptyBody_4 {cn : Int32} {r : Int32} {r_1 : Int32} (hcn2 : cn ≤ 20) (hr1 : 0 ≤ r) (hr2 : r < cn) (hr_1 : r_1 = if 0 ≤ r ∧ r < cn then 1 else 0) (c_2 : ¬ r_1 = 0) : vp_in r 20 := by
  exact in_of (c := 20) (by decide) (by grind) (by grind)
theorem q_X5_emptyBody_6 {ln : Nat → Int32} {cn : Int32} {r : Int32} {r_1 : Int32} {x_5 : Int32} (hcn2 : cn ≤ 20) (hr1 : 0 ≤ r) (hr2 : r < cn) (hr_1 : r_1 = if 0 ≤ r ∧ r < cn then 1 else 0) (c_2 : ¬ r_1 = 0) (ex_5 : x_5 = (ln r.toNatClampNeg)) : vp_in r 20 := by
  exact in_of (c := 20) (by decide) (by grind) (by grind)
theorem q_X5_emptyBody_7 {ln : Nat → Int32} {cn : Int32} {r : Int32} {r_1 : Int32} {x_5 : Int32} (hcn2 : cn ≤ 20) (hr1 : 0 ≤ r) (hr2 : r < cn) (hr_1 : r_1 = if 0 ≤ r ∧ r < cn then 1 else 0) (c_2 : ¬ r_1 = 0) (ex_5 : x_5 = (ln r.toNatClampNeg)) : (x_5 = ln r.toNatClampNeg) ∧ ((upd ln r.toNatClampNeg 0) = upd ln r.toNatClampNeg 0) := by
  grind
set_option maxHeartbeats 4000000 in
set_option maxRecDepth 100000 in
theorem c_X5_emptyBody (l : Launch) (dC : Nat → ClassId) (dI : Nat → Nat → Nat) (cI : ClassId) (sz : Nat) (aP : Nat) (p0 : Nat) (p1 : Nat) (p2 : Nat) (p3 : Nat) (p4 : Nat) (p5 : Nat) (ln : Nat → Int32) (cn : Int32) (r : Int32) (hcn2 : cn ≤ 20) (hr1 : 0 ≤ r) (hr2 : r < cn) : mWi l yX5_emptyBody wsX5_emptyBody ({ frames := 1, cells := 0, slots := 0, locals := 21 }) [.ref aP, .int r] (dC, dI) [(cI, .int)] [(aP, .inr (2, [.ref p0, .ref p1, .ref p2, .ref p3, .ref p4, .ref p5, .int cn])), (p1, .inl (cI, 20, .inl ln))] sz (fun (v : Int32) (u : (Nat → Int32)) => (v = ln r.toNatClampNeg) ∧ (u = upd ln r.toNatClampNeg 0)) (fun u : (Nat → Int32) => [(aP, .inr (2, [.ref p0, .ref p1, .ref p2, .ref p3, .ref p4, .ref p5, .int cn])), (p1, .inl (cI, 20, .inl u))]) := by
  refine o_wi (cc := cX5_emptyBody) (maxL := 3) (ret := (some .int)) (by decide) rfl (Nat.le_of_ble_eq_true rfl) ?_
  intro p e s m below meth c ls A hx hb hr hml hts hown hlocks hP hK hD hS hA hl
  have hown : s.vm.findClass RX5 = some m.cls := hown
  have hl : lv_has ls 3 [(0, .ref aP), (1, .int r)] := hl
  have k_1 := hts (.fieldLink RX5 15 "ZRoutines$Program" "lengths" "[I") (List.mem_of_getElem? (i := 1) rfl)
  have i_X5 : ∀ w ∈ u_ws RX5 TX5 7, w ∈ wsX5_emptyBody := fun _ h => List.mem_cons_of_mem _ (List.mem_append_right _ h)
  refine lv_aload_n hx hb dX5_emptyBody_0 rfl (lv_at hl 0 rfl) ?_
  refine lv_iload_n hx hb dX5_emptyBody_1 rfl (lv_at hl 1 rfl) ?_
  refine k_rd (ci := 2) (q0 := 0) (q := (RX5, TX5, 7)) (As := [.int r]) (rest := []) ⟨hx, hb, hml, hown, hts⟩ (c_X5_has l dC dI cI aP p0 p1 p2 p3 p4 p5 cn r ) (cwV 1 hts gX5_emptyBody_X5_has rfl rfl rfl (by decide +kernel) ⟨Nat.le_of_ble_eq_true rfl, Nat.le_of_ble_eq_true rfl⟩) hK hP [0] rfl rfl rfl rfl hl.1 rfl (Nat.le_of_ble_eq_true rfl) dX5_emptyBody_2 ⟨Nat.zero_le _, Nat.zero_le _⟩ (fun r_1 hr_1 => ?_)
  have hr_1 : r_1 = if 0 ≤ r ∧ r < cn then 1 else 0 := hr_1
  refine lv_if_ne (tgt := 10) hx hb dX5_emptyBody_5 (by decide) (fun c_2 => ?_) (fun c_2 => False.elim (q_X5_emptyBody_3 hcn2 hr1 hr2 hr_1 c_2))
  refine lv_aload_n hx hb dX5_emptyBody_10 rfl (lv_at hl 0 rfl) ?_
  refine va_get (D := (dC, dI)) (ci := 2) (v := .ref p1) (C := RX5) (T := TX5) (N := 7) hx hb hts i_X5 hown hK hP 0 rfl rfl 1 (by decide) k_1 (fun _ h9 => h9) rfl dX5_emptyBody_11 ?_
  refine lv_iload_n hx hb dX5_emptyBody_14 rfl (lv_at hl 1 rfl) ?_
  refine va_iald hx hb hK hP 1 0 rfl rfl (q_X5_emptyBody_4 hcn2 hr1 hr2 hr_1 c_2) dX5_emptyBody_15 ?_
  refine lv_topi (fun x_5 ex_5 => ?_)
  refine lv_istore_n (lv' := [(2, .int x_5), (0, .ref aP), (1, .int r)]) hx hb dX5_emptyBody_16 rfl hl (by decide) rfl (fun ls hl => ?_)
  refine lv_aload_n hx hb dX5_emptyBody_17 rfl (lv_at hl 1 rfl) ?_
  refine va_get (D := (dC, dI)) (ci := 2) (v := .ref p1) (C := RX5) (T := TX5) (N := 7) hx hb hts i_X5 hown hK hP 0 rfl rfl 1 (by decide) k_1 (fun _ h9 => h9) rfl dX5_emptyBody_18 ?_
  refine lv_iload_n hx hb dX5_emptyBody_21 rfl (lv_at hl 2 rfl) ?_
  refine lv_iconst (v := 0) hx hb dX5_emptyBody_22 (by decide) ?_
  refine va_iast hx hb hK hP hD hS 1 0 rfl rfl (q_X5_emptyBody_6 hcn2 hr1 hr2 hr_1 c_2 ex_5) dX5_emptyBody_23 (fun H locs hP hD hS => ?_)
  have hP : va_P (dC, dI) vwCl [(aP, .inr (2, [.ref p0, .ref p1, .ref p2, .ref p3, .ref p4, .ref p5, .int cn])), (p1, .inl (cI, 20, .inl (upd ln r.toNatClampNeg 0)))] H := hP
  have hD : va_D A [(aP, .inr (2, [.ref p0, .ref p1, .ref p2, .ref p3, .ref p4, .ref p5, .int cn])), (p1, .inl (cI, 20, .inl (upd ln r.toNatClampNeg 0)))] := hD
  refine lv_iload_n hx hb dX5_emptyBody_24 rfl (lv_at hl 0 rfl) ?_
  exact e_wi hx hb hr hlocks dX5_emptyBody_25 hK hS (upd ln r.toNatClampNeg 0) hP hD (q_X5_emptyBody_7 hcn2 hr1 hr2 hr_1 c_2 ex_5)

theorem q_X5_op_1 {ln : Nat → Int32} {cn : Int32} {r : Int32} {k : Int32} (hcn2 : cn ≤ 20) (hr1 : 0 ≤ r) (hr2 : r < cn) (hk1 : 0 ≤ k) (hk2 : k < ln r.toNatClampNeg) (hll : ln r.toNatClampNeg ≤ 24) : cn ≤ 20 := by
  grind
theorem q_X5_op_2 {ln : Nat → Int32} {cn : Int32} {r : Int32} {k : Int32} (hcn2 : cn ≤ 20) (hr1 : 0 ≤ r) (hr2 : r < cn) (hk1 : 0 ≤ k) (hk2 : k < ln r.toNatClampNeg) (hll : ln r.toNatClampNeg ≤ 24) : 0 ≤ r := by
  grind
theorem q_X5_op_3 {ln : Nat → Int32} {cn : Int32} {r : Int32} {k : Int32} (hcn2 : cn ≤ 20) (hr1 : 0 ≤ r) (hr2 : r < cn) (hk1 : 0 ≤ k) (hk2 : k < ln r.toNatClampNeg) (hll : ln r.toNatClampNeg ≤ 24) : r < cn := by
  grind
theorem q_X5_op_6 {ln : Nat → Int32} {cn : Int32} {r : Int32} {k : Int32} {r_4 : Int32} (hcn2 : cn ≤ 20) (hr1 : 0 ≤ r) (hr2 : r < cn) (hk1 : 0 ≤ k) (hk2 : k < ln r.toNatClampNeg) (hll : ln r.toNatClampNeg ≤ 24) (hr_4 : r_4 = if 0 ≤ k ∧ k < ln r.toNatClampNeg then 1 else 0) (c_5 : r_4 = 0) : False := by
  grind
theorem q_X5_op_7 {ln : Nat → Int32} {cn : Int32} {r : Int32} {k : Int32} {r_4 : Int32} (hcn2 : cn ≤ 20) (hr1 : 0 ≤ r) (hr2 : r < cn) (hk1 : 0 ≤ k) (hk2 : k < ln r.toNatClampNeg) (hll : ln r.toNatClampNeg ≤ 24) (hr_4 : r_4 = if 0 ≤ k ∧ k < ln r.toNatClampNeg then 1 else 0) (c_5 : ¬ r_4 = 0) : vp_in ((r * 24) + k) 480 := by
  exact in_of (c := 480) (by decide) (by grind) (by grind)
theorem q_X5_op_8 {ln : Nat → Int32} {po : Nat → Int32} {cn : Int32} {r : Int32} {k : Int32} {r_4 : Int32} (hcn2 : cn ≤ 20) (hr1 : 0 ≤ r) (hr2 : r < cn) (hk1 : 0 ≤ k) (hk2 : k < ln r.toNatClampNeg) (hll : ln r.toNatClampNeg ≤ 24) (hr_4 : r_4 = if 0 ≤ k ∧ k < ln r.toNatClampNeg then 1 else 0) (c_5 : ¬ r_4 = 0) : ((po ((r * 24) + k).toNatClampNeg) = po (r * 24 + k).toNatClampNeg) := by
  grind
set_option maxHeartbeats 4000000 in
set_option maxRecDepth 100000 in
theorem c_X5_op (l : Launch) (dC : Nat → ClassId) (dI : Nat → Nat → Nat) (cI : ClassId) (aP : Nat) (p0 : Nat) (p1 : Nat) (p2 : Nat) (p3 : Nat) (p4 : Nat) (p5 : Nat) (ln : Nat → Int32) (po : Nat → Int32) (cn : Int32) (r : Int32) (k : Int32) (hcn2 : cn ≤ 20) (hr1 : 0 ≤ r) (hr2 : r < cn) (hk1 : 0 ≤ k) (hk2 : k < ln r.toNatClampNeg) (hll : ln r.toNatClampNeg ≤ 24) : mRd l yX5_op wsX5_op ({ frames := 2, cells := 0, slots := 0, locals := 43 }) [.ref aP, .int r, .int k] (dC, dI) [(cI, .int)] [(aP, .inr (2, [.ref p0, .ref p1, .ref p2, .ref p3, .ref p4, .ref p5, .int cn])), (p1, .inl (cI, 20, .inl ln)), (p3, .inl (cI, 480, .inl po))] (fun v => (v = po (r * 24 + k).toNatClampNeg)) := by
  refine o_rd (cc := cX5_op) (maxL := 3) (ret := (some .int)) (by decide) rfl (Nat.le_of_ble_eq_true rfl) ?_
  intro p e s m below meth c ls hx hb hr hml hts hown hlocks hP hK hl
  have hown : s.vm.findClass RX5 = some m.cls := hown
  have hl : lv_has ls 3 [(0, .ref aP), (1, .int r), (2, .int k)] := hl
  have k_1 := hts (.fieldLink RX5 21 "ZRoutines$Program" "ops" "[I") (List.mem_of_getElem? (i := 1) rfl)
  have i_X5 : ∀ w ∈ u_ws RX5 TX5 7, w ∈ wsX5_op := fun _ h => List.mem_cons_of_mem _ (List.mem_append_right _ h)
  refine lv_aload_n hx hb dX5_op_0 rfl (lv_at hl 0 rfl) ?_
  refine lv_iload_n hx hb dX5_op_1 rfl (lv_at hl 1 rfl) ?_
  refine lv_iload_n hx hb dX5_op_2 rfl (lv_at hl 2 rfl) ?_
  refine k_rd (ci := 2) (q0 := 0) (q := (RX5, TX5, 7)) (As := [.int r, .int k]) (rest := []) ⟨hx, hb, hml, hown, hts⟩ (c_X5_hasPlace l dC dI cI aP p0 p1 p2 p3 p4 p5 ln cn r k (q_X5_op_1 hcn2 hr1 hr2 hk1 hk2 hll) (q_X5_op_2 hcn2 hr1 hr2 hk1 hk2 hll) (q_X5_op_3 hcn2 hr1 hr2 hk1 hk2 hll)) (cwV 2 hts gX5_op_X5_hasPlace rfl rfl rfl (by decide +kernel) ⟨Nat.le_of_ble_eq_true rfl, Nat.le_of_ble_eq_true rfl⟩) hK hP [0, 1] rfl rfl rfl rfl hl.1 rfl (Nat.le_of_ble_eq_true rfl) dX5_op_3 ⟨Nat.zero_le _, Nat.zero_le _⟩ (fun r_4 hr_4 => ?_)
  have hr_4 : r_4 = if 0 ≤ k ∧ k < ln r.toNatClampNeg then 1 else 0 := hr_4
  refine lv_if_eq (tgt := 23) hx hb dX5_op_6 (by decide) (fun c_5 => False.elim (q_X5_op_6 hcn2 hr1 hr2 hk1 hk2 hll hr_4 c_5)) (fun c_5 => ?_)
  refine lv_aload_n hx hb dX5_op_9 rfl (lv_at hl 0 rfl) ?_
  refine va_get (D := (dC, dI)) (ci := 2) (v := .ref p3) (C := RX5) (T := TX5) (N := 7) hx hb hts i_X5 hown hK hP 0 rfl rfl 3 (by decide) k_1 (fun _ h9 => h9) rfl dX5_op_10 ?_
  refine lv_iload_n hx hb dX5_op_13 rfl (lv_at hl 1 rfl) ?_
  refine lv_bipush (v := 24) hx hb dX5_op_14 (by decide) ?_
  refine lv_imul hx hb dX5_op_16 ?_
  refine lv_iload_n hx hb dX5_op_17 rfl (lv_at hl 2 rfl) ?_
  refine lv_iadd hx hb dX5_op_18 ?_
  refine va_iald hx hb hK hP 2 0 rfl rfl (q_X5_op_7 hcn2 hr1 hr2 hk1 hk2 hll hr_4 c_5) dX5_op_19 ?_
  refine lv_goto (tgt := 24) hx hb dX5_op_20 (by decide) ?_
  exact e_rdi hx hb hr hlocks dX5_op_24 (q_X5_op_8 hcn2 hr1 hr2 hk1 hk2 hll hr_4 c_5)

theorem q_X5_a_1 {ln : Nat → Int32} {cn : Int32} {r : Int32} {k : Int32} (hcn2 : cn ≤ 20) (hr1 : 0 ≤ r) (hr2 : r < cn) (hk1 : 0 ≤ k) (hk2 : k < ln r.toNatClampNeg) (hll : ln r.toNatClampNeg ≤ 24) : cn ≤ 20 := by
  grind
theorem q_X5_a_2 {ln : Nat → Int32} {cn : Int32} {r : Int32} {k : Int32} (hcn2 : cn ≤ 20) (hr1 : 0 ≤ r) (hr2 : r < cn) (hk1 : 0 ≤ k) (hk2 : k < ln r.toNatClampNeg) (hll : ln r.toNatClampNeg ≤ 24) : 0 ≤ r := by
  grind
theorem q_X5_a_3 {ln : Nat → Int32} {cn : Int32} {r : Int32} {k : Int32} (hcn2 : cn ≤ 20) (hr1 : 0 ≤ r) (hr2 : r < cn) (hk1 : 0 ≤ k) (hk2 : k < ln r.toNatClampNeg) (hll : ln r.toNatClampNeg ≤ 24) : r < cn := by
  grind
theorem q_X5_a_6 {ln : Nat → Int32} {cn : Int32} {r : Int32} {k : Int32} {r_4 : Int32} (hcn2 : cn ≤ 20) (hr1 : 0 ≤ r) (hr2 : r < cn) (hk1 : 0 ≤ k) (hk2 : k < ln r.toNatClampNeg) (hll : ln r.toNatClampNeg ≤ 24) (hr_4 : r_4 = if 0 ≤ k ∧ k < ln r.toNatClampNeg then 1 else 0) (c_5 : r_4 = 0) : False := by
  grind
theorem q_X5_a_7 {ln : Nat → Int32} {cn : Int32} {r : Int32} {k : Int32} {r_4 : Int32} (hcn2 : cn ≤ 20) (hr1 : 0 ≤ r) (hr2 : r < cn) (hk1 : 0 ≤ k) (hk2 : k < ln r.toNatClampNeg) (hll : ln r.toNatClampNeg ≤ 24) (hr_4 : r_4 = if 0 ≤ k ∧ k < ln r.toNatClampNeg then 1 else 0) (c_5 : ¬ r_4 = 0) : vp_in ((r * 24) + k) 480 := by
  exact in_of (c := 480) (by decide) (by grind) (by grind)
theorem q_X5_a_8 {ln : Nat → Int32} {pa : Nat → Int32} {cn : Int32} {r : Int32} {k : Int32} {r_4 : Int32} (hcn2 : cn ≤ 20) (hr1 : 0 ≤ r) (hr2 : r < cn) (hk1 : 0 ≤ k) (hk2 : k < ln r.toNatClampNeg) (hll : ln r.toNatClampNeg ≤ 24) (hr_4 : r_4 = if 0 ≤ k ∧ k < ln r.toNatClampNeg then 1 else 0) (c_5 : ¬ r_4 = 0) : ((pa ((r * 24) + k).toNatClampNeg) = pa (r * 24 + k).toNatClampNeg) := by
  grind
set_option maxHeartbeats 4000000 in
set_option maxRecDepth 100000 in
theorem c_X5_a (l : Launch) (dC : Nat → ClassId) (dI : Nat → Nat → Nat) (cI : ClassId) (aP : Nat) (p0 : Nat) (p1 : Nat) (p2 : Nat) (p3 : Nat) (p4 : Nat) (p5 : Nat) (ln : Nat → Int32) (pa : Nat → Int32) (cn : Int32) (r : Int32) (k : Int32) (hcn2 : cn ≤ 20) (hr1 : 0 ≤ r) (hr2 : r < cn) (hk1 : 0 ≤ k) (hk2 : k < ln r.toNatClampNeg) (hll : ln r.toNatClampNeg ≤ 24) : mRd l yX5_a wsX5_a ({ frames := 2, cells := 0, slots := 0, locals := 43 }) [.ref aP, .int r, .int k] (dC, dI) [(cI, .int)] [(aP, .inr (2, [.ref p0, .ref p1, .ref p2, .ref p3, .ref p4, .ref p5, .int cn])), (p1, .inl (cI, 20, .inl ln)), (p4, .inl (cI, 480, .inl pa))] (fun v => (v = pa (r * 24 + k).toNatClampNeg)) := by
  refine o_rd (cc := cX5_a) (maxL := 3) (ret := (some .int)) (by decide) rfl (Nat.le_of_ble_eq_true rfl) ?_
  intro p e s m below meth c ls hx hb hr hml hts hown hlocks hP hK hl
  have hown : s.vm.findClass RX5 = some m.cls := hown
  have hl : lv_has ls 3 [(0, .ref aP), (1, .int r), (2, .int k)] := hl
  have k_1 := hts (.fieldLink RX5 24 "ZRoutines$Program" "as" "[I") (List.mem_of_getElem? (i := 1) rfl)
  have i_X5 : ∀ w ∈ u_ws RX5 TX5 7, w ∈ wsX5_a := fun _ h => List.mem_cons_of_mem _ (List.mem_append_right _ h)
  refine lv_aload_n hx hb dX5_a_0 rfl (lv_at hl 0 rfl) ?_
  refine lv_iload_n hx hb dX5_a_1 rfl (lv_at hl 1 rfl) ?_
  refine lv_iload_n hx hb dX5_a_2 rfl (lv_at hl 2 rfl) ?_
  refine k_rd (ci := 2) (q0 := 0) (q := (RX5, TX5, 7)) (As := [.int r, .int k]) (rest := []) ⟨hx, hb, hml, hown, hts⟩ (c_X5_hasPlace l dC dI cI aP p0 p1 p2 p3 p4 p5 ln cn r k (q_X5_a_1 hcn2 hr1 hr2 hk1 hk2 hll) (q_X5_a_2 hcn2 hr1 hr2 hk1 hk2 hll) (q_X5_a_3 hcn2 hr1 hr2 hk1 hk2 hll)) (cwV 2 hts gX5_a_X5_hasPlace rfl rfl rfl (by decide +kernel) ⟨Nat.le_of_ble_eq_true rfl, Nat.le_of_ble_eq_true rfl⟩) hK hP [0, 1] rfl rfl rfl rfl hl.1 rfl (Nat.le_of_ble_eq_true rfl) dX5_a_3 ⟨Nat.zero_le _, Nat.zero_le _⟩ (fun r_4 hr_4 => ?_)
  have hr_4 : r_4 = if 0 ≤ k ∧ k < ln r.toNatClampNeg then 1 else 0 := hr_4
  refine lv_if_eq (tgt := 23) hx hb dX5_a_6 (by decide) (fun c_5 => False.elim (q_X5_a_6 hcn2 hr1 hr2 hk1 hk2 hll hr_4 c_5)) (fun c_5 => ?_)
  refine lv_aload_n hx hb dX5_a_9 rfl (lv_at hl 0 rfl) ?_
  refine va_get (D := (dC, dI)) (ci := 2) (v := .ref p4) (C := RX5) (T := TX5) (N := 7) hx hb hts i_X5 hown hK hP 0 rfl rfl 4 (by decide) k_1 (fun _ h9 => h9) rfl dX5_a_10 ?_
  refine lv_iload_n hx hb dX5_a_13 rfl (lv_at hl 1 rfl) ?_
  refine lv_bipush (v := 24) hx hb dX5_a_14 (by decide) ?_
  refine lv_imul hx hb dX5_a_16 ?_
  refine lv_iload_n hx hb dX5_a_17 rfl (lv_at hl 2 rfl) ?_
  refine lv_iadd hx hb dX5_a_18 ?_
  refine va_iald hx hb hK hP 2 0 rfl rfl (q_X5_a_7 hcn2 hr1 hr2 hk1 hk2 hll hr_4 c_5) dX5_a_19 ?_
  refine lv_goto (tgt := 24) hx hb dX5_a_20 (by decide) ?_
  exact e_rdi hx hb hr hlocks dX5_a_24 (q_X5_a_8 hcn2 hr1 hr2 hk1 hk2 hll hr_4 c_5)

theorem q_X5_b_1 {ln : Nat → Int32} {cn : Int32} {r : Int32} {k : Int32} (hcn2 : cn ≤ 20) (hr1 : 0 ≤ r) (hr2 : r < cn) (hk1 : 0 ≤ k) (hk2 : k < ln r.toNatClampNeg) (hll : ln r.toNatClampNeg ≤ 24) : cn ≤ 20 := by
  grind
theorem q_X5_b_2 {ln : Nat → Int32} {cn : Int32} {r : Int32} {k : Int32} (hcn2 : cn ≤ 20) (hr1 : 0 ≤ r) (hr2 : r < cn) (hk1 : 0 ≤ k) (hk2 : k < ln r.toNatClampNeg) (hll : ln r.toNatClampNeg ≤ 24) : 0 ≤ r := by
  grind
theorem q_X5_b_3 {ln : Nat → Int32} {cn : Int32} {r : Int32} {k : Int32} (hcn2 : cn ≤ 20) (hr1 : 0 ≤ r) (hr2 : r < cn) (hk1 : 0 ≤ k) (hk2 : k < ln r.toNatClampNeg) (hll : ln r.toNatClampNeg ≤ 24) : r < cn := by
  grind
theorem q_X5_b_6 {ln : Nat → Int32} {cn : Int32} {r : Int32} {k : Int32} {r_4 : Int32} (hcn2 : cn ≤ 20) (hr1 : 0 ≤ r) (hr2 : r < cn) (hk1 : 0 ≤ k) (hk2 : k < ln r.toNatClampNeg) (hll : ln r.toNatClampNeg ≤ 24) (hr_4 : r_4 = if 0 ≤ k ∧ k < ln r.toNatClampNeg then 1 else 0) (c_5 : r_4 = 0) : False := by
  grind
theorem q_X5_b_7 {ln : Nat → Int32} {cn : Int32} {r : Int32} {k : Int32} {r_4 : Int32} (hcn2 : cn ≤ 20) (hr1 : 0 ≤ r) (hr2 : r < cn) (hk1 : 0 ≤ k) (hk2 : k < ln r.toNatClampNeg) (hll : ln r.toNatClampNeg ≤ 24) (hr_4 : r_4 = if 0 ≤ k ∧ k < ln r.toNatClampNeg then 1 else 0) (c_5 : ¬ r_4 = 0) : vp_in ((r * 24) + k) 480 := by
  exact in_of (c := 480) (by decide) (by grind) (by grind)
theorem q_X5_b_8 {ln : Nat → Int32} {pb : Nat → Int32} {cn : Int32} {r : Int32} {k : Int32} {r_4 : Int32} (hcn2 : cn ≤ 20) (hr1 : 0 ≤ r) (hr2 : r < cn) (hk1 : 0 ≤ k) (hk2 : k < ln r.toNatClampNeg) (hll : ln r.toNatClampNeg ≤ 24) (hr_4 : r_4 = if 0 ≤ k ∧ k < ln r.toNatClampNeg then 1 else 0) (c_5 : ¬ r_4 = 0) : ((pb ((r * 24) + k).toNatClampNeg) = pb (r * 24 + k).toNatClampNeg) := by
  grind
set_option maxHeartbeats 4000000 in
set_option maxRecDepth 100000 in
theorem c_X5_b (l : Launch) (dC : Nat → ClassId) (dI : Nat → Nat → Nat) (cI : ClassId) (aP : Nat) (p0 : Nat) (p1 : Nat) (p2 : Nat) (p3 : Nat) (p4 : Nat) (p5 : Nat) (ln : Nat → Int32) (pb : Nat → Int32) (cn : Int32) (r : Int32) (k : Int32) (hcn2 : cn ≤ 20) (hr1 : 0 ≤ r) (hr2 : r < cn) (hk1 : 0 ≤ k) (hk2 : k < ln r.toNatClampNeg) (hll : ln r.toNatClampNeg ≤ 24) : mRd l yX5_b wsX5_b ({ frames := 2, cells := 0, slots := 0, locals := 43 }) [.ref aP, .int r, .int k] (dC, dI) [(cI, .int)] [(aP, .inr (2, [.ref p0, .ref p1, .ref p2, .ref p3, .ref p4, .ref p5, .int cn])), (p1, .inl (cI, 20, .inl ln)), (p5, .inl (cI, 480, .inl pb))] (fun v => (v = pb (r * 24 + k).toNatClampNeg)) := by
  refine o_rd (cc := cX5_b) (maxL := 3) (ret := (some .int)) (by decide) rfl (Nat.le_of_ble_eq_true rfl) ?_
  intro p e s m below meth c ls hx hb hr hml hts hown hlocks hP hK hl
  have hown : s.vm.findClass RX5 = some m.cls := hown
  have hl : lv_has ls 3 [(0, .ref aP), (1, .int r), (2, .int k)] := hl
  have k_1 := hts (.fieldLink RX5 27 "ZRoutines$Program" "bs" "[I") (List.mem_of_getElem? (i := 1) rfl)
  have i_X5 : ∀ w ∈ u_ws RX5 TX5 7, w ∈ wsX5_b := fun _ h => List.mem_cons_of_mem _ (List.mem_append_right _ h)
  refine lv_aload_n hx hb dX5_b_0 rfl (lv_at hl 0 rfl) ?_
  refine lv_iload_n hx hb dX5_b_1 rfl (lv_at hl 1 rfl) ?_
  refine lv_iload_n hx hb dX5_b_2 rfl (lv_at hl 2 rfl) ?_
  refine k_rd (ci := 2) (q0 := 0) (q := (RX5, TX5, 7)) (As := [.int r, .int k]) (rest := []) ⟨hx, hb, hml, hown, hts⟩ (c_X5_hasPlace l dC dI cI aP p0 p1 p2 p3 p4 p5 ln cn r k (q_X5_b_1 hcn2 hr1 hr2 hk1 hk2 hll) (q_X5_b_2 hcn2 hr1 hr2 hk1 hk2 hll) (q_X5_b_3 hcn2 hr1 hr2 hk1 hk2 hll)) (cwV 2 hts gX5_b_X5_hasPlace rfl rfl rfl (by decide +kernel) ⟨Nat.le_of_ble_eq_true rfl, Nat.le_of_ble_eq_true rfl⟩) hK hP [0, 1] rfl rfl rfl rfl hl.1 rfl (Nat.le_of_ble_eq_true rfl) dX5_b_3 ⟨Nat.zero_le _, Nat.zero_le _⟩ (fun r_4 hr_4 => ?_)
  have hr_4 : r_4 = if 0 ≤ k ∧ k < ln r.toNatClampNeg then 1 else 0 := hr_4
  refine lv_if_eq (tgt := 23) hx hb dX5_b_6 (by decide) (fun c_5 => False.elim (q_X5_b_6 hcn2 hr1 hr2 hk1 hk2 hll hr_4 c_5)) (fun c_5 => ?_)
  refine lv_aload_n hx hb dX5_b_9 rfl (lv_at hl 0 rfl) ?_
  refine va_get (D := (dC, dI)) (ci := 2) (v := .ref p5) (C := RX5) (T := TX5) (N := 7) hx hb hts i_X5 hown hK hP 0 rfl rfl 5 (by decide) k_1 (fun _ h9 => h9) rfl dX5_b_10 ?_
  refine lv_iload_n hx hb dX5_b_13 rfl (lv_at hl 1 rfl) ?_
  refine lv_bipush (v := 24) hx hb dX5_b_14 (by decide) ?_
  refine lv_imul hx hb dX5_b_16 ?_
  refine lv_iload_n hx hb dX5_b_17 rfl (lv_at hl 2 rfl) ?_
  refine lv_iadd hx hb dX5_b_18 ?_
  refine va_iald hx hb hK hP 2 0 rfl rfl (q_X5_b_7 hcn2 hr1 hr2 hk1 hk2 hll hr_4 c_5) dX5_b_19 ?_
  refine lv_goto (tgt := 24) hx hb dX5_b_20 (by decide) ?_
  exact e_rdi hx hb hr hlocks dX5_b_24 (q_X5_b_8 hcn2 hr1 hr2 hk1 hk2 hll hr_4 c_5)
