theorem q_X2_closeAll_1   : ((0 : Int32) = 0) ∧ ((0 : Int32) = 0) ∧ ((0 : Int32) = 0) := by
  grind
set_option maxHeartbeats 4000000 in
set_option maxRecDepth 100000 in
theorem c_X2_closeAll (l : Launch) (dC : Nat → ClassId) (dI : Nat → Nat → Nat) (cI : ClassId) (sz : Nat) (aF : Nat) (f0 : Nat) (f1 : Nat) (f2 : Nat) (f3 : Nat) (f4 : Nat) (f5 : Nat) (f6 : Nat) (op : Int32) (mx : Int32) (tp : Int32)  : mWv l yX2_closeAll wsX2_closeAll ({ frames := 0, cells := 0, slots := 0, locals := 0 }) [.ref aF] (dC, dI) [(cI, .int)] [(aF, .inr (0, [.ref f0, .ref f1, .ref f2, .ref f3, .ref f4, .ref f5, .ref f6, .int op, .int mx, .int tp]))] sz (fun u : (Int32) × (Int32) × (Int32) => (u.1 = 0) ∧ (u.2.1 = 0) ∧ (u.2.2 = 0)) (fun u : (Int32) × (Int32) × (Int32) => [(aF, .inr (0, [.ref f0, .ref f1, .ref f2, .ref f3, .ref f4, .ref f5, .ref f6, .int u.1, .int u.2.1, .int u.2.2]))]) := by
  refine o_wv (cc := cX2_closeAll) (maxL := 1) (ret := none) (by decide) rfl (Nat.le_of_ble_eq_true rfl) ?_
  intro p e s m below meth c ls A hx hb hr hml hts hown hlocks hP hK hD hS hA hl
  have hown : s.vm.findClass RX2 = some m.cls := hown
  have hl : lv_has ls 1 [(0, .ref aF)] := hl
  have k_1 := hts (.fieldLink RX2 33 "ZRoutines$Frames" "open" "I") (List.mem_of_getElem? (i := 1) rfl)
  have k_2 := hts (.fieldLink RX2 37 "ZRoutines$Frames" "mostOpen" "I") (List.mem_of_getElem? (i := 2) rfl)
  have k_3 := hts (.fieldLink RX2 40 "ZRoutines$Frames" "top" "I") (List.mem_of_getElem? (i := 3) rfl)
  have i_X2 : ∀ w ∈ u_ws RX2 TX2 10, w ∈ wsX2_closeAll := fun _ h => List.mem_cons_of_mem _ (List.mem_append_right _ h)
  refine lv_aload_n hx hb dX2_closeAll_0 rfl (lv_at hl 0 rfl) ?_
  refine lv_iconst (v := 0) hx hb dX2_closeAll_1 (by decide) ?_
  refine va_put (D := (dC, dI)) (ci := 0) (v := .int 0) (ty := .int) (C := RX2) (T := TX2) (N := 10) hx hb hts i_X2 tyX2 tyX2_ok nmX2 hown hK hP hD hS 0 rfl rfl 7 (by decide) k_1 (fun _ h9 => h9) rfl (by decide +kernel) rfl rfl (Nat.le_of_ble_eq_true rfl) dX2_closeAll_2 (fun H locs hP hD hS => ?_)
  have hP : va_P (dC, dI) vwCl [(aF, .inr (0, [.ref f0, .ref f1, .ref f2, .ref f3, .ref f4, .ref f5, .ref f6, .int 0, .int mx, .int tp]))] H := hP
  have hD : va_D A [(aF, .inr (0, [.ref f0, .ref f1, .ref f2, .ref f3, .ref f4, .ref f5, .ref f6, .int 0, .int mx, .int tp]))] := hD
  refine lv_aload_n hx hb dX2_closeAll_5 rfl (lv_at hl 0 rfl) ?_
  refine lv_iconst (v := 0) hx hb dX2_closeAll_6 (by decide) ?_
  refine va_put (D := (dC, dI)) (ci := 0) (v := .int 0) (ty := .int) (C := RX2) (T := TX2) (N := 10) hx hb hts i_X2 tyX2 tyX2_ok nmX2 hown hK hP hD hS 0 rfl rfl 8 (by decide) k_2 (fun _ h9 => h9) rfl (by decide +kernel) rfl rfl (Nat.le_of_ble_eq_true rfl) dX2_closeAll_7 (fun H locs hP hD hS => ?_)
  have hP : va_P (dC, dI) vwCl [(aF, .inr (0, [.ref f0, .ref f1, .ref f2, .ref f3, .ref f4, .ref f5, .ref f6, .int 0, .int 0, .int tp]))] H := hP
  have hD : va_D A [(aF, .inr (0, [.ref f0, .ref f1, .ref f2, .ref f3, .ref f4, .ref f5, .ref f6, .int 0, .int 0, .int tp]))] := hD
  refine lv_aload_n hx hb dX2_closeAll_10 rfl (lv_at hl 0 rfl) ?_
  refine lv_iconst (v := 0) hx hb dX2_closeAll_11 (by decide) ?_
  refine va_put (D := (dC, dI)) (ci := 0) (v := .int 0) (ty := .int) (C := RX2) (T := TX2) (N := 10) hx hb hts i_X2 tyX2 tyX2_ok nmX2 hown hK hP hD hS 0 rfl rfl 9 (by decide) k_3 (fun _ h9 => h9) rfl (by decide +kernel) rfl rfl (Nat.le_of_ble_eq_true rfl) dX2_closeAll_12 (fun H locs hP hD hS => ?_)
  have hP : va_P (dC, dI) vwCl [(aF, .inr (0, [.ref f0, .ref f1, .ref f2, .ref f3, .ref f4, .ref f5, .ref f6, .int 0, .int 0, .int 0]))] H := hP
  have hD : va_D A [(aF, .inr (0, [.ref f0, .ref f1, .ref f2, .ref f3, .ref f4, .ref f5, .ref f6, .int 0, .int 0, .int 0]))] := hD
  exact e_wv hx hb hr hlocks dX2_closeAll_15 hK hS (0, 0, 0) hP hD q_X2_closeAll_1

theorem q_X2_open_1 {op : Int32}  : (op = op) := by
  grind
set_option maxHeartbeats 4000000 in
set_option maxRecDepth 100000 in
theorem c_X2_open (l : Launch) (dC : Nat → ClassId) (dI : Nat → Nat → Nat) (cI : ClassId) (aF : Nat) (f0 : Nat) (f1 : Nat) (f2 : Nat) (f3 : Nat) (f4 : Nat) (f5 : Nat) (f6 : Nat) (op : Int32) (mx : Int32) (tp : Int32)  : mRd l yX2_open wsX2_open ({ frames := 0, cells := 0, slots := 0, locals := 0 }) [.ref aF] (dC, dI) [(cI, .int)] [(aF, .inr (0, [.ref f0, .ref f1, .ref f2, .ref f3, .ref f4, .ref f5, .ref f6, .int op, .int mx, .int tp]))] (fun v => (v = op)) := by
  refine o_rd (cc := cX2_open) (maxL := 1) (ret := (some .int)) (by decide) rfl (Nat.le_of_ble_eq_true rfl) ?_
  intro p e s m below meth c ls hx hb hr hml hts hown hlocks hP hK hl
  have hown : s.vm.findClass RX2 = some m.cls := hown
  have hl : lv_has ls 1 [(0, .ref aF)] := hl
  have k_1 := hts (.fieldLink RX2 33 "ZRoutines$Frames" "open" "I") (List.mem_of_getElem? (i := 1) rfl)
  have i_X2 : ∀ w ∈ u_ws RX2 TX2 10, w ∈ wsX2_open := fun _ h => List.mem_cons_of_mem _ (List.mem_append_right _ h)
  refine lv_aload_n hx hb dX2_open_0 rfl (lv_at hl 0 rfl) ?_
  refine va_get (D := (dC, dI)) (ci := 0) (v := .int op) (C := RX2) (T := TX2) (N := 10) hx hb hts i_X2 hown hK hP 0 rfl rfl 7 (by decide) k_1 (fun _ h9 => h9) rfl dX2_open_1 ?_
  exact e_rdi hx hb hr hlocks dX2_open_4 q_X2_open_1

theorem q_X2_mostOpen_1 {mx : Int32}  : (mx = mx) := by
  grind
set_option maxHeartbeats 4000000 in
set_option maxRecDepth 100000 in
theorem c_X2_mostOpen (l : Launch) (dC : Nat → ClassId) (dI : Nat → Nat → Nat) (cI : ClassId) (aF : Nat) (f0 : Nat) (f1 : Nat) (f2 : Nat) (f3 : Nat) (f4 : Nat) (f5 : Nat) (f6 : Nat) (op : Int32) (mx : Int32) (tp : Int32)  : mRd l yX2_mostOpen wsX2_mostOpen ({ frames := 0, cells := 0, slots := 0, locals := 0 }) [.ref aF] (dC, dI) [(cI, .int)] [(aF, .inr (0, [.ref f0, .ref f1, .ref f2, .ref f3, .ref f4, .ref f5, .ref f6, .int op, .int mx, .int tp]))] (fun v => (v = mx)) := by
  refine o_rd (cc := cX2_mostOpen) (maxL := 1) (ret := (some .int)) (by decide) rfl (Nat.le_of_ble_eq_true rfl) ?_
  intro p e s m below meth c ls hx hb hr hml hts hown hlocks hP hK hl
  have hown : s.vm.findClass RX2 = some m.cls := hown
  have hl : lv_has ls 1 [(0, .ref aF)] := hl
  have k_1 := hts (.fieldLink RX2 37 "ZRoutines$Frames" "mostOpen" "I") (List.mem_of_getElem? (i := 1) rfl)
  have i_X2 : ∀ w ∈ u_ws RX2 TX2 10, w ∈ wsX2_mostOpen := fun _ h => List.mem_cons_of_mem _ (List.mem_append_right _ h)
  refine lv_aload_n hx hb dX2_mostOpen_0 rfl (lv_at hl 0 rfl) ?_
  refine va_get (D := (dC, dI)) (ci := 0) (v := .int mx) (C := RX2) (T := TX2) (N := 10) hx hb hts i_X2 hown hK hP 0 rfl rfl 8 (by decide) k_1 (fun _ h9 => h9) rfl dX2_mostOpen_1 ?_
  exact e_rdi hx hb hr hlocks dX2_mostOpen_4 q_X2_mostOpen_1

theorem q_X2_isDeepest_2 {op : Int32} (c_1 : op < 25) : ((0 : Int32) = if 25 ≤ op then 1 else 0) := by
  grind
theorem q_X2_isDeepest_3 {op : Int32} (c_1 : ¬ op < 25) : ((1 : Int32) = if 25 ≤ op then 1 else 0) := by
  grind
set_option maxHeartbeats 4000000 in
set_option maxRecDepth 100000 in
theorem c_X2_isDeepest (l : Launch) (dC : Nat → ClassId) (dI : Nat → Nat → Nat) (cI : ClassId) (aF : Nat) (f0 : Nat) (f1 : Nat) (f2 : Nat) (f3 : Nat) (f4 : Nat) (f5 : Nat) (f6 : Nat) (op : Int32) (mx : Int32) (tp : Int32)  : mRd l yX2_isDeepest wsX2_isDeepest ({ frames := 0, cells := 0, slots := 0, locals := 0 }) [.ref aF] (dC, dI) [(cI, .int)] [(aF, .inr (0, [.ref f0, .ref f1, .ref f2, .ref f3, .ref f4, .ref f5, .ref f6, .int op, .int mx, .int tp]))] (fun v => (v = if 25 ≤ op then 1 else 0)) := by
  refine o_rd (cc := cX2_isDeepest) (maxL := 1) (ret := (some .boolean)) (by decide) rfl (Nat.le_of_ble_eq_true rfl) ?_
  intro p e s m below meth c ls hx hb hr hml hts hown hlocks hP hK hl
  have hown : s.vm.findClass RX2 = some m.cls := hown
  have hl : lv_has ls 1 [(0, .ref aF)] := hl
  have k_1 := hts (.fieldLink RX2 33 "ZRoutines$Frames" "open" "I") (List.mem_of_getElem? (i := 1) rfl)
  have i_X2 : ∀ w ∈ u_ws RX2 TX2 10, w ∈ wsX2_isDeepest := fun _ h => List.mem_cons_of_mem _ (List.mem_append_right _ h)
  refine lv_aload_n hx hb dX2_isDeepest_0 rfl (lv_at hl 0 rfl) ?_
  refine va_get (D := (dC, dI)) (ci := 0) (v := .int op) (C := RX2) (T := TX2) (N := 10) hx hb hts i_X2 hown hK hP 0 rfl rfl 7 (by decide) k_1 (fun _ h9 => h9) rfl dX2_isDeepest_1 ?_
  refine lv_bipush (v := 25) hx hb dX2_isDeepest_4 (by decide) ?_
  refine lv_icmp_lt (tgt := 13) hx hb dX2_isDeepest_6 (by decide) (fun c_1 => ?_) (fun c_1 => ?_)
  · skip
    refine lv_iconst (v := 0) hx hb dX2_isDeepest_13 (by decide) ?_
    exact e_rdz hx hb hr hlocks dX2_isDeepest_14 rfl (q_X2_isDeepest_2 c_1)
  · skip
    refine lv_iconst (v := 1) hx hb dX2_isDeepest_9 (by decide) ?_
    refine lv_goto (tgt := 14) hx hb dX2_isDeepest_10 (by decide) ?_
    exact e_rdz hx hb hr hlocks dX2_isDeepest_14 rfl (q_X2_isDeepest_3 c_1)

theorem q_X2_routineNumber_1 {op : Int32} (ho1 : 1 ≤ op) (ho2 : op ≤ 25) : vp_in op 26 := by
  exact in_of (c := 26) (by decide) (by grind) (by grind)
theorem q_X2_routineNumber_3 {op : Int32} (ho1 : 1 ≤ op) (ho2 : op ≤ 25) : 1 ≤ op := by
  grind
theorem q_X2_routineNumber_4 {fr : Nat → Int32} {op : Int32} {x_2 : Int32} (ho1 : 1 ≤ op) (ho2 : op ≤ 25) (ex_2 : x_2 = fr (op - 1).toNatClampNeg) : (x_2 = fr (op - 1).toNatClampNeg) := by
  grind
set_option maxHeartbeats 4000000 in
set_option maxRecDepth 100000 in
theorem c_X2_routineNumber (l : Launch) (dC : Nat → ClassId) (dI : Nat → Nat → Nat) (cI : ClassId) (aF : Nat) (f0 : Nat) (f1 : Nat) (f2 : Nat) (f3 : Nat) (f4 : Nat) (f5 : Nat) (f6 : Nat) (fr : Nat → Int32) (op : Int32) (mx : Int32) (tp : Int32) (ho1 : 1 ≤ op) (ho2 : op ≤ 25) : mRd l yX2_routineNumber wsX2_routineNumber ({ frames := 0, cells := 0, slots := 0, locals := 0 }) [.ref aF] (dC, dI) [(cI, .int)] [(aF, .inr (0, [.ref f0, .ref f1, .ref f2, .ref f3, .ref f4, .ref f5, .ref f6, .int op, .int mx, .int tp])), (f0, .inl (cI, 26, .inl (sh fr)))] (fun v => (v = fr (op - 1).toNatClampNeg)) := by
  refine o_rd (cc := cX2_routineNumber) (maxL := 1) (ret := (some .int)) (by decide) rfl (Nat.le_of_ble_eq_true rfl) ?_
  intro p e s m below meth c ls hx hb hr hml hts hown hlocks hP hK hl
  have hown : s.vm.findClass RX2 = some m.cls := hown
  have hl : lv_has ls 1 [(0, .ref aF)] := hl
  have k_1 := hts (.fieldLink RX2 9 "ZRoutines$Frames" "routines" "[I") (List.mem_of_getElem? (i := 1) rfl)
  have k_2 := hts (.fieldLink RX2 33 "ZRoutines$Frames" "open" "I") (List.mem_of_getElem? (i := 2) rfl)
  have i_X2 : ∀ w ∈ u_ws RX2 TX2 10, w ∈ wsX2_routineNumber := fun _ h => List.mem_cons_of_mem _ (List.mem_append_right _ h)
  refine lv_aload_n hx hb dX2_routineNumber_0 rfl (lv_at hl 0 rfl) ?_
  refine va_get (D := (dC, dI)) (ci := 0) (v := .ref f0) (C := RX2) (T := TX2) (N := 10) hx hb hts i_X2 hown hK hP 0 rfl rfl 0 (by decide) k_1 (fun _ h9 => h9) rfl dX2_routineNumber_1 ?_
  refine lv_aload_n hx hb dX2_routineNumber_4 rfl (lv_at hl 0 rfl) ?_
  refine va_get (D := (dC, dI)) (ci := 0) (v := .int op) (C := RX2) (T := TX2) (N := 10) hx hb hts i_X2 hown hK hP 0 rfl rfl 7 (by decide) k_2 (fun _ h9 => h9) rfl dX2_routineNumber_5 ?_
  refine va_iald hx hb hK hP 1 0 rfl rfl (q_X2_routineNumber_1 ho1 ho2) dX2_routineNumber_8 ?_
  refine lv_topi (fun x_2 ex_2 => ?_)
  have ex_2 : x_2 = fr (op - 1).toNatClampNeg := ex_2.trans (sh_at (q_X2_routineNumber_3 ho1 ho2))
  exact e_rdi hx hb hr hlocks dX2_routineNumber_9 (q_X2_routineNumber_4 ho1 ho2 ex_2)

theorem q_X2_place_1 {op : Int32} (ho1 : 1 ≤ op) (ho2 : op ≤ 25) : vp_in op 26 := by
  exact in_of (c := 26) (by decide) (by grind) (by grind)
theorem q_X2_place_3 {op : Int32} (ho1 : 1 ≤ op) (ho2 : op ≤ 25) : 1 ≤ op := by
  grind
theorem q_X2_place_4 {pl : Nat → Int32} {op : Int32} {x_2 : Int32} (ho1 : 1 ≤ op) (ho2 : op ≤ 25) (ex_2 : x_2 = pl (op - 1).toNatClampNeg) : (x_2 = pl (op - 1).toNatClampNeg) := by
  grind
set_option maxHeartbeats 4000000 in
set_option maxRecDepth 100000 in
theorem c_X2_place (l : Launch) (dC : Nat → ClassId) (dI : Nat → Nat → Nat) (cI : ClassId) (aF : Nat) (f0 : Nat) (f1 : Nat) (f2 : Nat) (f3 : Nat) (f4 : Nat) (f5 : Nat) (f6 : Nat) (pl : Nat → Int32) (op : Int32) (mx : Int32) (tp : Int32) (ho1 : 1 ≤ op) (ho2 : op ≤ 25) : mRd l yX2_place wsX2_place ({ frames := 0, cells := 0, slots := 0, locals := 0 }) [.ref aF] (dC, dI) [(cI, .int)] [(aF, .inr (0, [.ref f0, .ref f1, .ref f2, .ref f3, .ref f4, .ref f5, .ref f6, .int op, .int mx, .int tp])), (f1, .inl (cI, 26, .inl (sh pl)))] (fun v => (v = pl (op - 1).toNatClampNeg)) := by
  refine o_rd (cc := cX2_place) (maxL := 1) (ret := (some .int)) (by decide) rfl (Nat.le_of_ble_eq_true rfl) ?_
  intro p e s m below meth c ls hx hb hr hml hts hown hlocks hP hK hl
  have hown : s.vm.findClass RX2 = some m.cls := hown
  have hl : lv_has ls 1 [(0, .ref aF)] := hl
  have k_1 := hts (.fieldLink RX2 15 "ZRoutines$Frames" "places" "[I") (List.mem_of_getElem? (i := 1) rfl)
  have k_2 := hts (.fieldLink RX2 33 "ZRoutines$Frames" "open" "I") (List.mem_of_getElem? (i := 2) rfl)
  have i_X2 : ∀ w ∈ u_ws RX2 TX2 10, w ∈ wsX2_place := fun _ h => List.mem_cons_of_mem _ (List.mem_append_right _ h)
  refine lv_aload_n hx hb dX2_place_0 rfl (lv_at hl 0 rfl) ?_
  refine va_get (D := (dC, dI)) (ci := 0) (v := .ref f1) (C := RX2) (T := TX2) (N := 10) hx hb hts i_X2 hown hK hP 0 rfl rfl 1 (by decide) k_1 (fun _ h9 => h9) rfl dX2_place_1 ?_
  refine lv_aload_n hx hb dX2_place_4 rfl (lv_at hl 0 rfl) ?_
  refine va_get (D := (dC, dI)) (ci := 0) (v := .int op) (C := RX2) (T := TX2) (N := 10) hx hb hts i_X2 hown hK hP 0 rfl rfl 7 (by decide) k_2 (fun _ h9 => h9) rfl dX2_place_5 ?_
  refine va_iald hx hb hK hP 1 0 rfl rfl (q_X2_place_1 ho1 ho2) dX2_place_8 ?_
  refine lv_topi (fun x_2 ex_2 => ?_)
  have ex_2 : x_2 = pl (op - 1).toNatClampNeg := ex_2.trans (sh_at (q_X2_place_3 ho1 ho2))
  exact e_rdi hx hb hr hlocks dX2_place_9 (q_X2_place_4 ho1 ho2 ex_2)

theorem q_X2_givenCount_1 {op : Int32} (ho1 : 1 ≤ op) (ho2 : op ≤ 25) : vp_in op 26 := by
  exact in_of (c := 26) (by decide) (by grind) (by grind)
theorem q_X2_givenCount_3 {op : Int32} (ho1 : 1 ≤ op) (ho2 : op ≤ 25) : 1 ≤ op := by
  grind
theorem q_X2_givenCount_4 {gc : Nat → Int32} {op : Int32} {x_2 : Int32} (ho1 : 1 ≤ op) (ho2 : op ≤ 25) (ex_2 : x_2 = gc (op - 1).toNatClampNeg) : (x_2 = gc (op - 1).toNatClampNeg) := by
  grind
set_option maxHeartbeats 4000000 in
set_option maxRecDepth 100000 in
theorem c_X2_givenCount (l : Launch) (dC : Nat → ClassId) (dI : Nat → Nat → Nat) (cI : ClassId) (aF : Nat) (f0 : Nat) (f1 : Nat) (f2 : Nat) (f3 : Nat) (f4 : Nat) (f5 : Nat) (f6 : Nat) (gc : Nat → Int32) (op : Int32) (mx : Int32) (tp : Int32) (ho1 : 1 ≤ op) (ho2 : op ≤ 25) : mRd l yX2_givenCount wsX2_givenCount ({ frames := 0, cells := 0, slots := 0, locals := 0 }) [.ref aF] (dC, dI) [(cI, .int)] [(aF, .inr (0, [.ref f0, .ref f1, .ref f2, .ref f3, .ref f4, .ref f5, .ref f6, .int op, .int mx, .int tp])), (f2, .inl (cI, 26, .inl (sh gc)))] (fun v => (v = gc (op - 1).toNatClampNeg)) := by
  refine o_rd (cc := cX2_givenCount) (maxL := 1) (ret := (some .int)) (by decide) rfl (Nat.le_of_ble_eq_true rfl) ?_
  intro p e s m below meth c ls hx hb hr hml hts hown hlocks hP hK hl
  have hown : s.vm.findClass RX2 = some m.cls := hown
  have hl : lv_has ls 1 [(0, .ref aF)] := hl
  have k_1 := hts (.fieldLink RX2 18 "ZRoutines$Frames" "givenCounts" "[I") (List.mem_of_getElem? (i := 1) rfl)
  have k_2 := hts (.fieldLink RX2 33 "ZRoutines$Frames" "open" "I") (List.mem_of_getElem? (i := 2) rfl)
  have i_X2 : ∀ w ∈ u_ws RX2 TX2 10, w ∈ wsX2_givenCount := fun _ h => List.mem_cons_of_mem _ (List.mem_append_right _ h)
  refine lv_aload_n hx hb dX2_givenCount_0 rfl (lv_at hl 0 rfl) ?_
  refine va_get (D := (dC, dI)) (ci := 0) (v := .ref f2) (C := RX2) (T := TX2) (N := 10) hx hb hts i_X2 hown hK hP 0 rfl rfl 2 (by decide) k_1 (fun _ h9 => h9) rfl dX2_givenCount_1 ?_
  refine lv_aload_n hx hb dX2_givenCount_4 rfl (lv_at hl 0 rfl) ?_
  refine va_get (D := (dC, dI)) (ci := 0) (v := .int op) (C := RX2) (T := TX2) (N := 10) hx hb hts i_X2 hown hK hP 0 rfl rfl 7 (by decide) k_2 (fun _ h9 => h9) rfl dX2_givenCount_5 ?_
  refine va_iald hx hb hK hP 1 0 rfl rfl (q_X2_givenCount_1 ho1 ho2) dX2_givenCount_8 ?_
  refine lv_topi (fun x_2 ex_2 => ?_)
  have ex_2 : x_2 = gc (op - 1).toNatClampNeg := ex_2.trans (sh_at (q_X2_givenCount_3 ho1 ho2))
  exact e_rdi hx hb hr hlocks dX2_givenCount_9 (q_X2_givenCount_4 ho1 ho2 ex_2)

theorem q_X2_goTo_1 {op : Int32} (ho1 : 1 ≤ op) (ho2 : op ≤ 25) : vp_in op 26 := by
  exact in_of (c := 26) (by decide) (by grind) (by grind)
theorem q_X2_goTo_2 {op : Int32} (ho1 : 1 ≤ op) (ho2 : op ≤ 25) : 1 ≤ op := by
  grind
theorem q_X2_goTo_3 {pl : Nat → Int32} {op : Int32} {k : Int32} (ho1 : 1 ≤ op) (ho2 : op ≤ 25) : ((upd pl (op - 1).toNatClampNeg k) = upd pl (op - 1).toNatClampNeg k) := by
  grind
set_option maxHeartbeats 4000000 in
set_option maxRecDepth 100000 in
theorem c_X2_goTo (l : Launch) (dC : Nat → ClassId) (dI : Nat → Nat → Nat) (cI : ClassId) (sz : Nat) (aF : Nat) (f0 : Nat) (f1 : Nat) (f2 : Nat) (f3 : Nat) (f4 : Nat) (f5 : Nat) (f6 : Nat) (pl : Nat → Int32) (op : Int32) (mx : Int32) (tp : Int32) (k : Int32) (ho1 : 1 ≤ op) (ho2 : op ≤ 25) : mWv l yX2_goTo wsX2_goTo ({ frames := 0, cells := 0, slots := 0, locals := 0 }) [.ref aF, .int k] (dC, dI) [(cI, .int)] [(aF, .inr (0, [.ref f0, .ref f1, .ref f2, .ref f3, .ref f4, .ref f5, .ref f6, .int op, .int mx, .int tp])), (f1, .inl (cI, 26, .inl (sh pl)))] sz (fun u : (Nat → Int32) => (u = upd pl (op - 1).toNatClampNeg k)) (fun u : (Nat → Int32) => [(aF, .inr (0, [.ref f0, .ref f1, .ref f2, .ref f3, .ref f4, .ref f5, .ref f6, .int op, .int mx, .int tp])), (f1, .inl (cI, 26, .inl (sh u)))]) := by
  refine o_wv (cc := cX2_goTo) (maxL := 2) (ret := none) (by decide) rfl (Nat.le_of_ble_eq_true rfl) ?_
  intro p e s m below meth c ls A hx hb hr hml hts hown hlocks hP hK hD hS hA hl
  have hown : s.vm.findClass RX2 = some m.cls := hown
  have hl : lv_has ls 2 [(0, .ref aF), (1, .int k)] := hl
  have k_1 := hts (.fieldLink RX2 15 "ZRoutines$Frames" "places" "[I") (List.mem_of_getElem? (i := 1) rfl)
  have k_2 := hts (.fieldLink RX2 33 "ZRoutines$Frames" "open" "I") (List.mem_of_getElem? (i := 2) rfl)
  have i_X2 : ∀ w ∈ u_ws RX2 TX2 10, w ∈ wsX2_goTo := fun _ h => List.mem_cons_of_mem _ (List.mem_append_right _ h)
  refine lv_aload_n hx hb dX2_goTo_0 rfl (lv_at hl 0 rfl) ?_
  refine va_get (D := (dC, dI)) (ci := 0) (v := .ref f1) (C := RX2) (T := TX2) (N := 10) hx hb hts i_X2 hown hK hP 0 rfl rfl 1 (by decide) k_1 (fun _ h9 => h9) rfl dX2_goTo_1 ?_
  refine lv_aload_n hx hb dX2_goTo_4 rfl (lv_at hl 0 rfl) ?_
  refine va_get (D := (dC, dI)) (ci := 0) (v := .int op) (C := RX2) (T := TX2) (N := 10) hx hb hts i_X2 hown hK hP 0 rfl rfl 7 (by decide) k_2 (fun _ h9 => h9) rfl dX2_goTo_5 ?_
  refine lv_iload_n hx hb dX2_goTo_8 rfl (lv_at hl 1 rfl) ?_
  refine va_iast hx hb hK hP hD hS 1 0 rfl rfl (q_X2_goTo_1 ho1 ho2) dX2_goTo_9 (fun H locs hP hD hS => ?_)
  have hP : va_P (dC, dI) vwCl [(aF, .inr (0, [.ref f0, .ref f1, .ref f2, .ref f3, .ref f4, .ref f5, .ref f6, .int op, .int mx, .int tp])), (f1, .inl (cI, 26, .inl (upd (sh pl) op.toNatClampNeg k)))] H := hP
  have hD : va_D A [(aF, .inr (0, [.ref f0, .ref f1, .ref f2, .ref f3, .ref f4, .ref f5, .ref f6, .int op, .int mx, .int tp])), (f1, .inl (cI, 26, .inl (upd (sh pl) op.toNatClampNeg k)))] := hD
  rw [sh_upd (q_X2_goTo_2 ho1 ho2)] at hP hD
  have hP : va_P (dC, dI) vwCl [(aF, .inr (0, [.ref f0, .ref f1, .ref f2, .ref f3, .ref f4, .ref f5, .ref f6, .int op, .int mx, .int tp])), (f1, .inl (cI, 26, .inl (sh (upd pl (op - 1).toNatClampNeg k))))] H := hP
  have hD : va_D A [(aF, .inr (0, [.ref f0, .ref f1, .ref f2, .ref f3, .ref f4, .ref f5, .ref f6, .int op, .int mx, .int tp])), (f1, .inl (cI, 26, .inl (sh (upd pl (op - 1).toNatClampNeg k))))] := hD
  exact e_wv hx hb hr hlocks dX2_goTo_10 hK hS (upd pl (op - 1).toNatClampNeg k) hP hD (q_X2_goTo_3 ho1 ho2)

theorem q_X2_hasLocal_2 {fl : Nat → Int32} {op : Int32} {k : Int32} (ho1 : 1 ≤ op) (ho2 : op ≤ 25) (c_1 : k < 0) : ((0 : Int32) = if 0 ≤ k ∧ k < fl (op - 1).toNatClampNeg then 1 else 0) := by
  grind
theorem q_X2_hasLocal_3 {op : Int32} {k : Int32} (ho1 : 1 ≤ op) (ho2 : op ≤ 25) (c_1 : ¬ k < 0) : vp_in op 26 := by
  exact in_of (c := 26) (by decide) (by grind) (by grind)
theorem q_X2_hasLocal_5 {op : Int32} {k : Int32} (ho1 : 1 ≤ op) (ho2 : op ≤ 25) (c_1 : ¬ k < 0) : 1 ≤ op := by
  grind
theorem q_X2_hasLocal_7 {fl : Nat → Int32} {op : Int32} {k : Int32} {x_4 : Int32} (ho1 : 1 ≤ op) (ho2 : op ≤ 25) (c_1 : ¬ k < 0) (ex_4 : x_4 = fl (op - 1).toNatClampNeg) (c_6 : x_4 ≤ k) : ((0 : Int32) = if 0 ≤ k ∧ k < fl (op - 1).toNatClampNeg then 1 else 0) := by
  grind
theorem q_X2_hasLocal_8 {fl : Nat → Int32} {op : Int32} {k : Int32} {x_4 : Int32} (ho1 : 1 ≤ op) (ho2 : op ≤ 25) (c_1 : ¬ k < 0) (ex_4 : x_4 = fl (op - 1).toNatClampNeg) (c_6 : ¬ x_4 ≤ k) : ((1 : Int32) = if 0 ≤ k ∧ k < fl (op - 1).toNatClampNeg then 1 else 0) := by
  grind
set_option maxHeartbeats 4000000 in
set_option maxRecDepth 100000 in
theorem c_X2_hasLocal (l : Launch) (dC : Nat → ClassId) (dI : Nat → Nat → Nat) (cI : ClassId) (aF : Nat) (f0 : Nat) (f1 : Nat) (f2 : Nat) (f3 : Nat) (f4 : Nat) (f5 : Nat) (f6 : Nat) (fl : Nat → Int32) (op : Int32) (mx : Int32) (tp : Int32) (k : Int32) (ho1 : 1 ≤ op) (ho2 : op ≤ 25) : mRd l yX2_hasLocal wsX2_hasLocal ({ frames := 0, cells := 0, slots := 0, locals := 0 }) [.ref aF, .int k] (dC, dI) [(cI, .int)] [(aF, .inr (0, [.ref f0, .ref f1, .ref f2, .ref f3, .ref f4, .ref f5, .ref f6, .int op, .int mx, .int tp])), (f3, .inl (cI, 26, .inl (sh fl)))] (fun v => (v = if 0 ≤ k ∧ k < fl (op - 1).toNatClampNeg then 1 else 0)) := by
  refine o_rd (cc := cX2_hasLocal) (maxL := 2) (ret := (some .boolean)) (by decide) rfl (Nat.le_of_ble_eq_true rfl) ?_
  intro p e s m below meth c ls hx hb hr hml hts hown hlocks hP hK hl
  have hown : s.vm.findClass RX2 = some m.cls := hown
  have hl : lv_has ls 2 [(0, .ref aF), (1, .int k)] := hl
  have k_1 := hts (.fieldLink RX2 21 "ZRoutines$Frames" "localCounts" "[I") (List.mem_of_getElem? (i := 1) rfl)
  have k_2 := hts (.fieldLink RX2 33 "ZRoutines$Frames" "open" "I") (List.mem_of_getElem? (i := 2) rfl)
  have i_X2 : ∀ w ∈ u_ws RX2 TX2 10, w ∈ wsX2_hasLocal := fun _ h => List.mem_cons_of_mem _ (List.mem_append_right _ h)
  refine lv_iload_n hx hb dX2_hasLocal_0 rfl (lv_at hl 1 rfl) ?_
  refine lv_if_lt (tgt := 21) hx hb dX2_hasLocal_1 (by decide) (fun c_1 => ?_) (fun c_1 => ?_)
  · skip
    refine lv_iconst (v := 0) hx hb dX2_hasLocal_21 (by decide) ?_
    exact e_rdz hx hb hr hlocks dX2_hasLocal_22 rfl (q_X2_hasLocal_2 ho1 ho2 c_1)
  · skip
    refine lv_iload_n hx hb dX2_hasLocal_4 rfl (lv_at hl 1 rfl) ?_
    refine lv_aload_n hx hb dX2_hasLocal_5 rfl (lv_at hl 0 rfl) ?_
    refine va_get (D := (dC, dI)) (ci := 0) (v := .ref f3) (C := RX2) (T := TX2) (N := 10) hx hb hts i_X2 hown hK hP 0 rfl rfl 3 (by decide) k_1 (fun _ h9 => h9) rfl dX2_hasLocal_6 ?_
    refine lv_aload_n hx hb dX2_hasLocal_9 rfl (lv_at hl 0 rfl) ?_
    refine va_get (D := (dC, dI)) (ci := 0) (v := .int op) (C := RX2) (T := TX2) (N := 10) hx hb hts i_X2 hown hK hP 0 rfl rfl 7 (by decide) k_2 (fun _ h9 => h9) rfl dX2_hasLocal_10 ?_
    refine va_iald hx hb hK hP 1 0 rfl rfl (q_X2_hasLocal_3 ho1 ho2 c_1) dX2_hasLocal_13 ?_
    refine lv_topi (fun x_4 ex_4 => ?_)
    have ex_4 : x_4 = fl (op - 1).toNatClampNeg := ex_4.trans (sh_at (q_X2_hasLocal_5 ho1 ho2 c_1))
    refine lv_icmp_ge (tgt := 21) hx hb dX2_hasLocal_14 (by decide) (fun c_6 => ?_) (fun c_6 => ?_)
    · skip
      refine lv_iconst (v := 0) hx hb dX2_hasLocal_21 (by decide) ?_
      exact e_rdz hx hb hr hlocks dX2_hasLocal_22 rfl (q_X2_hasLocal_7 ho1 ho2 c_1 ex_4 c_6)
    · skip
      refine lv_iconst (v := 1) hx hb dX2_hasLocal_17 (by decide) ?_
      refine lv_goto (tgt := 22) hx hb dX2_hasLocal_18 (by decide) ?_
      exact e_rdz hx hb hr hlocks dX2_hasLocal_22 rfl (q_X2_hasLocal_8 ho1 ho2 c_1 ex_4 c_6)

theorem q_X2_local_1 {fl : Nat → Int32} {op : Int32} {k : Int32} (ho1 : 1 ≤ op) (ho2 : op ≤ 25) (hk1 : 0 ≤ k) (hk2 : k < fl (op - 1).toNatClampNeg) (hf : fl (op - 1).toNatClampNeg ≤ 15) : 1 ≤ op := by
  grind
theorem q_X2_local_2 {fl : Nat → Int32} {op : Int32} {k : Int32} (ho1 : 1 ≤ op) (ho2 : op ≤ 25) (hk1 : 0 ≤ k) (hk2 : k < fl (op - 1).toNatClampNeg) (hf : fl (op - 1).toNatClampNeg ≤ 15) : op ≤ 25 := by
  grind
theorem q_X2_local_5 {fl : Nat → Int32} {op : Int32} {k : Int32} {r_3 : Int32} (ho1 : 1 ≤ op) (ho2 : op ≤ 25) (hk1 : 0 ≤ k) (hk2 : k < fl (op - 1).toNatClampNeg) (hf : fl (op - 1).toNatClampNeg ≤ 15) (hr_3 : r_3 = if 0 ≤ k ∧ k < fl (op - 1).toNatClampNeg then 1 else 0) (c_4 : r_3 = 0) : False := by
  grind
theorem q_X2_local_6 {fl : Nat → Int32} {op : Int32} {k : Int32} {r_3 : Int32} (ho1 : 1 ≤ op) (ho2 : op ≤ 25) (hk1 : 0 ≤ k) (hk2 : k < fl (op - 1).toNatClampNeg) (hf : fl (op - 1).toNatClampNeg ≤ 15) (hr_3 : r_3 = if 0 ≤ k ∧ k < fl (op - 1).toNatClampNeg then 1 else 0) (c_4 : ¬ r_3 = 0) : vp_in ((op * 15) + k) 390 := by
  exact in_of (c := 390) (by decide) (by grind) (by grind)
theorem q_X2_local_8 {fl : Nat → Int32} {vs : Nat → Int32} {op : Int32} {k : Int32} {r_3 : Int32} (ho1 : 1 ≤ op) (ho2 : op ≤ 25) (hk1 : 0 ≤ k) (hk2 : k < fl (op - 1).toNatClampNeg) (hf : fl (op - 1).toNatClampNeg ≤ 15) (hr_3 : r_3 = if 0 ≤ k ∧ k < fl (op - 1).toNatClampNeg then 1 else 0) (c_4 : ¬ r_3 = 0) : ((sw vs) ((op * 15) + k).toNatClampNeg) = vs (15 * (op - 1) + k).toNatClampNeg := by
  exact sw_at ho1 ho2 hk1 (by grind)
theorem q_X2_local_9 {fl : Nat → Int32} {vs : Nat → Int32} {op : Int32} {k : Int32} {r_3 : Int32} {x_7 : Int32} (ho1 : 1 ≤ op) (ho2 : op ≤ 25) (hk1 : 0 ≤ k) (hk2 : k < fl (op - 1).toNatClampNeg) (hf : fl (op - 1).toNatClampNeg ≤ 15) (hr_3 : r_3 = if 0 ≤ k ∧ k < fl (op - 1).toNatClampNeg then 1 else 0) (c_4 : ¬ r_3 = 0) (ex_7 : x_7 = vs (15 * (op - 1) + k).toNatClampNeg) : (x_7 = vs (15 * (op - 1) + k).toNatClampNeg) := by
  grind
set_option maxHeartbeats 4000000 in
set_option maxRecDepth 100000 in
theorem c_X2_local (l : Launch) (dC : Nat → ClassId) (dI : Nat → Nat → Nat) (cI : ClassId) (aF : Nat) (f0 : Nat) (f1 : Nat) (f2 : Nat) (f3 : Nat) (f4 : Nat) (f5 : Nat) (f6 : Nat) (fl : Nat → Int32) (vs : Nat → Int32) (op : Int32) (mx : Int32) (tp : Int32) (k : Int32) (ho1 : 1 ≤ op) (ho2 : op ≤ 25) (hk1 : 0 ≤ k) (hk2 : k < fl (op - 1).toNatClampNeg) (hf : fl (op - 1).toNatClampNeg ≤ 15) : mRd l yX2_local wsX2_local ({ frames := 1, cells := 0, slots := 0, locals := 21 }) [.ref aF, .int k] (dC, dI) [(cI, .int)] [(aF, .inr (0, [.ref f0, .ref f1, .ref f2, .ref f3, .ref f4, .ref f5, .ref f6, .int op, .int mx, .int tp])), (f3, .inl (cI, 26, .inl (sh fl))), (f5, .inl (cI, 390, .inl (sw vs)))] (fun v => (v = vs (15 * (op - 1) + k).toNatClampNeg)) := by
  refine o_rd (cc := cX2_local) (maxL := 2) (ret := (some .int)) (by decide) rfl (Nat.le_of_ble_eq_true rfl) ?_
  intro p e s m below meth c ls hx hb hr hml hts hown hlocks hP hK hl
  have hown : s.vm.findClass RX2 = some m.cls := hown
  have hl : lv_has ls 2 [(0, .ref aF), (1, .int k)] := hl
  have k_1 := hts (.fieldLink RX2 27 "ZRoutines$Frames" "locals" "[I") (List.mem_of_getElem? (i := 1) rfl)
  have k_2 := hts (.fieldLink RX2 33 "ZRoutines$Frames" "open" "I") (List.mem_of_getElem? (i := 2) rfl)
  have i_X2 : ∀ w ∈ u_ws RX2 TX2 10, w ∈ wsX2_local := fun _ h => List.mem_cons_of_mem _ (List.mem_append_right _ h)
  refine lv_aload_n hx hb dX2_local_0 rfl (lv_at hl 0 rfl) ?_
  refine lv_iload_n hx hb dX2_local_1 rfl (lv_at hl 1 rfl) ?_
  refine k_rd (ci := 0) (q0 := 0) (q := (RX2, TX2, 10)) (As := [.int k]) (rest := []) ⟨hx, hb, hml, hown, hts⟩ (c_X2_hasLocal l dC dI cI aF f0 f1 f2 f3 f4 f5 f6 fl op mx tp k (q_X2_local_1 ho1 ho2 hk1 hk2 hf) (q_X2_local_2 ho1 ho2 hk1 hk2 hf)) (cwV 1 hts gX2_local_X2_hasLocal rfl rfl rfl (by decide +kernel) ⟨Nat.le_of_ble_eq_true rfl, Nat.le_of_ble_eq_true rfl⟩) hK hP [0, 1] rfl rfl rfl rfl hl.1 rfl (Nat.le_of_ble_eq_true rfl) dX2_local_2 ⟨Nat.zero_le _, Nat.zero_le _⟩ (fun r_3 hr_3 => ?_)
  have hr_3 : r_3 = if 0 ≤ k ∧ k < fl (op - 1).toNatClampNeg then 1 else 0 := hr_3
  refine lv_if_eq (tgt := 25) hx hb dX2_local_5 (by decide) (fun c_4 => False.elim (q_X2_local_5 ho1 ho2 hk1 hk2 hf hr_3 c_4)) (fun c_4 => ?_)
  refine lv_aload_n hx hb dX2_local_8 rfl (lv_at hl 0 rfl) ?_
  refine va_get (D := (dC, dI)) (ci := 0) (v := .ref f5) (C := RX2) (T := TX2) (N := 10) hx hb hts i_X2 hown hK hP 0 rfl rfl 5 (by decide) k_1 (fun _ h9 => h9) rfl dX2_local_9 ?_
  refine lv_aload_n hx hb dX2_local_12 rfl (lv_at hl 0 rfl) ?_
  refine va_get (D := (dC, dI)) (ci := 0) (v := .int op) (C := RX2) (T := TX2) (N := 10) hx hb hts i_X2 hown hK hP 0 rfl rfl 7 (by decide) k_2 (fun _ h9 => h9) rfl dX2_local_13 ?_
  refine lv_bipush (v := 15) hx hb dX2_local_16 (by decide) ?_
  refine lv_imul hx hb dX2_local_18 ?_
  refine lv_iload_n hx hb dX2_local_19 rfl (lv_at hl 1 rfl) ?_
  refine lv_iadd hx hb dX2_local_20 ?_
  refine va_iald hx hb hK hP 2 0 rfl rfl (q_X2_local_6 ho1 ho2 hk1 hk2 hf hr_3 c_4) dX2_local_21 ?_
  refine lv_topi (fun x_7 ex_7 => ?_)
  have ex_7 : x_7 = vs (15 * (op - 1) + k).toNatClampNeg := ex_7.trans (q_X2_local_8 ho1 ho2 hk1 hk2 hf hr_3 c_4)
  refine lv_goto (tgt := 26) hx hb dX2_local_22 (by decide) ?_
  exact e_rdi hx hb hr hlocks dX2_local_26 (q_X2_local_9 ho1 ho2 hk1 hk2 hf hr_3 c_4 ex_7)

theorem q_X2_setLocal_1 {fl : Nat → Int32} {op : Int32} {k : Int32} (ho1 : 1 ≤ op) (ho2 : op ≤ 25) (hk1 : 0 ≤ k) (hk2 : k < fl (op - 1).toNatClampNeg) (hf : fl (op - 1).toNatClampNeg ≤ 15) : 1 ≤ op := by
  grind
theorem q_X2_setLocal_2 {fl : Nat → Int32} {op : Int32} {k : Int32} (ho1 : 1 ≤ op) (ho2 : op ≤ 25) (hk1 : 0 ≤ k) (hk2 : k < fl (op - 1).toNatClampNeg) (hf : fl (op - 1).toNatClampNeg ≤ 15) : op ≤ 25 := by
  grind
theorem q_X2_setLocal_5 {fl : Nat → Int32} {op : Int32} {k : Int32} {r_3 : Int32} (ho1 : 1 ≤ op) (ho2 : op ≤ 25) (hk1 : 0 ≤ k) (hk2 : k < fl (op - 1).toNatClampNeg) (hf : fl (op - 1).toNatClampNeg ≤ 15) (hr_3 : r_3 = if 0 ≤ k ∧ k < fl (op - 1).toNatClampNeg then 1 else 0) (c_4 : r_3 = 0) : False := by
  grind
theorem q_X2_setLocal_6 {fl : Nat → Int32} {op : Int32} {k : Int32} {r_3 : Int32} (ho1 : 1 ≤ op) (ho2 : op ≤ 25) (hk1 : 0 ≤ k) (hk2 : k < fl (op - 1).toNatClampNeg) (hf : fl (op - 1).toNatClampNeg ≤ 15) (hr_3 : r_3 = if 0 ≤ k ∧ k < fl (op - 1).toNatClampNeg then 1 else 0) (c_4 : ¬ r_3 = 0) : vp_in ((op * 15) + k) 390 := by
  exact in_of (c := 390) (by decide) (by grind) (by grind)
theorem q_X2_setLocal_7 {fl : Nat → Int32} {vs : Nat → Int32} {op : Int32} {k : Int32} {w : Int32} {r_3 : Int32} (ho1 : 1 ≤ op) (ho2 : op ≤ 25) (hk1 : 0 ≤ k) (hk2 : k < fl (op - 1).toNatClampNeg) (hf : fl (op - 1).toNatClampNeg ≤ 15) (hr_3 : r_3 = if 0 ≤ k ∧ k < fl (op - 1).toNatClampNeg then 1 else 0) (c_4 : ¬ r_3 = 0) : upd (sw vs) ((op * 15) + k).toNatClampNeg w = sw (upd vs (15 * (op - 1) + k).toNatClampNeg w) := by
  exact sw_upd ho1 ho2 hk1 (by grind)
theorem q_X2_setLocal_8 {fl : Nat → Int32} {vs : Nat → Int32} {op : Int32} {k : Int32} {w : Int32} {r_3 : Int32} (ho1 : 1 ≤ op) (ho2 : op ≤ 25) (hk1 : 0 ≤ k) (hk2 : k < fl (op - 1).toNatClampNeg) (hf : fl (op - 1).toNatClampNeg ≤ 15) (hr_3 : r_3 = if 0 ≤ k ∧ k < fl (op - 1).toNatClampNeg then 1 else 0) (c_4 : ¬ r_3 = 0) : ((upd vs (15 * (op - 1) + k).toNatClampNeg w) = upd vs (15 * (op - 1) + k).toNatClampNeg w) := by
  grind
set_option maxHeartbeats 4000000 in
set_option maxRecDepth 100000 in
theorem c_X2_setLocal (l : Launch) (dC : Nat → ClassId) (dI : Nat → Nat → Nat) (cI : ClassId) (sz : Nat) (aF : Nat) (f0 : Nat) (f1 : Nat) (f2 : Nat) (f3 : Nat) (f4 : Nat) (f5 : Nat) (f6 : Nat) (fl : Nat → Int32) (vs : Nat → Int32) (op : Int32) (mx : Int32) (tp : Int32) (k : Int32) (w : Int32) (ho1 : 1 ≤ op) (ho2 : op ≤ 25) (hk1 : 0 ≤ k) (hk2 : k < fl (op - 1).toNatClampNeg) (hf : fl (op - 1).toNatClampNeg ≤ 15) : mWv l yX2_setLocal wsX2_setLocal ({ frames := 1, cells := 0, slots := 0, locals := 21 }) [.ref aF, .int k, .int w] (dC, dI) [(cI, .int)] [(aF, .inr (0, [.ref f0, .ref f1, .ref f2, .ref f3, .ref f4, .ref f5, .ref f6, .int op, .int mx, .int tp])), (f3, .inl (cI, 26, .inl (sh fl))), (f5, .inl (cI, 390, .inl (sw vs)))] sz (fun u : (Nat → Int32) => (u = upd vs (15 * (op - 1) + k).toNatClampNeg w)) (fun u : (Nat → Int32) => [(aF, .inr (0, [.ref f0, .ref f1, .ref f2, .ref f3, .ref f4, .ref f5, .ref f6, .int op, .int mx, .int tp])), (f3, .inl (cI, 26, .inl (sh fl))), (f5, .inl (cI, 390, .inl (sw u)))]) := by
  refine o_wv (cc := cX2_setLocal) (maxL := 3) (ret := none) (by decide) rfl (Nat.le_of_ble_eq_true rfl) ?_
  intro p e s m below meth c ls A hx hb hr hml hts hown hlocks hP hK hD hS hA hl
  have hown : s.vm.findClass RX2 = some m.cls := hown
  have hl : lv_has ls 3 [(0, .ref aF), (1, .int k), (2, .int w)] := hl
  have k_1 := hts (.fieldLink RX2 27 "ZRoutines$Frames" "locals" "[I") (List.mem_of_getElem? (i := 1) rfl)
  have k_2 := hts (.fieldLink RX2 33 "ZRoutines$Frames" "open" "I") (List.mem_of_getElem? (i := 2) rfl)
  have i_X2 : ∀ w ∈ u_ws RX2 TX2 10, w ∈ wsX2_setLocal := fun _ h => List.mem_cons_of_mem _ (List.mem_append_right _ h)
  refine lv_aload_n hx hb dX2_setLocal_0 rfl (lv_at hl 0 rfl) ?_
  refine lv_iload_n hx hb dX2_setLocal_1 rfl (lv_at hl 1 rfl) ?_
  refine k_rd (ci := 0) (q0 := 0) (q := (RX2, TX2, 10)) (As := [.int k]) (rest := []) ⟨hx, hb, hml, hown, hts⟩ (c_X2_hasLocal l dC dI cI aF f0 f1 f2 f3 f4 f5 f6 fl op mx tp k (q_X2_setLocal_1 ho1 ho2 hk1 hk2 hf) (q_X2_setLocal_2 ho1 ho2 hk1 hk2 hf)) (cwV 1 hts gX2_setLocal_X2_hasLocal rfl rfl rfl (by decide +kernel) ⟨Nat.le_of_ble_eq_true rfl, Nat.le_of_ble_eq_true rfl⟩) hK hP [0, 1] rfl rfl rfl rfl hl.1 rfl (Nat.le_of_ble_eq_true rfl) dX2_setLocal_2 ⟨Nat.zero_le _, Nat.zero_le _⟩ (fun r_3 hr_3 => ?_)
  have hr_3 : r_3 = if 0 ≤ k ∧ k < fl (op - 1).toNatClampNeg then 1 else 0 := hr_3
  refine lv_if_eq (tgt := 23) hx hb dX2_setLocal_5 (by decide) (fun c_4 => False.elim (q_X2_setLocal_5 ho1 ho2 hk1 hk2 hf hr_3 c_4)) (fun c_4 => ?_)
  refine lv_aload_n hx hb dX2_setLocal_8 rfl (lv_at hl 0 rfl) ?_
  refine va_get (D := (dC, dI)) (ci := 0) (v := .ref f5) (C := RX2) (T := TX2) (N := 10) hx hb hts i_X2 hown hK hP 0 rfl rfl 5 (by decide) k_1 (fun _ h9 => h9) rfl dX2_setLocal_9 ?_
  refine lv_aload_n hx hb dX2_setLocal_12 rfl (lv_at hl 0 rfl) ?_
  refine va_get (D := (dC, dI)) (ci := 0) (v := .int op) (C := RX2) (T := TX2) (N := 10) hx hb hts i_X2 hown hK hP 0 rfl rfl 7 (by decide) k_2 (fun _ h9 => h9) rfl dX2_setLocal_13 ?_
  refine lv_bipush (v := 15) hx hb dX2_setLocal_16 (by decide) ?_
  refine lv_imul hx hb dX2_setLocal_18 ?_
  refine lv_iload_n hx hb dX2_setLocal_19 rfl (lv_at hl 1 rfl) ?_
  refine lv_iadd hx hb dX2_setLocal_20 ?_
  refine lv_iload_n hx hb dX2_setLocal_21 rfl (lv_at hl 2 rfl) ?_
  refine va_iast hx hb hK hP hD hS 2 0 rfl rfl (q_X2_setLocal_6 ho1 ho2 hk1 hk2 hf hr_3 c_4) dX2_setLocal_22 (fun H locs hP hD hS => ?_)
  have hP : va_P (dC, dI) vwCl [(aF, .inr (0, [.ref f0, .ref f1, .ref f2, .ref f3, .ref f4, .ref f5, .ref f6, .int op, .int mx, .int tp])), (f3, .inl (cI, 26, .inl (sh fl))), (f5, .inl (cI, 390, .inl (upd (sw vs) ((op * 15) + k).toNatClampNeg w)))] H := hP
  have hD : va_D A [(aF, .inr (0, [.ref f0, .ref f1, .ref f2, .ref f3, .ref f4, .ref f5, .ref f6, .int op, .int mx, .int tp])), (f3, .inl (cI, 26, .inl (sh fl))), (f5, .inl (cI, 390, .inl (upd (sw vs) ((op * 15) + k).toNatClampNeg w)))] := hD
  rw [(q_X2_setLocal_7 ho1 ho2 hk1 hk2 hf hr_3 c_4)] at hP hD
  have hP : va_P (dC, dI) vwCl [(aF, .inr (0, [.ref f0, .ref f1, .ref f2, .ref f3, .ref f4, .ref f5, .ref f6, .int op, .int mx, .int tp])), (f3, .inl (cI, 26, .inl (sh fl))), (f5, .inl (cI, 390, .inl (sw (upd vs (15 * (op - 1) + k).toNatClampNeg w))))] H := hP
  have hD : va_D A [(aF, .inr (0, [.ref f0, .ref f1, .ref f2, .ref f3, .ref f4, .ref f5, .ref f6, .int op, .int mx, .int tp])), (f3, .inl (cI, 26, .inl (sh fl))), (f5, .inl (cI, 390, .inl (sw (upd vs (15 * (op - 1) + k).toNatClampNeg w))))] := hD
  exact e_wv hx hb hr hlocks dX2_setLocal_23 hK hS (upd vs (15 * (op - 1) + k).toNatClampNeg w) hP hD (q_X2_setLocal_8 ho1 ho2 hk1 hk2 hf hr_3 c_4)

theorem q_X2_holds_1 {op : Int32} (ho1 : 1 ≤ op) (ho2 : op ≤ 25) : vp_in op 26 := by
  exact in_of (c := 26) (by decide) (by grind) (by grind)
theorem q_X2_holds_3 {op : Int32} (ho1 : 1 ≤ op) (ho2 : op ≤ 25) : 1 ≤ op := by
  grind
theorem q_X2_holds_5 {ba : Nat → Int32} {op : Int32} {tp : Int32} {k : Int32} {x_2 : Int32} (ho1 : 1 ≤ op) (ho2 : op ≤ 25) (ex_2 : x_2 = ba (op - 1).toNatClampNeg) (c_4 : (tp - x_2) < k) : ((0 : Int32) = if k ≤ tp - ba (op - 1).toNatClampNeg then 1 else 0) := by
  grind
theorem q_X2_holds_6 {ba : Nat → Int32} {op : Int32} {tp : Int32} {k : Int32} {x_2 : Int32} (ho1 : 1 ≤ op) (ho2 : op ≤ 25) (ex_2 : x_2 = ba (op - 1).toNatClampNeg) (c_4 : ¬ (tp - x_2) < k) : ((1 : Int32) = if k ≤ tp - ba (op - 1).toNatClampNeg then 1 else 0) := by
  grind
set_option maxHeartbeats 4000000 in
set_option maxRecDepth 100000 in
theorem c_X2_holds (l : Launch) (dC : Nat → ClassId) (dI : Nat → Nat → Nat) (cI : ClassId) (aF : Nat) (f0 : Nat) (f1 : Nat) (f2 : Nat) (f3 : Nat) (f4 : Nat) (f5 : Nat) (f6 : Nat) (ba : Nat → Int32) (op : Int32) (mx : Int32) (tp : Int32) (k : Int32) (ho1 : 1 ≤ op) (ho2 : op ≤ 25) : mRd l yX2_holds wsX2_holds ({ frames := 0, cells := 0, slots := 0, locals := 0 }) [.ref aF, .int k] (dC, dI) [(cI, .int)] [(aF, .inr (0, [.ref f0, .ref f1, .ref f2, .ref f3, .ref f4, .ref f5, .ref f6, .int op, .int mx, .int tp])), (f4, .inl (cI, 26, .inl (sh ba)))] (fun v => (v = if k ≤ tp - ba (op - 1).toNatClampNeg then 1 else 0)) := by
  refine o_rd (cc := cX2_holds) (maxL := 2) (ret := (some .boolean)) (by decide) rfl (Nat.le_of_ble_eq_true rfl) ?_
  intro p e s m below meth c ls hx hb hr hml hts hown hlocks hP hK hl
  have hown : s.vm.findClass RX2 = some m.cls := hown
  have hl : lv_has ls 2 [(0, .ref aF), (1, .int k)] := hl
  have k_1 := hts (.fieldLink RX2 40 "ZRoutines$Frames" "top" "I") (List.mem_of_getElem? (i := 1) rfl)
  have k_2 := hts (.fieldLink RX2 24 "ZRoutines$Frames" "bases" "[I") (List.mem_of_getElem? (i := 2) rfl)
  have k_3 := hts (.fieldLink RX2 33 "ZRoutines$Frames" "open" "I") (List.mem_of_getElem? (i := 3) rfl)
  have i_X2 : ∀ w ∈ u_ws RX2 TX2 10, w ∈ wsX2_holds := fun _ h => List.mem_cons_of_mem _ (List.mem_append_right _ h)
  refine lv_aload_n hx hb dX2_holds_0 rfl (lv_at hl 0 rfl) ?_
  refine va_get (D := (dC, dI)) (ci := 0) (v := .int tp) (C := RX2) (T := TX2) (N := 10) hx hb hts i_X2 hown hK hP 0 rfl rfl 9 (by decide) k_1 (fun _ h9 => h9) rfl dX2_holds_1 ?_
  refine lv_aload_n hx hb dX2_holds_4 rfl (lv_at hl 0 rfl) ?_
  refine va_get (D := (dC, dI)) (ci := 0) (v := .ref f4) (C := RX2) (T := TX2) (N := 10) hx hb hts i_X2 hown hK hP 0 rfl rfl 4 (by decide) k_2 (fun _ h9 => h9) rfl dX2_holds_5 ?_
  refine lv_aload_n hx hb dX2_holds_8 rfl (lv_at hl 0 rfl) ?_
  refine va_get (D := (dC, dI)) (ci := 0) (v := .int op) (C := RX2) (T := TX2) (N := 10) hx hb hts i_X2 hown hK hP 0 rfl rfl 7 (by decide) k_3 (fun _ h9 => h9) rfl dX2_holds_9 ?_
  refine va_iald hx hb hK hP 1 0 rfl rfl (q_X2_holds_1 ho1 ho2) dX2_holds_12 ?_
  refine lv_topi (fun x_2 ex_2 => ?_)
  have ex_2 : x_2 = ba (op - 1).toNatClampNeg := ex_2.trans (sh_at (q_X2_holds_3 ho1 ho2))
  refine lv_isub hx hb dX2_holds_13 ?_
  refine lv_iload_n hx hb dX2_holds_14 rfl (lv_at hl 1 rfl) ?_
  refine lv_icmp_lt (tgt := 22) hx hb dX2_holds_15 (by decide) (fun c_4 => ?_) (fun c_4 => ?_)
  · skip
    refine lv_iconst (v := 0) hx hb dX2_holds_22 (by decide) ?_
    exact e_rdz hx hb hr hlocks dX2_holds_23 rfl (q_X2_holds_5 ho1 ho2 ex_2 c_4)
  · skip
    refine lv_iconst (v := 1) hx hb dX2_holds_18 (by decide) ?_
    refine lv_goto (tgt := 23) hx hb dX2_holds_19 (by decide) ?_
    exact e_rdz hx hb hr hlocks dX2_holds_23 rfl (q_X2_holds_6 ho1 ho2 ex_2 c_4)

theorem q_X2_isFullWithout_2 {tp : Int32} {k : Int32} (c_1 : (tp - k) < 60) : ((0 : Int32) = if 60 ≤ tp - k then 1 else 0) := by
  grind
theorem q_X2_isFullWithout_3 {tp : Int32} {k : Int32} (c_1 : ¬ (tp - k) < 60) : ((1 : Int32) = if 60 ≤ tp - k then 1 else 0) := by
  grind
set_option maxHeartbeats 4000000 in
set_option maxRecDepth 100000 in
theorem c_X2_isFullWithout (l : Launch) (dC : Nat → ClassId) (dI : Nat → Nat → Nat) (cI : ClassId) (aF : Nat) (f0 : Nat) (f1 : Nat) (f2 : Nat) (f3 : Nat) (f4 : Nat) (f5 : Nat) (f6 : Nat) (op : Int32) (mx : Int32) (tp : Int32) (k : Int32)  : mRd l yX2_isFullWithout wsX2_isFullWithout ({ frames := 0, cells := 0, slots := 0, locals := 0 }) [.ref aF, .int k] (dC, dI) [(cI, .int)] [(aF, .inr (0, [.ref f0, .ref f1, .ref f2, .ref f3, .ref f4, .ref f5, .ref f6, .int op, .int mx, .int tp]))] (fun v => (v = if 60 ≤ tp - k then 1 else 0)) := by
  refine o_rd (cc := cX2_isFullWithout) (maxL := 2) (ret := (some .boolean)) (by decide) rfl (Nat.le_of_ble_eq_true rfl) ?_
  intro p e s m below meth c ls hx hb hr hml hts hown hlocks hP hK hl
  have hown : s.vm.findClass RX2 = some m.cls := hown
  have hl : lv_has ls 2 [(0, .ref aF), (1, .int k)] := hl
  have k_1 := hts (.fieldLink RX2 40 "ZRoutines$Frames" "top" "I") (List.mem_of_getElem? (i := 1) rfl)
  have i_X2 : ∀ w ∈ u_ws RX2 TX2 10, w ∈ wsX2_isFullWithout := fun _ h => List.mem_cons_of_mem _ (List.mem_append_right _ h)
  refine lv_aload_n hx hb dX2_isFullWithout_0 rfl (lv_at hl 0 rfl) ?_
  refine va_get (D := (dC, dI)) (ci := 0) (v := .int tp) (C := RX2) (T := TX2) (N := 10) hx hb hts i_X2 hown hK hP 0 rfl rfl 9 (by decide) k_1 (fun _ h9 => h9) rfl dX2_isFullWithout_1 ?_
  refine lv_iload_n hx hb dX2_isFullWithout_4 rfl (lv_at hl 1 rfl) ?_
  refine lv_isub hx hb dX2_isFullWithout_5 ?_
  refine lv_bipush (v := 60) hx hb dX2_isFullWithout_6 (by decide) ?_
  refine lv_icmp_lt (tgt := 15) hx hb dX2_isFullWithout_8 (by decide) (fun c_1 => ?_) (fun c_1 => ?_)
  · skip
    refine lv_iconst (v := 0) hx hb dX2_isFullWithout_15 (by decide) ?_
    exact e_rdz hx hb hr hlocks dX2_isFullWithout_16 rfl (q_X2_isFullWithout_2 c_1)
  · skip
    refine lv_iconst (v := 1) hx hb dX2_isFullWithout_11 (by decide) ?_
    refine lv_goto (tgt := 16) hx hb dX2_isFullWithout_12 (by decide) ?_
    exact e_rdz hx hb hr hlocks dX2_isFullWithout_16 rfl (q_X2_isFullWithout_3 c_1)

theorem q_X2_push_2 {tp : Int32} (ht1 : 0 ≤ tp) (ht2 : tp ≤ 60) (c_1 : tp < 0) : False := by
  grind
theorem q_X2_push_4 {tp : Int32} (ht1 : 0 ≤ tp) (ht2 : tp ≤ 60) (c_1 : ¬ tp < 0) (c_3 : tp < 60) : vp_in tp 60 := by
  exact in_of (c := 60) (by decide) (by grind) (by grind)
theorem q_X2_push_5 {st : Nat → Int32} {tp : Int32} {k : Int32} (ht1 : 0 ≤ tp) (ht2 : tp ≤ 60) (c_1 : ¬ tp < 0) (c_3 : tp < 60) : ((0 : Int32) = if tp = 60 then 8 else 0) ∧ ((upd st tp.toNatClampNeg (sx k)) = if tp = 60 then st else upd st tp.toNatClampNeg (sx k)) ∧ ((tp + 1) = if tp = 60 then tp else tp + 1) := by
  grind
theorem q_X2_push_6 {st : Nat → Int32} {tp : Int32} {k : Int32} (ht1 : 0 ≤ tp) (ht2 : tp ≤ 60) (c_1 : ¬ tp < 0) (c_3 : ¬ tp < 60) : ((8 : Int32) = if tp = 60 then 8 else 0) ∧ (st = if tp = 60 then st else upd st tp.toNatClampNeg (sx k)) ∧ (tp = if tp = 60 then tp else tp + 1) := by
  grind
set_option maxHeartbeats 4000000 in
set_option maxRecDepth 100000 in
theorem c_X2_push (l : Launch) (dC : Nat → ClassId) (dI : Nat → Nat → Nat) (cI : ClassId) (sz : Nat) (aF : Nat) (f0 : Nat) (f1 : Nat) (f2 : Nat) (f3 : Nat) (f4 : Nat) (f5 : Nat) (f6 : Nat) (st : Nat → Int32) (op : Int32) (mx : Int32) (tp : Int32) (k : Int32) (ht1 : 0 ≤ tp) (ht2 : tp ≤ 60) : mWi l yX2_push wsX2_push ({ frames := 0, cells := 0, slots := 0, locals := 0 }) [.ref aF, .int k] (dC, dI) [(cI, .int)] [(aF, .inr (0, [.ref f0, .ref f1, .ref f2, .ref f3, .ref f4, .ref f5, .ref f6, .int op, .int mx, .int tp])), (f6, .inl (cI, 60, .inl st))] sz (fun (v : Int32) (u : (Nat → Int32) × (Int32)) => (v = if tp = 60 then 8 else 0) ∧ (u.1 = if tp = 60 then st else upd st tp.toNatClampNeg (sx k)) ∧ (u.2 = if tp = 60 then tp else tp + 1)) (fun u : (Nat → Int32) × (Int32) => [(aF, .inr (0, [.ref f0, .ref f1, .ref f2, .ref f3, .ref f4, .ref f5, .ref f6, .int op, .int mx, .int u.2])), (f6, .inl (cI, 60, .inl u.1))]) := by
  refine o_wi (cc := cX2_push) (maxL := 2) (ret := (some .int)) (by decide) rfl (Nat.le_of_ble_eq_true rfl) ?_
  intro p e s m below meth c ls A hx hb hr hml hts hown hlocks hP hK hD hS hA hl
  have hown : s.vm.findClass RX2 = some m.cls := hown
  have hl : lv_has ls 2 [(0, .ref aF), (1, .int k)] := hl
  have k_1 := hts (.fieldLink RX2 40 "ZRoutines$Frames" "top" "I") (List.mem_of_getElem? (i := 1) rfl)
  have k_2 := hts (.fieldLink RX2 30 "ZRoutines$Frames" "numbers" "[I") (List.mem_of_getElem? (i := 2) rfl)
  have i_X2 : ∀ w ∈ u_ws RX2 TX2 10, w ∈ wsX2_push := fun _ h => List.mem_cons_of_mem _ (List.mem_append_right _ h)
  refine lv_aload_n hx hb dX2_push_0 rfl (lv_at hl 0 rfl) ?_
  refine va_get (D := (dC, dI)) (ci := 0) (v := .int tp) (C := RX2) (T := TX2) (N := 10) hx hb hts i_X2 hown hK hP 0 rfl rfl 9 (by decide) k_1 (fun _ h9 => h9) rfl dX2_push_1 ?_
  refine lv_if_lt (tgt := 16) hx hb dX2_push_4 (by decide) (fun c_1 => False.elim (q_X2_push_2 ht1 ht2 c_1)) (fun c_1 => ?_)
  refine lv_aload_n hx hb dX2_push_7 rfl (lv_at hl 0 rfl) ?_
  refine va_get (D := (dC, dI)) (ci := 0) (v := .int tp) (C := RX2) (T := TX2) (N := 10) hx hb hts i_X2 hown hK hP 0 rfl rfl 9 (by decide) k_1 (fun _ h9 => h9) rfl dX2_push_8 ?_
  refine lv_bipush (v := 60) hx hb dX2_push_11 (by decide) ?_
  refine lv_icmp_lt (tgt := 19) hx hb dX2_push_13 (by decide) (fun c_3 => ?_) (fun c_3 => ?_)
  · skip
    refine lv_aload_n hx hb dX2_push_19 rfl (lv_at hl 0 rfl) ?_
    refine va_get (D := (dC, dI)) (ci := 0) (v := .ref f6) (C := RX2) (T := TX2) (N := 10) hx hb hts i_X2 hown hK hP 0 rfl rfl 6 (by decide) k_2 (fun _ h9 => h9) rfl dX2_push_20 ?_
    refine lv_aload_n hx hb dX2_push_23 rfl (lv_at hl 0 rfl) ?_
    refine va_get (D := (dC, dI)) (ci := 0) (v := .int tp) (C := RX2) (T := TX2) (N := 10) hx hb hts i_X2 hown hK hP 0 rfl rfl 9 (by decide) k_1 (fun _ h9 => h9) rfl dX2_push_24 ?_
    refine lv_iload_n hx hb dX2_push_27 rfl (lv_at hl 1 rfl) ?_
    refine lv_i2s (v := sx k) hx hb dX2_push_28 rfl ?_
    refine va_iast hx hb hK hP hD hS 1 0 rfl rfl (q_X2_push_4 ht1 ht2 c_1 c_3) dX2_push_29 (fun H locs hP hD hS => ?_)
    have hP : va_P (dC, dI) vwCl [(aF, .inr (0, [.ref f0, .ref f1, .ref f2, .ref f3, .ref f4, .ref f5, .ref f6, .int op, .int mx, .int tp])), (f6, .inl (cI, 60, .inl (upd st tp.toNatClampNeg (sx k))))] H := hP
    have hD : va_D A [(aF, .inr (0, [.ref f0, .ref f1, .ref f2, .ref f3, .ref f4, .ref f5, .ref f6, .int op, .int mx, .int tp])), (f6, .inl (cI, 60, .inl (upd st tp.toNatClampNeg (sx k))))] := hD
    refine lv_aload_n hx hb dX2_push_30 rfl (lv_at hl 0 rfl) ?_
    refine lv_dup hx hb dX2_push_31 rfl ?_
    refine va_get (D := (dC, dI)) (ci := 0) (v := .int tp) (C := RX2) (T := TX2) (N := 10) hx hb hts i_X2 hown hK hP 0 rfl rfl 9 (by decide) k_1 (fun _ h9 => h9) rfl dX2_push_32 ?_
    refine lv_iconst (v := 1) hx hb dX2_push_35 (by decide) ?_
    refine lv_iadd hx hb dX2_push_36 ?_
    refine va_put (D := (dC, dI)) (ci := 0) (v := .int (tp + 1)) (ty := .int) (C := RX2) (T := TX2) (N := 10) hx hb hts i_X2 tyX2 tyX2_ok nmX2 hown hK hP hD hS 0 rfl rfl 9 (by decide) k_1 (fun _ h9 => h9) rfl (by decide +kernel) rfl rfl (Nat.le_of_ble_eq_true rfl) dX2_push_37 (fun H locs hP hD hS => ?_)
    have hP : va_P (dC, dI) vwCl [(aF, .inr (0, [.ref f0, .ref f1, .ref f2, .ref f3, .ref f4, .ref f5, .ref f6, .int op, .int mx, .int (tp + 1)])), (f6, .inl (cI, 60, .inl (upd st tp.toNatClampNeg (sx k))))] H := hP
    have hD : va_D A [(aF, .inr (0, [.ref f0, .ref f1, .ref f2, .ref f3, .ref f4, .ref f5, .ref f6, .int op, .int mx, .int (tp + 1)])), (f6, .inl (cI, 60, .inl (upd st tp.toNatClampNeg (sx k))))] := hD
    refine lv_iconst (v := 0) hx hb dX2_push_40 (by decide) ?_
    exact e_wi hx hb hr hlocks dX2_push_41 hK hS (upd st tp.toNatClampNeg (sx k), (tp + 1)) hP hD (q_X2_push_5 ht1 ht2 c_1 c_3)
  · skip
    refine lv_bipush (v := 8) hx hb dX2_push_16 (by decide) ?_
    exact e_wi hx hb hr hlocks dX2_push_18 hK hS (st, tp) hP hD (q_X2_push_6 ht1 ht2 c_1 c_3)

theorem q_X2_fromTop_2 {ba : Nat → Int32} {op : Int32} {tp : Int32} {k : Int32} (ho1 : 1 ≤ op) (ho2 : op ≤ 25) (hb1 : 0 ≤ ba (op - 1).toNatClampNeg) (hb2 : ba (op - 1).toNatClampNeg ≤ tp) (ht2 : tp ≤ 60) (hk1 : 0 ≤ k) (hk2 : k < tp - ba (op - 1).toNatClampNeg) (c_1 : k < 0) : False := by
  grind
theorem q_X2_fromTop_3 {ba : Nat → Int32} {op : Int32} {tp : Int32} {k : Int32} (ho1 : 1 ≤ op) (ho2 : op ≤ 25) (hb1 : 0 ≤ ba (op - 1).toNatClampNeg) (hb2 : ba (op - 1).toNatClampNeg ≤ tp) (ht2 : tp ≤ 60) (hk1 : 0 ≤ k) (hk2 : k < tp - ba (op - 1).toNatClampNeg) (c_1 : ¬ k < 0) : 1 ≤ op := by
  grind
theorem q_X2_fromTop_4 {ba : Nat → Int32} {op : Int32} {tp : Int32} {k : Int32} (ho1 : 1 ≤ op) (ho2 : op ≤ 25) (hb1 : 0 ≤ ba (op - 1).toNatClampNeg) (hb2 : ba (op - 1).toNatClampNeg ≤ tp) (ht2 : tp ≤ 60) (hk1 : 0 ≤ k) (hk2 : k < tp - ba (op - 1).toNatClampNeg) (c_1 : ¬ k < 0) : op ≤ 25 := by
  grind
theorem q_X2_fromTop_7 {ba : Nat → Int32} {op : Int32} {tp : Int32} {k : Int32} {r_5 : Int32} (ho1 : 1 ≤ op) (ho2 : op ≤ 25) (hb1 : 0 ≤ ba (op - 1).toNatClampNeg) (hb2 : ba (op - 1).toNatClampNeg ≤ tp) (ht2 : tp ≤ 60) (hk1 : 0 ≤ k) (hk2 : k < tp - ba (op - 1).toNatClampNeg) (c_1 : ¬ k < 0) (hr_5 : r_5 = if (k + 1) ≤ tp - ba (op - 1).toNatClampNeg then 1 else 0) (c_6 : r_5 = 0) : False := by
  have h9 : tp - ba (op - 1).toNatClampNeg ≤ 60 := by grind
  generalize tp - ba (op - 1).toNatClampNeg = d at *
  clear hb1 hb2 ht2
  grind
theorem q_X2_fromTop_8 {ba : Nat → Int32} {op : Int32} {tp : Int32} {k : Int32} {r_5 : Int32} (ho1 : 1 ≤ op) (ho2 : op ≤ 25) (hb1 : 0 ≤ ba (op - 1).toNatClampNeg) (hb2 : ba (op - 1).toNatClampNeg ≤ tp) (ht2 : tp ≤ 60) (hk1 : 0 ≤ k) (hk2 : k < tp - ba (op - 1).toNatClampNeg) (c_1 : ¬ k < 0) (hr_5 : r_5 = if (k + 1) ≤ tp - ba (op - 1).toNatClampNeg then 1 else 0) (c_6 : ¬ r_5 = 0) : vp_in ((tp - 1) - k) 60 := by
  exact in_of (c := 60) (by decide) (by grind) (by grind)
theorem q_X2_fromTop_9 {ba : Nat → Int32} {st : Nat → Int32} {op : Int32} {tp : Int32} {k : Int32} {r_5 : Int32} (ho1 : 1 ≤ op) (ho2 : op ≤ 25) (hb1 : 0 ≤ ba (op - 1).toNatClampNeg) (hb2 : ba (op - 1).toNatClampNeg ≤ tp) (ht2 : tp ≤ 60) (hk1 : 0 ≤ k) (hk2 : k < tp - ba (op - 1).toNatClampNeg) (c_1 : ¬ k < 0) (hr_5 : r_5 = if (k + 1) ≤ tp - ba (op - 1).toNatClampNeg then 1 else 0) (c_6 : ¬ r_5 = 0) : ((st ((tp - 1) - k).toNatClampNeg) = st (tp - 1 - k).toNatClampNeg) := by
  grind
set_option maxHeartbeats 4000000 in
set_option maxRecDepth 100000 in
theorem c_X2_fromTop (l : Launch) (dC : Nat → ClassId) (dI : Nat → Nat → Nat) (cI : ClassId) (aF : Nat) (f0 : Nat) (f1 : Nat) (f2 : Nat) (f3 : Nat) (f4 : Nat) (f5 : Nat) (f6 : Nat) (ba : Nat → Int32) (st : Nat → Int32) (op : Int32) (mx : Int32) (tp : Int32) (k : Int32) (ho1 : 1 ≤ op) (ho2 : op ≤ 25) (hb1 : 0 ≤ ba (op - 1).toNatClampNeg) (hb2 : ba (op - 1).toNatClampNeg ≤ tp) (ht2 : tp ≤ 60) (hk1 : 0 ≤ k) (hk2 : k < tp - ba (op - 1).toNatClampNeg) : mRd l yX2_fromTop wsX2_fromTop ({ frames := 1, cells := 0, slots := 0, locals := 21 }) [.ref aF, .int k] (dC, dI) [(cI, .int)] [(aF, .inr (0, [.ref f0, .ref f1, .ref f2, .ref f3, .ref f4, .ref f5, .ref f6, .int op, .int mx, .int tp])), (f4, .inl (cI, 26, .inl (sh ba))), (f6, .inl (cI, 60, .inl st))] (fun v => (v = st (tp - 1 - k).toNatClampNeg)) := by
  refine o_rd (cc := cX2_fromTop) (maxL := 2) (ret := (some .int)) (by decide) rfl (Nat.le_of_ble_eq_true rfl) ?_
  intro p e s m below meth c ls hx hb hr hml hts hown hlocks hP hK hl
  have hown : s.vm.findClass RX2 = some m.cls := hown
  have hl : lv_has ls 2 [(0, .ref aF), (1, .int k)] := hl
  have k_1 := hts (.fieldLink RX2 30 "ZRoutines$Frames" "numbers" "[I") (List.mem_of_getElem? (i := 1) rfl)
  have k_2 := hts (.fieldLink RX2 40 "ZRoutines$Frames" "top" "I") (List.mem_of_getElem? (i := 2) rfl)
  have i_X2 : ∀ w ∈ u_ws RX2 TX2 10, w ∈ wsX2_fromTop := fun _ h => List.mem_cons_of_mem _ (List.mem_append_right _ h)
  refine lv_iload_n hx hb dX2_fromTop_0 rfl (lv_at hl 1 rfl) ?_
  refine lv_if_lt (tgt := 30) hx hb dX2_fromTop_1 (by decide) (fun c_1 => False.elim (q_X2_fromTop_2 ho1 ho2 hb1 hb2 ht2 hk1 hk2 c_1)) (fun c_1 => ?_)
  refine lv_aload_n hx hb dX2_fromTop_4 rfl (lv_at hl 0 rfl) ?_
  refine lv_iload_n hx hb dX2_fromTop_5 rfl (lv_at hl 1 rfl) ?_
  refine lv_iconst (v := 1) hx hb dX2_fromTop_6 (by decide) ?_
  refine lv_iadd hx hb dX2_fromTop_7 ?_
  refine k_rd (ci := 0) (q0 := 0) (q := (RX2, TX2, 10)) (As := [.int (k + 1)]) (rest := []) ⟨hx, hb, hml, hown, hts⟩ (c_X2_holds l dC dI cI aF f0 f1 f2 f3 f4 f5 f6 ba op mx tp (k + 1) (q_X2_fromTop_3 ho1 ho2 hb1 hb2 ht2 hk1 hk2 c_1) (q_X2_fromTop_4 ho1 ho2 hb1 hb2 ht2 hk1 hk2 c_1)) (cwV 1 hts gX2_fromTop_X2_holds rfl rfl rfl (by decide +kernel) ⟨Nat.le_of_ble_eq_true rfl, Nat.le_of_ble_eq_true rfl⟩) hK hP [0, 1] rfl rfl rfl rfl hl.1 rfl (Nat.le_of_ble_eq_true rfl) dX2_fromTop_8 ⟨Nat.zero_le _, Nat.zero_le _⟩ (fun r_5 hr_5 => ?_)
  have hr_5 : r_5 = if (k + 1) ≤ tp - ba (op - 1).toNatClampNeg then 1 else 0 := hr_5
  refine lv_if_eq (tgt := 30) hx hb dX2_fromTop_11 (by decide) (fun c_6 => False.elim (q_X2_fromTop_7 ho1 ho2 hb1 hb2 ht2 hk1 hk2 c_1 hr_5 c_6)) (fun c_6 => ?_)
  refine lv_aload_n hx hb dX2_fromTop_14 rfl (lv_at hl 0 rfl) ?_
  refine va_get (D := (dC, dI)) (ci := 0) (v := .ref f6) (C := RX2) (T := TX2) (N := 10) hx hb hts i_X2 hown hK hP 0 rfl rfl 6 (by decide) k_1 (fun _ h9 => h9) rfl dX2_fromTop_15 ?_
  refine lv_aload_n hx hb dX2_fromTop_18 rfl (lv_at hl 0 rfl) ?_
  refine va_get (D := (dC, dI)) (ci := 0) (v := .int tp) (C := RX2) (T := TX2) (N := 10) hx hb hts i_X2 hown hK hP 0 rfl rfl 9 (by decide) k_2 (fun _ h9 => h9) rfl dX2_fromTop_19 ?_
  refine lv_iconst (v := 1) hx hb dX2_fromTop_22 (by decide) ?_
  refine lv_isub hx hb dX2_fromTop_23 ?_
  refine lv_iload_n hx hb dX2_fromTop_24 rfl (lv_at hl 1 rfl) ?_
  refine lv_isub hx hb dX2_fromTop_25 ?_
  refine va_iald hx hb hK hP 2 0 rfl rfl (q_X2_fromTop_8 ho1 ho2 hb1 hb2 ht2 hk1 hk2 c_1 hr_5 c_6) dX2_fromTop_26 ?_
  refine lv_goto (tgt := 31) hx hb dX2_fromTop_27 (by decide) ?_
  exact e_rdi hx hb hr hlocks dX2_fromTop_31 (q_X2_fromTop_9 ho1 ho2 hb1 hb2 ht2 hk1 hk2 c_1 hr_5 c_6)

theorem q_X2_drop_2 {ba : Nat → Int32} {op : Int32} {tp : Int32} {k : Int32} (ho1 : 1 ≤ op) (ho2 : op ≤ 25) (hk1 : 0 ≤ k) (hk2 : k ≤ tp - ba (op - 1).toNatClampNeg) (c_1 : k < 0) : False := by
  grind
theorem q_X2_drop_3 {ba : Nat → Int32} {op : Int32} {tp : Int32} {k : Int32} (ho1 : 1 ≤ op) (ho2 : op ≤ 25) (hk1 : 0 ≤ k) (hk2 : k ≤ tp - ba (op - 1).toNatClampNeg) (c_1 : ¬ k < 0) : 1 ≤ op := by
  grind
theorem q_X2_drop_4 {ba : Nat → Int32} {op : Int32} {tp : Int32} {k : Int32} (ho1 : 1 ≤ op) (ho2 : op ≤ 25) (hk1 : 0 ≤ k) (hk2 : k ≤ tp - ba (op - 1).toNatClampNeg) (c_1 : ¬ k < 0) : op ≤ 25 := by
  grind
theorem q_X2_drop_7 {ba : Nat → Int32} {op : Int32} {tp : Int32} {k : Int32} {r_5 : Int32} (ho1 : 1 ≤ op) (ho2 : op ≤ 25) (hk1 : 0 ≤ k) (hk2 : k ≤ tp - ba (op - 1).toNatClampNeg) (c_1 : ¬ k < 0) (hr_5 : r_5 = if k ≤ tp - ba (op - 1).toNatClampNeg then 1 else 0) (c_6 : r_5 = 0) : False := by
  grind
theorem q_X2_drop_8 {ba : Nat → Int32} {op : Int32} {tp : Int32} {k : Int32} {r_5 : Int32} (ho1 : 1 ≤ op) (ho2 : op ≤ 25) (hk1 : 0 ≤ k) (hk2 : k ≤ tp - ba (op - 1).toNatClampNeg) (c_1 : ¬ k < 0) (hr_5 : r_5 = if k ≤ tp - ba (op - 1).toNatClampNeg then 1 else 0) (c_6 : ¬ r_5 = 0) : ((tp - k) = tp - k) := by
  grind
set_option maxHeartbeats 4000000 in
set_option maxRecDepth 100000 in
theorem c_X2_drop (l : Launch) (dC : Nat → ClassId) (dI : Nat → Nat → Nat) (cI : ClassId) (sz : Nat) (aF : Nat) (f0 : Nat) (f1 : Nat) (f2 : Nat) (f3 : Nat) (f4 : Nat) (f5 : Nat) (f6 : Nat) (ba : Nat → Int32) (op : Int32) (mx : Int32) (tp : Int32) (k : Int32) (ho1 : 1 ≤ op) (ho2 : op ≤ 25) (hk1 : 0 ≤ k) (hk2 : k ≤ tp - ba (op - 1).toNatClampNeg) : mWv l yX2_drop wsX2_drop ({ frames := 1, cells := 0, slots := 0, locals := 21 }) [.ref aF, .int k] (dC, dI) [(cI, .int)] [(aF, .inr (0, [.ref f0, .ref f1, .ref f2, .ref f3, .ref f4, .ref f5, .ref f6, .int op, .int mx, .int tp])), (f4, .inl (cI, 26, .inl (sh ba)))] sz (fun u : (Int32) => (u = tp - k)) (fun u : (Int32) => [(aF, .inr (0, [.ref f0, .ref f1, .ref f2, .ref f3, .ref f4, .ref f5, .ref f6, .int op, .int mx, .int u])), (f4, .inl (cI, 26, .inl (sh ba)))]) := by
  refine o_wv (cc := cX2_drop) (maxL := 2) (ret := none) (by decide) rfl (Nat.le_of_ble_eq_true rfl) ?_
  intro p e s m below meth c ls A hx hb hr hml hts hown hlocks hP hK hD hS hA hl
  have hown : s.vm.findClass RX2 = some m.cls := hown
  have hl : lv_has ls 2 [(0, .ref aF), (1, .int k)] := hl
  have k_1 := hts (.fieldLink RX2 40 "ZRoutines$Frames" "top" "I") (List.mem_of_getElem? (i := 1) rfl)
  have i_X2 : ∀ w ∈ u_ws RX2 TX2 10, w ∈ wsX2_drop := fun _ h => List.mem_cons_of_mem _ (List.mem_append_right _ h)
  refine lv_iload_n hx hb dX2_drop_0 rfl (lv_at hl 1 rfl) ?_
  refine lv_if_lt (tgt := 22) hx hb dX2_drop_1 (by decide) (fun c_1 => False.elim (q_X2_drop_2 ho1 ho2 hk1 hk2 c_1)) (fun c_1 => ?_)
  refine lv_aload_n hx hb dX2_drop_4 rfl (lv_at hl 0 rfl) ?_
  refine lv_iload_n hx hb dX2_drop_5 rfl (lv_at hl 1 rfl) ?_
  refine k_rd (ci := 0) (q0 := 0) (q := (RX2, TX2, 10)) (As := [.int k]) (rest := []) ⟨hx, hb, hml, hown, hts⟩ (c_X2_holds l dC dI cI aF f0 f1 f2 f3 f4 f5 f6 ba op mx tp k (q_X2_drop_3 ho1 ho2 hk1 hk2 c_1) (q_X2_drop_4 ho1 ho2 hk1 hk2 c_1)) (cwV 1 hts gX2_drop_X2_holds rfl rfl rfl (by decide +kernel) ⟨Nat.le_of_ble_eq_true rfl, Nat.le_of_ble_eq_true rfl⟩) hK hP [0, 1] rfl rfl rfl rfl hl.1 rfl (Nat.le_of_ble_eq_true rfl) dX2_drop_6 ⟨Nat.zero_le _, Nat.zero_le _⟩ (fun r_5 hr_5 => ?_)
  have hr_5 : r_5 = if k ≤ tp - ba (op - 1).toNatClampNeg then 1 else 0 := hr_5
  refine lv_if_eq (tgt := 22) hx hb dX2_drop_9 (by decide) (fun c_6 => False.elim (q_X2_drop_7 ho1 ho2 hk1 hk2 c_1 hr_5 c_6)) (fun c_6 => ?_)
  refine lv_aload_n hx hb dX2_drop_12 rfl (lv_at hl 0 rfl) ?_
  refine lv_dup hx hb dX2_drop_13 rfl ?_
  refine va_get (D := (dC, dI)) (ci := 0) (v := .int tp) (C := RX2) (T := TX2) (N := 10) hx hb hts i_X2 hown hK hP 0 rfl rfl 9 (by decide) k_1 (fun _ h9 => h9) rfl dX2_drop_14 ?_
  refine lv_iload_n hx hb dX2_drop_17 rfl (lv_at hl 1 rfl) ?_
  refine lv_isub hx hb dX2_drop_18 ?_
  refine va_put (D := (dC, dI)) (ci := 0) (v := .int (tp - k)) (ty := .int) (C := RX2) (T := TX2) (N := 10) hx hb hts i_X2 tyX2 tyX2_ok nmX2 hown hK hP hD hS 0 rfl rfl 9 (by decide) k_1 (fun _ h9 => h9) rfl (by decide +kernel) rfl rfl (Nat.le_of_ble_eq_true rfl) dX2_drop_19 (fun H locs hP hD hS => ?_)
  have hP : va_P (dC, dI) vwCl [(aF, .inr (0, [.ref f0, .ref f1, .ref f2, .ref f3, .ref f4, .ref f5, .ref f6, .int op, .int mx, .int (tp - k)])), (f4, .inl (cI, 26, .inl (sh ba)))] H := hP
  have hD : va_D A [(aF, .inr (0, [.ref f0, .ref f1, .ref f2, .ref f3, .ref f4, .ref f5, .ref f6, .int op, .int mx, .int (tp - k)])), (f4, .inl (cI, 26, .inl (sh ba)))] := hD
  exact e_wv hx hb hr hlocks dX2_drop_22 hK hS ((tp - k)) hP hD (q_X2_drop_8 ho1 ho2 hk1 hk2 c_1 hr_5 c_6)

theorem q_X2_closeFrom_2 {op : Int32} {k : Int32} (hk1 : 1 ≤ k) (hk2 : k ≤ op) (ho2 : op ≤ 25) (c_1 : k < 1) : False := by
  grind
theorem q_X2_closeFrom_4 {op : Int32} {k : Int32} (hk1 : 1 ≤ k) (hk2 : k ≤ op) (ho2 : op ≤ 25) (c_1 : ¬ k < 1) (c_3 : op < k) : False := by
  grind
theorem q_X2_closeFrom_5 {op : Int32} {k : Int32} (hk1 : 1 ≤ k) (hk2 : k ≤ op) (ho2 : op ≤ 25) (c_1 : ¬ k < 1) (c_3 : ¬ op < k) : vp_in k 26 := by
  exact in_of (c := 26) (by decide) (by grind) (by grind)
theorem q_X2_closeFrom_7 {op : Int32} {k : Int32} (hk1 : 1 ≤ k) (hk2 : k ≤ op) (ho2 : op ≤ 25) (c_1 : ¬ k < 1) (c_3 : ¬ op < k) : 1 ≤ k := by
  grind
theorem q_X2_closeFrom_8 {ba : Nat → Int32} {op : Int32} {k : Int32} {x_6 : Int32} (hk1 : 1 ≤ k) (hk2 : k ≤ op) (ho2 : op ≤ 25) (c_1 : ¬ k < 1) (c_3 : ¬ op < k) (ex_6 : x_6 = ba (k - 1).toNatClampNeg) : (x_6 = ba (k - 1).toNatClampNeg) ∧ ((k - 1) = k - 1) := by
  grind
set_option maxHeartbeats 4000000 in
set_option maxRecDepth 100000 in
theorem c_X2_closeFrom (l : Launch) (dC : Nat → ClassId) (dI : Nat → Nat → Nat) (cI : ClassId) (sz : Nat) (aF : Nat) (f0 : Nat) (f1 : Nat) (f2 : Nat) (f3 : Nat) (f4 : Nat) (f5 : Nat) (f6 : Nat) (ba : Nat → Int32) (op : Int32) (mx : Int32) (tp : Int32) (k : Int32) (hk1 : 1 ≤ k) (hk2 : k ≤ op) (ho2 : op ≤ 25) : mWv l yX2_closeFrom wsX2_closeFrom ({ frames := 0, cells := 0, slots := 0, locals := 0 }) [.ref aF, .int k] (dC, dI) [(cI, .int)] [(aF, .inr (0, [.ref f0, .ref f1, .ref f2, .ref f3, .ref f4, .ref f5, .ref f6, .int op, .int mx, .int tp])), (f4, .inl (cI, 26, .inl (sh ba)))] sz (fun u : (Int32) × (Int32) => (u.1 = ba (k - 1).toNatClampNeg) ∧ (u.2 = k - 1)) (fun u : (Int32) × (Int32) => [(aF, .inr (0, [.ref f0, .ref f1, .ref f2, .ref f3, .ref f4, .ref f5, .ref f6, .int u.2, .int mx, .int u.1])), (f4, .inl (cI, 26, .inl (sh ba)))]) := by
  refine o_wv (cc := cX2_closeFrom) (maxL := 2) (ret := none) (by decide) rfl (Nat.le_of_ble_eq_true rfl) ?_
  intro p e s m below meth c ls A hx hb hr hml hts hown hlocks hP hK hD hS hA hl
  have hown : s.vm.findClass RX2 = some m.cls := hown
  have hl : lv_has ls 2 [(0, .ref aF), (1, .int k)] := hl
  have k_1 := hts (.fieldLink RX2 33 "ZRoutines$Frames" "open" "I") (List.mem_of_getElem? (i := 1) rfl)
  have k_2 := hts (.fieldLink RX2 24 "ZRoutines$Frames" "bases" "[I") (List.mem_of_getElem? (i := 2) rfl)
  have k_3 := hts (.fieldLink RX2 40 "ZRoutines$Frames" "top" "I") (List.mem_of_getElem? (i := 3) rfl)
  have i_X2 : ∀ w ∈ u_ws RX2 TX2 10, w ∈ wsX2_closeFrom := fun _ h => List.mem_cons_of_mem _ (List.mem_append_right _ h)
  refine lv_iload_n hx hb dX2_closeFrom_0 rfl (lv_at hl 1 rfl) ?_
  refine lv_iconst (v := 1) hx hb dX2_closeFrom_1 (by decide) ?_
  refine lv_icmp_lt (tgt := 30) hx hb dX2_closeFrom_2 (by decide) (fun c_1 => False.elim (q_X2_closeFrom_2 hk1 hk2 ho2 c_1)) (fun c_1 => ?_)
  refine lv_iload_n hx hb dX2_closeFrom_5 rfl (lv_at hl 1 rfl) ?_
  refine lv_aload_n hx hb dX2_closeFrom_6 rfl (lv_at hl 0 rfl) ?_
  refine va_get (D := (dC, dI)) (ci := 0) (v := .int op) (C := RX2) (T := TX2) (N := 10) hx hb hts i_X2 hown hK hP 0 rfl rfl 7 (by decide) k_1 (fun _ h9 => h9) rfl dX2_closeFrom_7 ?_
  refine lv_icmp_gt (tgt := 30) hx hb dX2_closeFrom_10 (by decide) (fun c_3 => False.elim (q_X2_closeFrom_4 hk1 hk2 ho2 c_1 c_3)) (fun c_3 => ?_)
  refine lv_aload_n hx hb dX2_closeFrom_13 rfl (lv_at hl 0 rfl) ?_
  refine lv_aload_n hx hb dX2_closeFrom_14 rfl (lv_at hl 0 rfl) ?_
  refine va_get (D := (dC, dI)) (ci := 0) (v := .ref f4) (C := RX2) (T := TX2) (N := 10) hx hb hts i_X2 hown hK hP 0 rfl rfl 4 (by decide) k_2 (fun _ h9 => h9) rfl dX2_closeFrom_15 ?_
  refine lv_iload_n hx hb dX2_closeFrom_18 rfl (lv_at hl 1 rfl) ?_
  refine va_iald hx hb hK hP 1 0 rfl rfl (q_X2_closeFrom_5 hk1 hk2 ho2 c_1 c_3) dX2_closeFrom_19 ?_
  refine lv_topi (fun x_6 ex_6 => ?_)
  have ex_6 : x_6 = ba (k - 1).toNatClampNeg := ex_6.trans (sh_at (q_X2_closeFrom_7 hk1 hk2 ho2 c_1 c_3))
  refine va_put (D := (dC, dI)) (ci := 0) (v := .int x_6) (ty := .int) (C := RX2) (T := TX2) (N := 10) hx hb hts i_X2 tyX2 tyX2_ok nmX2 hown hK hP hD hS 0 rfl rfl 9 (by decide) k_3 (fun _ h9 => h9) rfl (by decide +kernel) rfl rfl (Nat.le_of_ble_eq_true rfl) dX2_closeFrom_20 (fun H locs hP hD hS => ?_)
  have hP : va_P (dC, dI) vwCl [(aF, .inr (0, [.ref f0, .ref f1, .ref f2, .ref f3, .ref f4, .ref f5, .ref f6, .int op, .int mx, .int x_6])), (f4, .inl (cI, 26, .inl (sh ba)))] H := hP
  have hD : va_D A [(aF, .inr (0, [.ref f0, .ref f1, .ref f2, .ref f3, .ref f4, .ref f5, .ref f6, .int op, .int mx, .int x_6])), (f4, .inl (cI, 26, .inl (sh ba)))] := hD
  refine lv_aload_n hx hb dX2_closeFrom_23 rfl (lv_at hl 0 rfl) ?_
  refine lv_iload_n hx hb dX2_closeFrom_24 rfl (lv_at hl 1 rfl) ?_
  refine lv_iconst (v := 1) hx hb dX2_closeFrom_25 (by decide) ?_
  refine lv_isub hx hb dX2_closeFrom_26 ?_
  refine va_put (D := (dC, dI)) (ci := 0) (v := .int (k - 1)) (ty := .int) (C := RX2) (T := TX2) (N := 10) hx hb hts i_X2 tyX2 tyX2_ok nmX2 hown hK hP hD hS 0 rfl rfl 7 (by decide) k_1 (fun _ h9 => h9) rfl (by decide +kernel) rfl rfl (Nat.le_of_ble_eq_true rfl) dX2_closeFrom_27 (fun H locs hP hD hS => ?_)
  have hP : va_P (dC, dI) vwCl [(aF, .inr (0, [.ref f0, .ref f1, .ref f2, .ref f3, .ref f4, .ref f5, .ref f6, .int (k - 1), .int mx, .int x_6])), (f4, .inl (cI, 26, .inl (sh ba)))] H := hP
  have hD : va_D A [(aF, .inr (0, [.ref f0, .ref f1, .ref f2, .ref f3, .ref f4, .ref f5, .ref f6, .int (k - 1), .int mx, .int x_6])), (f4, .inl (cI, 26, .inl (sh ba)))] := hD
  exact e_wv hx hb hr hlocks dX2_closeFrom_30 hK hS (x_6, (k - 1)) hP hD (q_X2_closeFrom_8 hk1 hk2 ho2 c_1 c_3 ex_6)

theorem q_X2_openFrame_3 {lc : Nat → Int32} {cn : Int32} {op : Int32} {r : Int32} {r_1 : Int32} (ho1 : 0 ≤ op) (ho2 : op ≤ 24) (hcn2 : cn ≤ 20) (hr1 : 0 ≤ r) (hr2 : r < cn) (hl1 : 0 ≤ lc r.toNatClampNeg) (hl2 : lc r.toNatClampNeg ≤ 15) (hr_1 : r_1 = if 25 ≤ op then 1 else 0) (c_2 : ¬ r_1 = 0) : False := by
  (try simp only [as1]) <;> grind
theorem q_X2_openFrame_5 {lc : Nat → Int32} {cn : Int32} {op : Int32} {mx : Int32} {r : Int32} {r_1 : Int32} {x_4 : Int32} (ho1 : 0 ≤ op) (ho2 : op ≤ 24) (hcn2 : cn ≤ 20) (hr1 : 0 ≤ r) (hr2 : r < cn) (hl1 : 0 ≤ lc r.toNatClampNeg) (hl2 : lc r.toNatClampNeg ≤ 15) (hr_1 : r_1 = if 25 ≤ op then 1 else 0) (c_2 : r_1 = 0) (ex_4 : x_4 = (if mx < (op + 1) then (op + 1) else mx)) : vp_in (op + 1) 26 := by
  exact in_of (c := 26) (by decide) (by (try simp only [as1]) <;> grind) (by (try simp only [as1]) <;> grind)
theorem q_X2_openFrame_6 {lc : Nat → Int32} {cn : Int32} {op : Int32} {mx : Int32} {r : Int32} {r_1 : Int32} {x_4 : Int32} (ho1 : 0 ≤ op) (ho2 : op ≤ 24) (hcn2 : cn ≤ 20) (hr1 : 0 ≤ r) (hr2 : r < cn) (hl1 : 0 ≤ lc r.toNatClampNeg) (hl2 : lc r.toNatClampNeg ≤ 15) (hr_1 : r_1 = if 25 ≤ op then 1 else 0) (c_2 : r_1 = 0) (ex_4 : x_4 = (if mx < (op + 1) then (op + 1) else mx)) : 1 ≤ (op + 1) := by
  (try simp only [as1]) <;> grind
theorem q_X2_openFrame_7 {lc : Nat → Int32} {cn : Int32} {op : Int32} {mx : Int32} {r : Int32} {r_1 : Int32} {x_4 : Int32} (ho1 : 0 ≤ op) (ho2 : op ≤ 24) (hcn2 : cn ≤ 20) (hr1 : 0 ≤ r) (hr2 : r < cn) (hl1 : 0 ≤ lc r.toNatClampNeg) (hl2 : lc r.toNatClampNeg ≤ 15) (hr_1 : r_1 = if 25 ≤ op then 1 else 0) (c_2 : r_1 = 0) (ex_4 : x_4 = (if mx < (op + 1) then (op + 1) else mx)) : vp_in (op + 1) 26 := by
  exact in_of (c := 26) (by decide) (by (try simp only [as1]) <;> grind) (by (try simp only [as1]) <;> grind)
theorem q_X2_openFrame_8 {lc : Nat → Int32} {cn : Int32} {op : Int32} {mx : Int32} {r : Int32} {r_1 : Int32} {x_4 : Int32} (ho1 : 0 ≤ op) (ho2 : op ≤ 24) (hcn2 : cn ≤ 20) (hr1 : 0 ≤ r) (hr2 : r < cn) (hl1 : 0 ≤ lc r.toNatClampNeg) (hl2 : lc r.toNatClampNeg ≤ 15) (hr_1 : r_1 = if 25 ≤ op then 1 else 0) (c_2 : r_1 = 0) (ex_4 : x_4 = (if mx < (op + 1) then (op + 1) else mx)) : 1 ≤ (op + 1) := by
  (try simp only [as1]) <;> grind
theorem q_X2_openFrame_9 {lc : Nat → Int32} {cn : Int32} {op : Int32} {mx : Int32} {r : Int32} {r_1 : Int32} {x_4 : Int32} (ho1 : 0 ≤ op) (ho2 : op ≤ 24) (hcn2 : cn ≤ 20) (hr1 : 0 ≤ r) (hr2 : r < cn) (hl1 : 0 ≤ lc r.toNatClampNeg) (hl2 : lc r.toNatClampNeg ≤ 15) (hr_1 : r_1 = if 25 ≤ op then 1 else 0) (c_2 : r_1 = 0) (ex_4 : x_4 = (if mx < (op + 1) then (op + 1) else mx)) : vp_in (op + 1) 26 := by
  exact in_of (c := 26) (by decide) (by (try simp only [as1]) <;> grind) (by (try simp only [as1]) <;> grind)
theorem q_X2_openFrame_10 {lc : Nat → Int32} {cn : Int32} {op : Int32} {mx : Int32} {r : Int32} {r_1 : Int32} {x_4 : Int32} (ho1 : 0 ≤ op) (ho2 : op ≤ 24) (hcn2 : cn ≤ 20) (hr1 : 0 ≤ r) (hr2 : r < cn) (hl1 : 0 ≤ lc r.toNatClampNeg) (hl2 : lc r.toNatClampNeg ≤ 15) (hr_1 : r_1 = if 25 ≤ op then 1 else 0) (c_2 : r_1 = 0) (ex_4 : x_4 = (if mx < (op + 1) then (op + 1) else mx)) : 1 ≤ (op + 1) := by
  (try simp only [as1]) <;> grind
theorem q_X2_openFrame_11 {lc : Nat → Int32} {cn : Int32} {op : Int32} {mx : Int32} {r : Int32} {r_1 : Int32} {x_4 : Int32} (ho1 : 0 ≤ op) (ho2 : op ≤ 24) (hcn2 : cn ≤ 20) (hr1 : 0 ≤ r) (hr2 : r < cn) (hl1 : 0 ≤ lc r.toNatClampNeg) (hl2 : lc r.toNatClampNeg ≤ 15) (hr_1 : r_1 = if 25 ≤ op then 1 else 0) (c_2 : r_1 = 0) (ex_4 : x_4 = (if mx < (op + 1) then (op + 1) else mx)) : cn ≤ 20 := by
  (try simp only [as1]) <;> grind
theorem q_X2_openFrame_12 {lc : Nat → Int32} {cn : Int32} {op : Int32} {mx : Int32} {r : Int32} {r_1 : Int32} {x_4 : Int32} (ho1 : 0 ≤ op) (ho2 : op ≤ 24) (hcn2 : cn ≤ 20) (hr1 : 0 ≤ r) (hr2 : r < cn) (hl1 : 0 ≤ lc r.toNatClampNeg) (hl2 : lc r.toNatClampNeg ≤ 15) (hr_1 : r_1 = if 25 ≤ op then 1 else 0) (c_2 : r_1 = 0) (ex_4 : x_4 = (if mx < (op + 1) then (op + 1) else mx)) : 0 ≤ r := by
  (try simp only [as1]) <;> grind
theorem q_X2_openFrame_13 {lc : Nat → Int32} {cn : Int32} {op : Int32} {mx : Int32} {r : Int32} {r_1 : Int32} {x_4 : Int32} (ho1 : 0 ≤ op) (ho2 : op ≤ 24) (hcn2 : cn ≤ 20) (hr1 : 0 ≤ r) (hr2 : r < cn) (hl1 : 0 ≤ lc r.toNatClampNeg) (hl2 : lc r.toNatClampNeg ≤ 15) (hr_1 : r_1 = if 25 ≤ op then 1 else 0) (c_2 : r_1 = 0) (ex_4 : x_4 = (if mx < (op + 1) then (op + 1) else mx)) : r < cn := by
  (try simp only [as1]) <;> grind
theorem q_X2_openFrame_15 {lc : Nat → Int32} {cn : Int32} {op : Int32} {mx : Int32} {r : Int32} {r_1 : Int32} {x_4 : Int32} {r_14 : Int32} (ho1 : 0 ≤ op) (ho2 : op ≤ 24) (hcn2 : cn ≤ 20) (hr1 : 0 ≤ r) (hr2 : r < cn) (hl1 : 0 ≤ lc r.toNatClampNeg) (hl2 : lc r.toNatClampNeg ≤ 15) (hr_1 : r_1 = if 25 ≤ op then 1 else 0) (c_2 : r_1 = 0) (ex_4 : x_4 = (if mx < (op + 1) then (op + 1) else mx)) (hr_14 : r_14 = lc r.toNatClampNeg) : vp_in (op + 1) 26 := by
  exact in_of (c := 26) (by decide) (by (try simp only [as1]) <;> grind) (by (try simp only [as1]) <;> grind)
theorem q_X2_openFrame_16 {lc : Nat → Int32} {cn : Int32} {op : Int32} {mx : Int32} {r : Int32} {r_1 : Int32} {x_4 : Int32} {r_14 : Int32} (ho1 : 0 ≤ op) (ho2 : op ≤ 24) (hcn2 : cn ≤ 20) (hr1 : 0 ≤ r) (hr2 : r < cn) (hl1 : 0 ≤ lc r.toNatClampNeg) (hl2 : lc r.toNatClampNeg ≤ 15) (hr_1 : r_1 = if 25 ≤ op then 1 else 0) (c_2 : r_1 = 0) (ex_4 : x_4 = (if mx < (op + 1) then (op + 1) else mx)) (hr_14 : r_14 = lc r.toNatClampNeg) : 1 ≤ (op + 1) := by
  (try simp only [as1]) <;> grind
theorem q_X2_openFrame_17 {lc : Nat → Int32} {cn : Int32} {op : Int32} {mx : Int32} {r : Int32} {r_1 : Int32} {x_4 : Int32} {r_14 : Int32} (ho1 : 0 ≤ op) (ho2 : op ≤ 24) (hcn2 : cn ≤ 20) (hr1 : 0 ≤ r) (hr2 : r < cn) (hl1 : 0 ≤ lc r.toNatClampNeg) (hl2 : lc r.toNatClampNeg ≤ 15) (hr_1 : r_1 = if 25 ≤ op then 1 else 0) (c_2 : r_1 = 0) (ex_4 : x_4 = (if mx < (op + 1) then (op + 1) else mx)) (hr_14 : r_14 = lc r.toNatClampNeg) : vp_in (op + 1) 26 := by
  exact in_of (c := 26) (by decide) (by (try simp only [as1]) <;> grind) (by (try simp only [as1]) <;> grind)
theorem q_X2_openFrame_18 {lc : Nat → Int32} {cn : Int32} {op : Int32} {mx : Int32} {r : Int32} {r_1 : Int32} {x_4 : Int32} {r_14 : Int32} (ho1 : 0 ≤ op) (ho2 : op ≤ 24) (hcn2 : cn ≤ 20) (hr1 : 0 ≤ r) (hr2 : r < cn) (hl1 : 0 ≤ lc r.toNatClampNeg) (hl2 : lc r.toNatClampNeg ≤ 15) (hr_1 : r_1 = if 25 ≤ op then 1 else 0) (c_2 : r_1 = 0) (ex_4 : x_4 = (if mx < (op + 1) then (op + 1) else mx)) (hr_14 : r_14 = lc r.toNatClampNeg) : 1 ≤ (op + 1) := by
  (try simp only [as1]) <;> grind
theorem q_X2_openFrame_19 {lc : Nat → Int32} {cn : Int32} {op : Int32} {mx : Int32} {r : Int32} {r_1 : Int32} {x_4 : Int32} {r_14 : Int32} (ho1 : 0 ≤ op) (ho2 : op ≤ 24) (hcn2 : cn ≤ 20) (hr1 : 0 ≤ r) (hr2 : r < cn) (hl1 : 0 ≤ lc r.toNatClampNeg) (hl2 : lc r.toNatClampNeg ≤ 15) (hr_1 : r_1 = if 25 ≤ op then 1 else 0) (c_2 : r_1 = 0) (ex_4 : x_4 = (if mx < (op + 1) then (op + 1) else mx)) (hr_14 : r_14 = lc r.toNatClampNeg) : cn ≤ 20 := by
  (try simp only [as1]) <;> grind
theorem q_X2_openFrame_20 {lc : Nat → Int32} {cn : Int32} {op : Int32} {mx : Int32} {r : Int32} {r_1 : Int32} {x_4 : Int32} {r_14 : Int32} (ho1 : 0 ≤ op) (ho2 : op ≤ 24) (hcn2 : cn ≤ 20) (hr1 : 0 ≤ r) (hr2 : r < cn) (hl1 : 0 ≤ lc r.toNatClampNeg) (hl2 : lc r.toNatClampNeg ≤ 15) (hr_1 : r_1 = if 25 ≤ op then 1 else 0) (c_2 : r_1 = 0) (ex_4 : x_4 = (if mx < (op + 1) then (op + 1) else mx)) (hr_14 : r_14 = lc r.toNatClampNeg) : 0 ≤ r := by
  (try simp only [as1]) <;> grind
theorem q_X2_openFrame_21 {lc : Nat → Int32} {cn : Int32} {op : Int32} {mx : Int32} {r : Int32} {r_1 : Int32} {x_4 : Int32} {r_14 : Int32} (ho1 : 0 ≤ op) (ho2 : op ≤ 24) (hcn2 : cn ≤ 20) (hr1 : 0 ≤ r) (hr2 : r < cn) (hl1 : 0 ≤ lc r.toNatClampNeg) (hl2 : lc r.toNatClampNeg ≤ 15) (hr_1 : r_1 = if 25 ≤ op then 1 else 0) (c_2 : r_1 = 0) (ex_4 : x_4 = (if mx < (op + 1) then (op + 1) else mx)) (hr_14 : r_14 = lc r.toNatClampNeg) : r < cn := by
  (try simp only [as1]) <;> grind
theorem q_X2_openFrame_22 {lc : Nat → Int32} {cn : Int32} {op : Int32} {mx : Int32} {r : Int32} {r_1 : Int32} {x_4 : Int32} {r_14 : Int32} (ho1 : 0 ≤ op) (ho2 : op ≤ 24) (hcn2 : cn ≤ 20) (hr1 : 0 ≤ r) (hr2 : r < cn) (hl1 : 0 ≤ lc r.toNatClampNeg) (hl2 : lc r.toNatClampNeg ≤ 15) (hr_1 : r_1 = if 25 ≤ op then 1 else 0) (c_2 : r_1 = 0) (ex_4 : x_4 = (if mx < (op + 1) then (op + 1) else mx)) (hr_14 : r_14 = lc r.toNatClampNeg) : ((op + 1) * 15) = (op + 1) * 15 := by
  (try simp only [as1]) <;> grind
theorem q_X2_openFrame_23 {lc : Nat → Int32} {cn : Int32} {op : Int32} {mx : Int32} {r : Int32} {r_1 : Int32} {x_4 : Int32} {r_14 : Int32} (ho1 : 0 ≤ op) (ho2 : op ≤ 24) (hcn2 : cn ≤ 20) (hr1 : 0 ≤ r) (hr2 : r < cn) (hl1 : 0 ≤ lc r.toNatClampNeg) (hl2 : lc r.toNatClampNeg ≤ 15) (hr_1 : r_1 = if 25 ≤ op then 1 else 0) (c_2 : r_1 = 0) (ex_4 : x_4 = (if mx < (op + 1) then (op + 1) else mx)) (hr_14 : r_14 = lc r.toNatClampNeg) : 0 ≤ op := by
  (try simp only [as1]) <;> grind
theorem q_X2_openFrame_24 {lc : Nat → Int32} {cn : Int32} {op : Int32} {mx : Int32} {r : Int32} {r_1 : Int32} {x_4 : Int32} {r_14 : Int32} (ho1 : 0 ≤ op) (ho2 : op ≤ 24) (hcn2 : cn ≤ 20) (hr1 : 0 ≤ r) (hr2 : r < cn) (hl1 : 0 ≤ lc r.toNatClampNeg) (hl2 : lc r.toNatClampNeg ≤ 15) (hr_1 : r_1 = if 25 ≤ op then 1 else 0) (c_2 : r_1 = 0) (ex_4 : x_4 = (if mx < (op + 1) then (op + 1) else mx)) (hr_14 : r_14 = lc r.toNatClampNeg) : op ≤ 24 := by
  (try simp only [as1]) <;> grind
theorem q_X2_openFrame_25 {lc : Nat → Int32} {cn : Int32} {op : Int32} {mx : Int32} {r : Int32} {r_1 : Int32} {x_4 : Int32} {r_14 : Int32} (ho1 : 0 ≤ op) (ho2 : op ≤ 24) (hcn2 : cn ≤ 20) (hr1 : 0 ≤ r) (hr2 : r < cn) (hl1 : 0 ≤ lc r.toNatClampNeg) (hl2 : lc r.toNatClampNeg ≤ 15) (hr_1 : r_1 = if 25 ≤ op then 1 else 0) (c_2 : r_1 = 0) (ex_4 : x_4 = (if mx < (op + 1) then (op + 1) else mx)) (hr_14 : r_14 = lc r.toNatClampNeg) : 0 ≤ lc r.toNatClampNeg := by
  (try simp only [as1]) <;> grind
theorem q_X2_openFrame_26 {lc : Nat → Int32} {cn : Int32} {op : Int32} {mx : Int32} {r : Int32} {r_1 : Int32} {x_4 : Int32} {r_14 : Int32} (ho1 : 0 ≤ op) (ho2 : op ≤ 24) (hcn2 : cn ≤ 20) (hr1 : 0 ≤ r) (hr2 : r < cn) (hl1 : 0 ≤ lc r.toNatClampNeg) (hl2 : lc r.toNatClampNeg ≤ 15) (hr_1 : r_1 = if 25 ≤ op then 1 else 0) (c_2 : r_1 = 0) (ex_4 : x_4 = (if mx < (op + 1) then (op + 1) else mx)) (hr_14 : r_14 = lc r.toNatClampNeg) : lc r.toNatClampNeg ≤ 15 := by
  (try simp only [as1]) <;> grind
theorem q_X2_openFrame_30 {lc : Nat → Int32} {fv : Nat → Int32} {fr : Nat → Int32} {pl : Nat → Int32} {gc : Nat → Int32} {fl : Nat → Int32} {ba : Nat → Int32} {vs : Nat → Int32} {cn : Int32} {op : Int32} {mx : Int32} {tp : Int32} {r : Int32} {r_1 : Int32} {x_4 : Int32} {r_14 : Int32} {vs_29 : Nat → Int32} (ho1 : 0 ≤ op) (ho2 : op ≤ 24) (hcn2 : cn ≤ 20) (hr1 : 0 ≤ r) (hr2 : r < cn) (hl1 : 0 ≤ lc r.toNatClampNeg) (hl2 : lc r.toNatClampNeg ≤ 15) (hr_1 : r_1 = if 25 ≤ op then 1 else 0) (c_2 : r_1 = 0) (ex_4 : x_4 = (if mx < (op + 1) then (op + 1) else mx)) (hr_14 : r_14 = lc r.toNatClampNeg) (hr_27 : vs_29 = va_cpy fv vs (r * 15).toNatClampNeg (15 * op).toNatClampNeg (lc r.toNatClampNeg).toNatClampNeg) : ((op + 1) = op + 1) ∧ (x_4 = if mx < op + 1 then op + 1 else mx) ∧ ((upd fr ((op + 1) - 1).toNatClampNeg r) = upd fr op.toNatClampNeg r) ∧ ((upd pl ((op + 1) - 1).toNatClampNeg 0) = upd pl op.toNatClampNeg 0) ∧ ((upd gc ((op + 1) - 1).toNatClampNeg 0) = upd gc op.toNatClampNeg 0) ∧ ((upd fl ((op + 1) - 1).toNatClampNeg r_14) = upd fl op.toNatClampNeg (lc r.toNatClampNeg)) ∧ ((upd ba ((op + 1) - 1).toNatClampNeg tp) = upd ba op.toNatClampNeg tp) ∧ (vs_29 = va_cpy fv vs (r * 15).toNatClampNeg (15 * op).toNatClampNeg (lc r.toNatClampNeg).toNatClampNeg) := by
  (try simp only [as1]) <;> grind
set_option maxHeartbeats 4000000 in
set_option maxRecDepth 100000 in
theorem c_X2_openFrame (l : Launch) (dC : Nat → ClassId) (dI : Nat → Nat → Nat) (cI : ClassId) (sz : Nat) (aP : Nat) (aF : Nat) (p0 : Nat) (p1 : Nat) (p2 : Nat) (p3 : Nat) (p4 : Nat) (p5 : Nat) (f0 : Nat) (f1 : Nat) (f2 : Nat) (f3 : Nat) (f4 : Nat) (f5 : Nat) (f6 : Nat) (lc : Nat → Int32) (fv : Nat → Int32) (fr : Nat → Int32) (pl : Nat → Int32) (gc : Nat → Int32) (fl : Nat → Int32) (ba : Nat → Int32) (vs : Nat → Int32) (cn : Int32) (op : Int32) (mx : Int32) (tp : Int32) (r : Int32) (ho1 : 0 ≤ op) (ho2 : op ≤ 24) (hcn2 : cn ≤ 20) (hr1 : 0 ≤ r) (hr2 : r < cn) (hl1 : 0 ≤ lc r.toNatClampNeg) (hl2 : lc r.toNatClampNeg ≤ 15) : mWv l yX2_openFrame wsX2_openFrame ({ frames := 2, cells := 0, slots := 0, locals := 45 }) [.ref aF, .ref aP, .int r] (dC, dI) [(cI, .int)] [(aF, .inr (0, [.ref f0, .ref f1, .ref f2, .ref f3, .ref f4, .ref f5, .ref f6, .int op, .int mx, .int tp])), (f0, .inl (cI, 26, .inl (sh fr))), (f1, .inl (cI, 26, .inl (sh pl))), (f2, .inl (cI, 26, .inl (sh gc))), (f3, .inl (cI, 26, .inl (sh fl))), (f4, .inl (cI, 26, .inl (sh ba))), (f5, .inl (cI, 390, .inl (sw vs))), (aP, .inr (2, [.ref p0, .ref p1, .ref p2, .ref p3, .ref p4, .ref p5, .int cn])), (p0, .inl (cI, 20, .inl lc)), (p2, .inl (cI, 300, .inl fv))] sz (fun u : (Int32) × (Int32) × (Nat → Int32) × (Nat → Int32) × (Nat → Int32) × (Nat → Int32) × (Nat → Int32) × (Nat → Int32) => (u.1 = op + 1) ∧ (u.2.1 = if mx < op + 1 then op + 1 else mx) ∧ (u.2.2.1 = upd fr op.toNatClampNeg r) ∧ (u.2.2.2.1 = upd pl op.toNatClampNeg 0) ∧ (u.2.2.2.2.1 = upd gc op.toNatClampNeg 0) ∧ (u.2.2.2.2.2.1 = upd fl op.toNatClampNeg (lc r.toNatClampNeg)) ∧ (u.2.2.2.2.2.2.1 = upd ba op.toNatClampNeg tp) ∧ (u.2.2.2.2.2.2.2 = va_cpy fv vs (r * 15).toNatClampNeg (15 * op).toNatClampNeg (lc r.toNatClampNeg).toNatClampNeg)) (fun u : (Int32) × (Int32) × (Nat → Int32) × (Nat → Int32) × (Nat → Int32) × (Nat → Int32) × (Nat → Int32) × (Nat → Int32) => [(aF, .inr (0, [.ref f0, .ref f1, .ref f2, .ref f3, .ref f4, .ref f5, .ref f6, .int u.1, .int u.2.1, .int tp])), (f0, .inl (cI, 26, .inl (sh u.2.2.1))), (f1, .inl (cI, 26, .inl (sh u.2.2.2.1))), (f2, .inl (cI, 26, .inl (sh u.2.2.2.2.1))), (f3, .inl (cI, 26, .inl (sh u.2.2.2.2.2.1))), (f4, .inl (cI, 26, .inl (sh u.2.2.2.2.2.2.1))), (f5, .inl (cI, 390, .inl (sw u.2.2.2.2.2.2.2))), (aP, .inr (2, [.ref p0, .ref p1, .ref p2, .ref p3, .ref p4, .ref p5, .int cn])), (p0, .inl (cI, 20, .inl lc)), (p2, .inl (cI, 300, .inl fv))]) := by
  refine o_wv (cc := cX2_openFrame) (maxL := 3) (ret := none) (by decide) rfl (Nat.le_of_ble_eq_true rfl) ?_
  intro p e s m below meth c ls A hx hb hr hml hts hown hlocks hP hK hD hS hA hl
  have hown : s.vm.findClass RX2 = some m.cls := hown
  have hl : lv_has ls 3 [(0, .ref aF), (1, .ref aP), (2, .int r)] := hl
  have k_1 := hts (.fieldLink RX2 33 "ZRoutines$Frames" "open" "I") (List.mem_of_getElem? (i := 1) rfl)
  have k_2 := hts (.fieldLink RX2 37 "ZRoutines$Frames" "mostOpen" "I") (List.mem_of_getElem? (i := 2) rfl)
  have k_3 := hts (.methodLink RX2 47 Lib.Math.max.name) (List.mem_of_getElem? (i := 3) rfl)
  have k_4 := hts (.static Lib.Math.max.name) (List.mem_of_getElem? (i := 4) rfl)
  have k_5 := hts (.initialized "java/lang/Math") (List.mem_of_getElem? (i := 5) rfl)
  have k_6 := hts (.code Lib.Math.max.name Lib.Math.max.code 2 (some .int)) (List.mem_of_getElem? (i := 6) rfl)
  have k_7 := hts (.fieldLink RX2 9 "ZRoutines$Frames" "routines" "[I") (List.mem_of_getElem? (i := 7) rfl)
  have k_8 := hts (.fieldLink RX2 15 "ZRoutines$Frames" "places" "[I") (List.mem_of_getElem? (i := 8) rfl)
  have k_9 := hts (.fieldLink RX2 18 "ZRoutines$Frames" "givenCounts" "[I") (List.mem_of_getElem? (i := 9) rfl)
  have k_10 := hts (.fieldLink RX2 21 "ZRoutines$Frames" "localCounts" "[I") (List.mem_of_getElem? (i := 10) rfl)
  have k_11 := hts (.fieldLink RX2 24 "ZRoutines$Frames" "bases" "[I") (List.mem_of_getElem? (i := 11) rfl)
  have k_12 := hts (.fieldLink RX2 40 "ZRoutines$Frames" "top" "I") (List.mem_of_getElem? (i := 12) rfl)
  have k_13 := hts (.fieldLink RX2 27 "ZRoutines$Frames" "locals" "[I") (List.mem_of_getElem? (i := 13) rfl)
  have i_X2 : ∀ w ∈ u_ws RX2 TX2 10, w ∈ wsX2_openFrame := fun _ h => List.mem_cons_of_mem _ (List.mem_append_left _ (List.mem_append_right _ h))
  refine lv_aload_n hx hb dX2_openFrame_0 rfl (lv_at hl 0 rfl) ?_
  refine k_rd (ci := 0) (q0 := 0) (q := (RX2, TX2, 10)) (As := []) (rest := []) ⟨hx, hb, hml, hown, hts⟩ (c_X2_isDeepest l dC dI cI aF f0 f1 f2 f3 f4 f5 f6 op mx tp ) (cwV 0 hts gX2_openFrame_X2_isDeepest rfl rfl rfl (by decide +kernel) ⟨Nat.le_of_ble_eq_true rfl, Nat.le_of_ble_eq_true rfl⟩) hK hP [0] rfl rfl rfl rfl hl.1 rfl (Nat.le_of_ble_eq_true rfl) dX2_openFrame_1 ⟨Nat.zero_le _, Nat.zero_le _⟩ (fun r_1 hr_1 => ?_)
  have hr_1 : r_1 = if 25 ≤ op then 1 else 0 := hr_1
  refine lv_if_eq (tgt := 8) hx hb dX2_openFrame_4 (by decide) (fun c_2 => ?_) (fun c_2 => False.elim (q_X2_openFrame_3 ho1 ho2 hcn2 hr1 hr2 hl1 hl2 hr_1 c_2))
  refine lv_aload_n hx hb dX2_openFrame_8 rfl (lv_at hl 0 rfl) ?_
  refine lv_dup hx hb dX2_openFrame_9 rfl ?_
  refine va_get (D := (dC, dI)) (ci := 0) (v := .int op) (C := RX2) (T := TX2) (N := 10) hx hb hts i_X2 hown hK hP 0 rfl rfl 7 (by decide) k_1 (fun _ h9 => h9) rfl dX2_openFrame_10 ?_
  refine lv_iconst (v := 1) hx hb dX2_openFrame_13 (by decide) ?_
  refine lv_iadd hx hb dX2_openFrame_14 ?_
  refine va_put (D := (dC, dI)) (ci := 0) (v := .int (op + 1)) (ty := .int) (C := RX2) (T := TX2) (N := 10) hx hb hts i_X2 tyX2 tyX2_ok nmX2 hown hK hP hD hS 0 rfl rfl 7 (by decide) k_1 (fun _ h9 => h9) rfl (by decide +kernel) rfl rfl (Nat.le_of_ble_eq_true rfl) dX2_openFrame_15 (fun H locs hP hD hS => ?_)
  have hP : va_P (dC, dI) vwCl [(aF, .inr (0, [.ref f0, .ref f1, .ref f2, .ref f3, .ref f4, .ref f5, .ref f6, .int (op + 1), .int mx, .int tp])), (f0, .inl (cI, 26, .inl (sh fr))), (f1, .inl (cI, 26, .inl (sh pl))), (f2, .inl (cI, 26, .inl (sh gc))), (f3, .inl (cI, 26, .inl (sh fl))), (f4, .inl (cI, 26, .inl (sh ba))), (f5, .inl (cI, 390, .inl (sw vs))), (aP, .inr (2, [.ref p0, .ref p1, .ref p2, .ref p3, .ref p4, .ref p5, .int cn])), (p0, .inl (cI, 20, .inl lc)), (p2, .inl (cI, 300, .inl fv))] H := hP
  have hD : va_D A [(aF, .inr (0, [.ref f0, .ref f1, .ref f2, .ref f3, .ref f4, .ref f5, .ref f6, .int (op + 1), .int mx, .int tp])), (f0, .inl (cI, 26, .inl (sh fr))), (f1, .inl (cI, 26, .inl (sh pl))), (f2, .inl (cI, 26, .inl (sh gc))), (f3, .inl (cI, 26, .inl (sh fl))), (f4, .inl (cI, 26, .inl (sh ba))), (f5, .inl (cI, 390, .inl (sw vs))), (aP, .inr (2, [.ref p0, .ref p1, .ref p2, .ref p3, .ref p4, .ref p5, .int cn])), (p0, .inl (cI, 20, .inl lc)), (p2, .inl (cI, 300, .inl fv))] := hD
  refine lv_aload_n hx hb dX2_openFrame_18 rfl (lv_at hl 0 rfl) ?_
  refine lv_aload_n hx hb dX2_openFrame_19 rfl (lv_at hl 0 rfl) ?_
  refine va_get (D := (dC, dI)) (ci := 0) (v := .int mx) (C := RX2) (T := TX2) (N := 10) hx hb hts i_X2 hown hK hP 0 rfl rfl 8 (by decide) k_2 (fun _ h9 => h9) rfl dX2_openFrame_20 ?_
  refine lv_aload_n hx hb dX2_openFrame_23 rfl (lv_at hl 0 rfl) ?_
  refine va_get (D := (dC, dI)) (ci := 0) (v := .int (op + 1)) (C := RX2) (T := TX2) (N := 10) hx hb hts i_X2 hown hK hP 0 rfl rfl 7 (by decide) k_1 (fun _ h9 => h9) rfl dX2_openFrame_24 ?_
  refine va_mmax hx hb (hml.trans hl.1.symm) hown k_3 k_4 k_5 k_6 (Nat.le_of_ble_eq_true rfl) (Nat.le_of_ble_eq_true rfl) (Nat.zero_le _) (Nat.zero_le _) dX2_openFrame_27 ?_
  refine lv_topi (fun x_4 ex_4 => ?_)
  refine va_put (D := (dC, dI)) (ci := 0) (v := .int x_4) (ty := .int) (C := RX2) (T := TX2) (N := 10) hx hb hts i_X2 tyX2 tyX2_ok nmX2 hown hK hP hD hS 0 rfl rfl 8 (by decide) k_2 (fun _ h9 => h9) rfl (by decide +kernel) rfl rfl (Nat.le_of_ble_eq_true rfl) dX2_openFrame_30 (fun H locs hP hD hS => ?_)
  have hP : va_P (dC, dI) vwCl [(aF, .inr (0, [.ref f0, .ref f1, .ref f2, .ref f3, .ref f4, .ref f5, .ref f6, .int (op + 1), .int x_4, .int tp])), (f0, .inl (cI, 26, .inl (sh fr))), (f1, .inl (cI, 26, .inl (sh pl))), (f2, .inl (cI, 26, .inl (sh gc))), (f3, .inl (cI, 26, .inl (sh fl))), (f4, .inl (cI, 26, .inl (sh ba))), (f5, .inl (cI, 390, .inl (sw vs))), (aP, .inr (2, [.ref p0, .ref p1, .ref p2, .ref p3, .ref p4, .ref p5, .int cn])), (p0, .inl (cI, 20, .inl lc)), (p2, .inl (cI, 300, .inl fv))] H := hP
  have hD : va_D A [(aF, .inr (0, [.ref f0, .ref f1, .ref f2, .ref f3, .ref f4, .ref f5, .ref f6, .int (op + 1), .int x_4, .int tp])), (f0, .inl (cI, 26, .inl (sh fr))), (f1, .inl (cI, 26, .inl (sh pl))), (f2, .inl (cI, 26, .inl (sh gc))), (f3, .inl (cI, 26, .inl (sh fl))), (f4, .inl (cI, 26, .inl (sh ba))), (f5, .inl (cI, 390, .inl (sw vs))), (aP, .inr (2, [.ref p0, .ref p1, .ref p2, .ref p3, .ref p4, .ref p5, .int cn])), (p0, .inl (cI, 20, .inl lc)), (p2, .inl (cI, 300, .inl fv))] := hD
  refine lv_aload_n hx hb dX2_openFrame_33 rfl (lv_at hl 0 rfl) ?_
  refine va_get (D := (dC, dI)) (ci := 0) (v := .ref f0) (C := RX2) (T := TX2) (N := 10) hx hb hts i_X2 hown hK hP 0 rfl rfl 0 (by decide) k_7 (fun _ h9 => h9) rfl dX2_openFrame_34 ?_
  refine lv_aload_n hx hb dX2_openFrame_37 rfl (lv_at hl 0 rfl) ?_
  refine va_get (D := (dC, dI)) (ci := 0) (v := .int (op + 1)) (C := RX2) (T := TX2) (N := 10) hx hb hts i_X2 hown hK hP 0 rfl rfl 7 (by decide) k_1 (fun _ h9 => h9) rfl dX2_openFrame_38 ?_
  refine lv_iload_n hx hb dX2_openFrame_41 rfl (lv_at hl 2 rfl) ?_
  refine va_iast hx hb hK hP hD hS 1 0 rfl rfl (q_X2_openFrame_5 ho1 ho2 hcn2 hr1 hr2 hl1 hl2 hr_1 c_2 ex_4) dX2_openFrame_42 (fun H locs hP hD hS => ?_)
  have hP : va_P (dC, dI) vwCl [(aF, .inr (0, [.ref f0, .ref f1, .ref f2, .ref f3, .ref f4, .ref f5, .ref f6, .int (op + 1), .int x_4, .int tp])), (f0, .inl (cI, 26, .inl (upd (sh fr) (op + 1).toNatClampNeg r))), (f1, .inl (cI, 26, .inl (sh pl))), (f2, .inl (cI, 26, .inl (sh gc))), (f3, .inl (cI, 26, .inl (sh fl))), (f4, .inl (cI, 26, .inl (sh ba))), (f5, .inl (cI, 390, .inl (sw vs))), (aP, .inr (2, [.ref p0, .ref p1, .ref p2, .ref p3, .ref p4, .ref p5, .int cn])), (p0, .inl (cI, 20, .inl lc)), (p2, .inl (cI, 300, .inl fv))] H := hP
  have hD : va_D A [(aF, .inr (0, [.ref f0, .ref f1, .ref f2, .ref f3, .ref f4, .ref f5, .ref f6, .int (op + 1), .int x_4, .int tp])), (f0, .inl (cI, 26, .inl (upd (sh fr) (op + 1).toNatClampNeg r))), (f1, .inl (cI, 26, .inl (sh pl))), (f2, .inl (cI, 26, .inl (sh gc))), (f3, .inl (cI, 26, .inl (sh fl))), (f4, .inl (cI, 26, .inl (sh ba))), (f5, .inl (cI, 390, .inl (sw vs))), (aP, .inr (2, [.ref p0, .ref p1, .ref p2, .ref p3, .ref p4, .ref p5, .int cn])), (p0, .inl (cI, 20, .inl lc)), (p2, .inl (cI, 300, .inl fv))] := hD
  rw [sh_upd (q_X2_openFrame_6 ho1 ho2 hcn2 hr1 hr2 hl1 hl2 hr_1 c_2 ex_4)] at hP hD
  have hP : va_P (dC, dI) vwCl [(aF, .inr (0, [.ref f0, .ref f1, .ref f2, .ref f3, .ref f4, .ref f5, .ref f6, .int (op + 1), .int x_4, .int tp])), (f0, .inl (cI, 26, .inl (sh (upd fr ((op + 1) - 1).toNatClampNeg r)))), (f1, .inl (cI, 26, .inl (sh pl))), (f2, .inl (cI, 26, .inl (sh gc))), (f3, .inl (cI, 26, .inl (sh fl))), (f4, .inl (cI, 26, .inl (sh ba))), (f5, .inl (cI, 390, .inl (sw vs))), (aP, .inr (2, [.ref p0, .ref p1, .ref p2, .ref p3, .ref p4, .ref p5, .int cn])), (p0, .inl (cI, 20, .inl lc)), (p2, .inl (cI, 300, .inl fv))] H := hP
  have hD : va_D A [(aF, .inr (0, [.ref f0, .ref f1, .ref f2, .ref f3, .ref f4, .ref f5, .ref f6, .int (op + 1), .int x_4, .int tp])), (f0, .inl (cI, 26, .inl (sh (upd fr ((op + 1) - 1).toNatClampNeg r)))), (f1, .inl (cI, 26, .inl (sh pl))), (f2, .inl (cI, 26, .inl (sh gc))), (f3, .inl (cI, 26, .inl (sh fl))), (f4, .inl (cI, 26, .inl (sh ba))), (f5, .inl (cI, 390, .inl (sw vs))), (aP, .inr (2, [.ref p0, .ref p1, .ref p2, .ref p3, .ref p4, .ref p5, .int cn])), (p0, .inl (cI, 20, .inl lc)), (p2, .inl (cI, 300, .inl fv))] := hD
  refine lv_aload_n hx hb dX2_openFrame_43 rfl (lv_at hl 0 rfl) ?_
  refine va_get (D := (dC, dI)) (ci := 0) (v := .ref f1) (C := RX2) (T := TX2) (N := 10) hx hb hts i_X2 hown hK hP 0 rfl rfl 1 (by decide) k_8 (fun _ h9 => h9) rfl dX2_openFrame_44 ?_
  refine lv_aload_n hx hb dX2_openFrame_47 rfl (lv_at hl 0 rfl) ?_
  refine va_get (D := (dC, dI)) (ci := 0) (v := .int (op + 1)) (C := RX2) (T := TX2) (N := 10) hx hb hts i_X2 hown hK hP 0 rfl rfl 7 (by decide) k_1 (fun _ h9 => h9) rfl dX2_openFrame_48 ?_
  refine lv_iconst (v := 0) hx hb dX2_openFrame_51 (by decide) ?_
  refine va_iast hx hb hK hP hD hS 2 0 rfl rfl (q_X2_openFrame_7 ho1 ho2 hcn2 hr1 hr2 hl1 hl2 hr_1 c_2 ex_4) dX2_openFrame_52 (fun H locs hP hD hS => ?_)
  have hP : va_P (dC, dI) vwCl [(aF, .inr (0, [.ref f0, .ref f1, .ref f2, .ref f3, .ref f4, .ref f5, .ref f6, .int (op + 1), .int x_4, .int tp])), (f0, .inl (cI, 26, .inl (sh (upd fr ((op + 1) - 1).toNatClampNeg r)))), (f1, .inl (cI, 26, .inl (upd (sh pl) (op + 1).toNatClampNeg 0))), (f2, .inl (cI, 26, .inl (sh gc))), (f3, .inl (cI, 26, .inl (sh fl))), (f4, .inl (cI, 26, .inl (sh ba))), (f5, .inl (cI, 390, .inl (sw vs))), (aP, .inr (2, [.ref p0, .ref p1, .ref p2, .ref p3, .ref p4, .ref p5, .int cn])), (p0, .inl (cI, 20, .inl lc)), (p2, .inl (cI, 300, .inl fv))] H := hP
  have hD : va_D A [(aF, .inr (0, [.ref f0, .ref f1, .ref f2, .ref f3, .ref f4, .ref f5, .ref f6, .int (op + 1), .int x_4, .int tp])), (f0, .inl (cI, 26, .inl (sh (upd fr ((op + 1) - 1).toNatClampNeg r)))), (f1, .inl (cI, 26, .inl (upd (sh pl) (op + 1).toNatClampNeg 0))), (f2, .inl (cI, 26, .inl (sh gc))), (f3, .inl (cI, 26, .inl (sh fl))), (f4, .inl (cI, 26, .inl (sh ba))), (f5, .inl (cI, 390, .inl (sw vs))), (aP, .inr (2, [.ref p0, .ref p1, .ref p2, .ref p3, .ref p4, .ref p5, .int cn])), (p0, .inl (cI, 20, .inl lc)), (p2, .inl (cI, 300, .inl fv))] := hD
  rw [sh_upd (q_X2_openFrame_8 ho1 ho2 hcn2 hr1 hr2 hl1 hl2 hr_1 c_2 ex_4)] at hP hD
  have hP : va_P (dC, dI) vwCl [(aF, .inr (0, [.ref f0, .ref f1, .ref f2, .ref f3, .ref f4, .ref f5, .ref f6, .int (op + 1), .int x_4, .int tp])), (f0, .inl (cI, 26, .inl (sh (upd fr ((op + 1) - 1).toNatClampNeg r)))), (f1, .inl (cI, 26, .inl (sh (upd pl ((op + 1) - 1).toNatClampNeg 0)))), (f2, .inl (cI, 26, .inl (sh gc))), (f3, .inl (cI, 26, .inl (sh fl))), (f4, .inl (cI, 26, .inl (sh ba))), (f5, .inl (cI, 390, .inl (sw vs))), (aP, .inr (2, [.ref p0, .ref p1, .ref p2, .ref p3, .ref p4, .ref p5, .int cn])), (p0, .inl (cI, 20, .inl lc)), (p2, .inl (cI, 300, .inl fv))] H := hP
  have hD : va_D A [(aF, .inr (0, [.ref f0, .ref f1, .ref f2, .ref f3, .ref f4, .ref f5, .ref f6, .int (op + 1), .int x_4, .int tp])), (f0, .inl (cI, 26, .inl (sh (upd fr ((op + 1) - 1).toNatClampNeg r)))), (f1, .inl (cI, 26, .inl (sh (upd pl ((op + 1) - 1).toNatClampNeg 0)))), (f2, .inl (cI, 26, .inl (sh gc))), (f3, .inl (cI, 26, .inl (sh fl))), (f4, .inl (cI, 26, .inl (sh ba))), (f5, .inl (cI, 390, .inl (sw vs))), (aP, .inr (2, [.ref p0, .ref p1, .ref p2, .ref p3, .ref p4, .ref p5, .int cn])), (p0, .inl (cI, 20, .inl lc)), (p2, .inl (cI, 300, .inl fv))] := hD
  refine lv_aload_n hx hb dX2_openFrame_53 rfl (lv_at hl 0 rfl) ?_
  refine va_get (D := (dC, dI)) (ci := 0) (v := .ref f2) (C := RX2) (T := TX2) (N := 10) hx hb hts i_X2 hown hK hP 0 rfl rfl 2 (by decide) k_9 (fun _ h9 => h9) rfl dX2_openFrame_54 ?_
  refine lv_aload_n hx hb dX2_openFrame_57 rfl (lv_at hl 0 rfl) ?_
  refine va_get (D := (dC, dI)) (ci := 0) (v := .int (op + 1)) (C := RX2) (T := TX2) (N := 10) hx hb hts i_X2 hown hK hP 0 rfl rfl 7 (by decide) k_1 (fun _ h9 => h9) rfl dX2_openFrame_58 ?_
  refine lv_iconst (v := 0) hx hb dX2_openFrame_61 (by decide) ?_
  refine va_iast hx hb hK hP hD hS 3 0 rfl rfl (q_X2_openFrame_9 ho1 ho2 hcn2 hr1 hr2 hl1 hl2 hr_1 c_2 ex_4) dX2_openFrame_62 (fun H locs hP hD hS => ?_)
  have hP : va_P (dC, dI) vwCl [(aF, .inr (0, [.ref f0, .ref f1, .ref f2, .ref f3, .ref f4, .ref f5, .ref f6, .int (op + 1), .int x_4, .int tp])), (f0, .inl (cI, 26, .inl (sh (upd fr ((op + 1) - 1).toNatClampNeg r)))), (f1, .inl (cI, 26, .inl (sh (upd pl ((op + 1) - 1).toNatClampNeg 0)))), (f2, .inl (cI, 26, .inl (upd (sh gc) (op + 1).toNatClampNeg 0))), (f3, .inl (cI, 26, .inl (sh fl))), (f4, .inl (cI, 26, .inl (sh ba))), (f5, .inl (cI, 390, .inl (sw vs))), (aP, .inr (2, [.ref p0, .ref p1, .ref p2, .ref p3, .ref p4, .ref p5, .int cn])), (p0, .inl (cI, 20, .inl lc)), (p2, .inl (cI, 300, .inl fv))] H := hP
  have hD : va_D A [(aF, .inr (0, [.ref f0, .ref f1, .ref f2, .ref f3, .ref f4, .ref f5, .ref f6, .int (op + 1), .int x_4, .int tp])), (f0, .inl (cI, 26, .inl (sh (upd fr ((op + 1) - 1).toNatClampNeg r)))), (f1, .inl (cI, 26, .inl (sh (upd pl ((op + 1) - 1).toNatClampNeg 0)))), (f2, .inl (cI, 26, .inl (upd (sh gc) (op + 1).toNatClampNeg 0))), (f3, .inl (cI, 26, .inl (sh fl))), (f4, .inl (cI, 26, .inl (sh ba))), (f5, .inl (cI, 390, .inl (sw vs))), (aP, .inr (2, [.ref p0, .ref p1, .ref p2, .ref p3, .ref p4, .ref p5, .int cn])), (p0, .inl (cI, 20, .inl lc)), (p2, .inl (cI, 300, .inl fv))] := hD
  rw [sh_upd (q_X2_openFrame_10 ho1 ho2 hcn2 hr1 hr2 hl1 hl2 hr_1 c_2 ex_4)] at hP hD
  have hP : va_P (dC, dI) vwCl [(aF, .inr (0, [.ref f0, .ref f1, .ref f2, .ref f3, .ref f4, .ref f5, .ref f6, .int (op + 1), .int x_4, .int tp])), (f0, .inl (cI, 26, .inl (sh (upd fr ((op + 1) - 1).toNatClampNeg r)))), (f1, .inl (cI, 26, .inl (sh (upd pl ((op + 1) - 1).toNatClampNeg 0)))), (f2, .inl (cI, 26, .inl (sh (upd gc ((op + 1) - 1).toNatClampNeg 0)))), (f3, .inl (cI, 26, .inl (sh fl))), (f4, .inl (cI, 26, .inl (sh ba))), (f5, .inl (cI, 390, .inl (sw vs))), (aP, .inr (2, [.ref p0, .ref p1, .ref p2, .ref p3, .ref p4, .ref p5, .int cn])), (p0, .inl (cI, 20, .inl lc)), (p2, .inl (cI, 300, .inl fv))] H := hP
  have hD : va_D A [(aF, .inr (0, [.ref f0, .ref f1, .ref f2, .ref f3, .ref f4, .ref f5, .ref f6, .int (op + 1), .int x_4, .int tp])), (f0, .inl (cI, 26, .inl (sh (upd fr ((op + 1) - 1).toNatClampNeg r)))), (f1, .inl (cI, 26, .inl (sh (upd pl ((op + 1) - 1).toNatClampNeg 0)))), (f2, .inl (cI, 26, .inl (sh (upd gc ((op + 1) - 1).toNatClampNeg 0)))), (f3, .inl (cI, 26, .inl (sh fl))), (f4, .inl (cI, 26, .inl (sh ba))), (f5, .inl (cI, 390, .inl (sw vs))), (aP, .inr (2, [.ref p0, .ref p1, .ref p2, .ref p3, .ref p4, .ref p5, .int cn])), (p0, .inl (cI, 20, .inl lc)), (p2, .inl (cI, 300, .inl fv))] := hD
  refine lv_aload_n hx hb dX2_openFrame_63 rfl (lv_at hl 0 rfl) ?_
  refine va_get (D := (dC, dI)) (ci := 0) (v := .ref f3) (C := RX2) (T := TX2) (N := 10) hx hb hts i_X2 hown hK hP 0 rfl rfl 3 (by decide) k_10 (fun _ h9 => h9) rfl dX2_openFrame_64 ?_
  refine lv_aload_n hx hb dX2_openFrame_67 rfl (lv_at hl 0 rfl) ?_
  refine va_get (D := (dC, dI)) (ci := 0) (v := .int (op + 1)) (C := RX2) (T := TX2) (N := 10) hx hb hts i_X2 hown hK hP 0 rfl rfl 7 (by decide) k_1 (fun _ h9 => h9) rfl dX2_openFrame_68 ?_
  refine lv_aload_n hx hb dX2_openFrame_71 rfl (lv_at hl 1 rfl) ?_
  refine lv_iload_n hx hb dX2_openFrame_72 rfl (lv_at hl 2 rfl) ?_
  refine k_rd (ci := 2) (q0 := 0) (q := (RX5, TX5, 7)) (As := [.int r]) (rest := [.int (op + 1), .ref f3]) ⟨hx, hb, hml, hown, hts⟩ (c_X5_localCount l dC dI cI aP p0 p1 p2 p3 p4 p5 lc cn r (q_X2_openFrame_11 ho1 ho2 hcn2 hr1 hr2 hl1 hl2 hr_1 c_2 ex_4) (q_X2_openFrame_12 ho1 ho2 hcn2 hr1 hr2 hl1 hl2 hr_1 c_2 ex_4) (q_X2_openFrame_13 ho1 ho2 hcn2 hr1 hr2 hl1 hl2 hr_1 c_2 ex_4)) (cwV 1 hts gX2_openFrame_X5_localCount rfl rfl rfl (by decide +kernel) ⟨Nat.le_of_ble_eq_true rfl, Nat.le_of_ble_eq_true rfl⟩) hK hP [7, 8] rfl rfl rfl rfl hl.1 rfl (Nat.le_of_ble_eq_true rfl) dX2_openFrame_73 ⟨Nat.zero_le _, Nat.zero_le _⟩ (fun r_14 hr_14 => ?_)
  have hr_14 : r_14 = lc r.toNatClampNeg := hr_14
  refine va_iast hx hb hK hP hD hS 4 0 rfl rfl (q_X2_openFrame_15 ho1 ho2 hcn2 hr1 hr2 hl1 hl2 hr_1 c_2 ex_4 hr_14) dX2_openFrame_76 (fun H locs hP hD hS => ?_)
  have hP : va_P (dC, dI) vwCl [(aF, .inr (0, [.ref f0, .ref f1, .ref f2, .ref f3, .ref f4, .ref f5, .ref f6, .int (op + 1), .int x_4, .int tp])), (f0, .inl (cI, 26, .inl (sh (upd fr ((op + 1) - 1).toNatClampNeg r)))), (f1, .inl (cI, 26, .inl (sh (upd pl ((op + 1) - 1).toNatClampNeg 0)))), (f2, .inl (cI, 26, .inl (sh (upd gc ((op + 1) - 1).toNatClampNeg 0)))), (f3, .inl (cI, 26, .inl (upd (sh fl) (op + 1).toNatClampNeg r_14))), (f4, .inl (cI, 26, .inl (sh ba))), (f5, .inl (cI, 390, .inl (sw vs))), (aP, .inr (2, [.ref p0, .ref p1, .ref p2, .ref p3, .ref p4, .ref p5, .int cn])), (p0, .inl (cI, 20, .inl lc)), (p2, .inl (cI, 300, .inl fv))] H := hP
  have hD : va_D A [(aF, .inr (0, [.ref f0, .ref f1, .ref f2, .ref f3, .ref f4, .ref f5, .ref f6, .int (op + 1), .int x_4, .int tp])), (f0, .inl (cI, 26, .inl (sh (upd fr ((op + 1) - 1).toNatClampNeg r)))), (f1, .inl (cI, 26, .inl (sh (upd pl ((op + 1) - 1).toNatClampNeg 0)))), (f2, .inl (cI, 26, .inl (sh (upd gc ((op + 1) - 1).toNatClampNeg 0)))), (f3, .inl (cI, 26, .inl (upd (sh fl) (op + 1).toNatClampNeg r_14))), (f4, .inl (cI, 26, .inl (sh ba))), (f5, .inl (cI, 390, .inl (sw vs))), (aP, .inr (2, [.ref p0, .ref p1, .ref p2, .ref p3, .ref p4, .ref p5, .int cn])), (p0, .inl (cI, 20, .inl lc)), (p2, .inl (cI, 300, .inl fv))] := hD
  rw [sh_upd (q_X2_openFrame_16 ho1 ho2 hcn2 hr1 hr2 hl1 hl2 hr_1 c_2 ex_4 hr_14)] at hP hD
  have hP : va_P (dC, dI) vwCl [(aF, .inr (0, [.ref f0, .ref f1, .ref f2, .ref f3, .ref f4, .ref f5, .ref f6, .int (op + 1), .int x_4, .int tp])), (f0, .inl (cI, 26, .inl (sh (upd fr ((op + 1) - 1).toNatClampNeg r)))), (f1, .inl (cI, 26, .inl (sh (upd pl ((op + 1) - 1).toNatClampNeg 0)))), (f2, .inl (cI, 26, .inl (sh (upd gc ((op + 1) - 1).toNatClampNeg 0)))), (f3, .inl (cI, 26, .inl (sh (upd fl ((op + 1) - 1).toNatClampNeg r_14)))), (f4, .inl (cI, 26, .inl (sh ba))), (f5, .inl (cI, 390, .inl (sw vs))), (aP, .inr (2, [.ref p0, .ref p1, .ref p2, .ref p3, .ref p4, .ref p5, .int cn])), (p0, .inl (cI, 20, .inl lc)), (p2, .inl (cI, 300, .inl fv))] H := hP
  have hD : va_D A [(aF, .inr (0, [.ref f0, .ref f1, .ref f2, .ref f3, .ref f4, .ref f5, .ref f6, .int (op + 1), .int x_4, .int tp])), (f0, .inl (cI, 26, .inl (sh (upd fr ((op + 1) - 1).toNatClampNeg r)))), (f1, .inl (cI, 26, .inl (sh (upd pl ((op + 1) - 1).toNatClampNeg 0)))), (f2, .inl (cI, 26, .inl (sh (upd gc ((op + 1) - 1).toNatClampNeg 0)))), (f3, .inl (cI, 26, .inl (sh (upd fl ((op + 1) - 1).toNatClampNeg r_14)))), (f4, .inl (cI, 26, .inl (sh ba))), (f5, .inl (cI, 390, .inl (sw vs))), (aP, .inr (2, [.ref p0, .ref p1, .ref p2, .ref p3, .ref p4, .ref p5, .int cn])), (p0, .inl (cI, 20, .inl lc)), (p2, .inl (cI, 300, .inl fv))] := hD
  refine lv_aload_n hx hb dX2_openFrame_77 rfl (lv_at hl 0 rfl) ?_
  refine va_get (D := (dC, dI)) (ci := 0) (v := .ref f4) (C := RX2) (T := TX2) (N := 10) hx hb hts i_X2 hown hK hP 0 rfl rfl 4 (by decide) k_11 (fun _ h9 => h9) rfl dX2_openFrame_78 ?_
  refine lv_aload_n hx hb dX2_openFrame_81 rfl (lv_at hl 0 rfl) ?_
  refine va_get (D := (dC, dI)) (ci := 0) (v := .int (op + 1)) (C := RX2) (T := TX2) (N := 10) hx hb hts i_X2 hown hK hP 0 rfl rfl 7 (by decide) k_1 (fun _ h9 => h9) rfl dX2_openFrame_82 ?_
  refine lv_aload_n hx hb dX2_openFrame_85 rfl (lv_at hl 0 rfl) ?_
  refine va_get (D := (dC, dI)) (ci := 0) (v := .int tp) (C := RX2) (T := TX2) (N := 10) hx hb hts i_X2 hown hK hP 0 rfl rfl 9 (by decide) k_12 (fun _ h9 => h9) rfl dX2_openFrame_86 ?_
  refine va_iast hx hb hK hP hD hS 5 0 rfl rfl (q_X2_openFrame_17 ho1 ho2 hcn2 hr1 hr2 hl1 hl2 hr_1 c_2 ex_4 hr_14) dX2_openFrame_89 (fun H locs hP hD hS => ?_)
  have hP : va_P (dC, dI) vwCl [(aF, .inr (0, [.ref f0, .ref f1, .ref f2, .ref f3, .ref f4, .ref f5, .ref f6, .int (op + 1), .int x_4, .int tp])), (f0, .inl (cI, 26, .inl (sh (upd fr ((op + 1) - 1).toNatClampNeg r)))), (f1, .inl (cI, 26, .inl (sh (upd pl ((op + 1) - 1).toNatClampNeg 0)))), (f2, .inl (cI, 26, .inl (sh (upd gc ((op + 1) - 1).toNatClampNeg 0)))), (f3, .inl (cI, 26, .inl (sh (upd fl ((op + 1) - 1).toNatClampNeg r_14)))), (f4, .inl (cI, 26, .inl (upd (sh ba) (op + 1).toNatClampNeg tp))), (f5, .inl (cI, 390, .inl (sw vs))), (aP, .inr (2, [.ref p0, .ref p1, .ref p2, .ref p3, .ref p4, .ref p5, .int cn])), (p0, .inl (cI, 20, .inl lc)), (p2, .inl (cI, 300, .inl fv))] H := hP
  have hD : va_D A [(aF, .inr (0, [.ref f0, .ref f1, .ref f2, .ref f3, .ref f4, .ref f5, .ref f6, .int (op + 1), .int x_4, .int tp])), (f0, .inl (cI, 26, .inl (sh (upd fr ((op + 1) - 1).toNatClampNeg r)))), (f1, .inl (cI, 26, .inl (sh (upd pl ((op + 1) - 1).toNatClampNeg 0)))), (f2, .inl (cI, 26, .inl (sh (upd gc ((op + 1) - 1).toNatClampNeg 0)))), (f3, .inl (cI, 26, .inl (sh (upd fl ((op + 1) - 1).toNatClampNeg r_14)))), (f4, .inl (cI, 26, .inl (upd (sh ba) (op + 1).toNatClampNeg tp))), (f5, .inl (cI, 390, .inl (sw vs))), (aP, .inr (2, [.ref p0, .ref p1, .ref p2, .ref p3, .ref p4, .ref p5, .int cn])), (p0, .inl (cI, 20, .inl lc)), (p2, .inl (cI, 300, .inl fv))] := hD
  rw [sh_upd (q_X2_openFrame_18 ho1 ho2 hcn2 hr1 hr2 hl1 hl2 hr_1 c_2 ex_4 hr_14)] at hP hD
  have hP : va_P (dC, dI) vwCl [(aF, .inr (0, [.ref f0, .ref f1, .ref f2, .ref f3, .ref f4, .ref f5, .ref f6, .int (op + 1), .int x_4, .int tp])), (f0, .inl (cI, 26, .inl (sh (upd fr ((op + 1) - 1).toNatClampNeg r)))), (f1, .inl (cI, 26, .inl (sh (upd pl ((op + 1) - 1).toNatClampNeg 0)))), (f2, .inl (cI, 26, .inl (sh (upd gc ((op + 1) - 1).toNatClampNeg 0)))), (f3, .inl (cI, 26, .inl (sh (upd fl ((op + 1) - 1).toNatClampNeg r_14)))), (f4, .inl (cI, 26, .inl (sh (upd ba ((op + 1) - 1).toNatClampNeg tp)))), (f5, .inl (cI, 390, .inl (sw vs))), (aP, .inr (2, [.ref p0, .ref p1, .ref p2, .ref p3, .ref p4, .ref p5, .int cn])), (p0, .inl (cI, 20, .inl lc)), (p2, .inl (cI, 300, .inl fv))] H := hP
  have hD : va_D A [(aF, .inr (0, [.ref f0, .ref f1, .ref f2, .ref f3, .ref f4, .ref f5, .ref f6, .int (op + 1), .int x_4, .int tp])), (f0, .inl (cI, 26, .inl (sh (upd fr ((op + 1) - 1).toNatClampNeg r)))), (f1, .inl (cI, 26, .inl (sh (upd pl ((op + 1) - 1).toNatClampNeg 0)))), (f2, .inl (cI, 26, .inl (sh (upd gc ((op + 1) - 1).toNatClampNeg 0)))), (f3, .inl (cI, 26, .inl (sh (upd fl ((op + 1) - 1).toNatClampNeg r_14)))), (f4, .inl (cI, 26, .inl (sh (upd ba ((op + 1) - 1).toNatClampNeg tp)))), (f5, .inl (cI, 390, .inl (sw vs))), (aP, .inr (2, [.ref p0, .ref p1, .ref p2, .ref p3, .ref p4, .ref p5, .int cn])), (p0, .inl (cI, 20, .inl lc)), (p2, .inl (cI, 300, .inl fv))] := hD
  refine lv_aload_n hx hb dX2_openFrame_90 rfl (lv_at hl 1 rfl) ?_
  refine lv_iload_n hx hb dX2_openFrame_91 rfl (lv_at hl 2 rfl) ?_
  refine lv_aload_n hx hb dX2_openFrame_92 rfl (lv_at hl 0 rfl) ?_
  refine va_get (D := (dC, dI)) (ci := 0) (v := .ref f5) (C := RX2) (T := TX2) (N := 10) hx hb hts i_X2 hown hK hP 0 rfl rfl 5 (by decide) k_13 (fun _ h9 => h9) rfl dX2_openFrame_93 ?_
  refine lv_aload_n hx hb dX2_openFrame_96 rfl (lv_at hl 0 rfl) ?_
  refine va_get (D := (dC, dI)) (ci := 0) (v := .int (op + 1)) (C := RX2) (T := TX2) (N := 10) hx hb hts i_X2 hown hK hP 0 rfl rfl 7 (by decide) k_1 (fun _ h9 => h9) rfl dX2_openFrame_97 ?_
  refine lv_bipush (v := 15) hx hb dX2_openFrame_100 (by decide) ?_
  refine lv_imul hx hb dX2_openFrame_102 ?_
  refine k_wv (w2 := (fun u_28 : (Nat → Int32) => [(aF, .inr (0, [.ref f0, .ref f1, .ref f2, .ref f3, .ref f4, .ref f5, .ref f6, .int (op + 1), .int x_4, .int tp])), (f0, .inl (cI, 26, .inl (sh (upd fr ((op + 1) - 1).toNatClampNeg r)))), (f1, .inl (cI, 26, .inl (sh (upd pl ((op + 1) - 1).toNatClampNeg 0)))), (f2, .inl (cI, 26, .inl (sh (upd gc ((op + 1) - 1).toNatClampNeg 0)))), (f3, .inl (cI, 26, .inl (sh (upd fl ((op + 1) - 1).toNatClampNeg r_14)))), (f4, .inl (cI, 26, .inl (sh (upd ba ((op + 1) - 1).toNatClampNeg tp)))), (f5, .inl (cI, 390, .inl (sw u_28))), (aP, .inr (2, [.ref p0, .ref p1, .ref p2, .ref p3, .ref p4, .ref p5, .int cn])), (p0, .inl (cI, 20, .inl lc)), (p2, .inl (cI, 300, .inl fv))])) (wr := [(aF, .inr (0, [.ref f0, .ref f1, .ref f2, .ref f3, .ref f4, .ref f5, .ref f6, .int (op + 1), .int x_4, .int tp])), (f0, .inl (cI, 26, .inl (sh (upd fr ((op + 1) - 1).toNatClampNeg r)))), (f1, .inl (cI, 26, .inl (sh (upd pl ((op + 1) - 1).toNatClampNeg 0)))), (f2, .inl (cI, 26, .inl (sh (upd gc ((op + 1) - 1).toNatClampNeg 0)))), (f3, .inl (cI, 26, .inl (sh (upd fl ((op + 1) - 1).toNatClampNeg r_14)))), (f4, .inl (cI, 26, .inl (sh (upd ba ((op + 1) - 1).toNatClampNeg tp))))]) (ci := 2) (q0 := 0) (q := (RX5, TX5, 7)) (As := [.int r, .ref f5, .int ((op + 1) * 15)]) (rest := []) ⟨hx, hb, hml, hown, hts⟩ (c_X5_copyFirstValues l dC dI cI _ aP p0 p1 p2 p3 p4 p5 f5 lc fv vs cn r ((op + 1) * 15) op (q_X2_openFrame_19 ho1 ho2 hcn2 hr1 hr2 hl1 hl2 hr_1 c_2 ex_4 hr_14) (q_X2_openFrame_20 ho1 ho2 hcn2 hr1 hr2 hl1 hl2 hr_1 c_2 ex_4 hr_14) (q_X2_openFrame_21 ho1 ho2 hcn2 hr1 hr2 hl1 hl2 hr_1 c_2 ex_4 hr_14) (q_X2_openFrame_22 ho1 ho2 hcn2 hr1 hr2 hl1 hl2 hr_1 c_2 ex_4 hr_14) (q_X2_openFrame_23 ho1 ho2 hcn2 hr1 hr2 hl1 hl2 hr_1 c_2 ex_4 hr_14) (q_X2_openFrame_24 ho1 ho2 hcn2 hr1 hr2 hl1 hl2 hr_1 c_2 ex_4 hr_14) (q_X2_openFrame_25 ho1 ho2 hcn2 hr1 hr2 hl1 hl2 hr_1 c_2 ex_4 hr_14) (q_X2_openFrame_26 ho1 ho2 hcn2 hr1 hr2 hl1 hl2 hr_1 c_2 ex_4 hr_14)) (cwV 3 hts gX2_openFrame_X5_copyFirstValues rfl rfl rfl (by decide +kernel) ⟨Nat.le_of_ble_eq_true rfl, Nat.le_of_ble_eq_true rfl⟩) hK hP hD hS hA [7, 8, 9, 6] [0, 1, 2, 3, 4, 5] [0, 1, 2, 3, 4, 5, 9, 6, 7, 8] rfl rfl (by decide) (fun _ => rfl) rfl rfl rfl hl.1 rfl (Nat.le_of_ble_eq_true rfl) dX2_openFrame_103 ⟨Nat.zero_le _, Nat.zero_le _⟩ (fun u_28 H locs hr_27 hP hD hS => ?_)
  obtain ⟨vs_29, rfl⟩ : ∃ z, z = u_28 := ⟨_, rfl⟩
  have hP : va_P (dC, dI) vwCl [(aF, .inr (0, [.ref f0, .ref f1, .ref f2, .ref f3, .ref f4, .ref f5, .ref f6, .int (op + 1), .int x_4, .int tp])), (f0, .inl (cI, 26, .inl (sh (upd fr ((op + 1) - 1).toNatClampNeg r)))), (f1, .inl (cI, 26, .inl (sh (upd pl ((op + 1) - 1).toNatClampNeg 0)))), (f2, .inl (cI, 26, .inl (sh (upd gc ((op + 1) - 1).toNatClampNeg 0)))), (f3, .inl (cI, 26, .inl (sh (upd fl ((op + 1) - 1).toNatClampNeg r_14)))), (f4, .inl (cI, 26, .inl (sh (upd ba ((op + 1) - 1).toNatClampNeg tp)))), (f5, .inl (cI, 390, .inl (sw vs_29))), (aP, .inr (2, [.ref p0, .ref p1, .ref p2, .ref p3, .ref p4, .ref p5, .int cn])), (p0, .inl (cI, 20, .inl lc)), (p2, .inl (cI, 300, .inl fv))] H := hP
  have hD : va_D A [(aF, .inr (0, [.ref f0, .ref f1, .ref f2, .ref f3, .ref f4, .ref f5, .ref f6, .int (op + 1), .int x_4, .int tp])), (f0, .inl (cI, 26, .inl (sh (upd fr ((op + 1) - 1).toNatClampNeg r)))), (f1, .inl (cI, 26, .inl (sh (upd pl ((op + 1) - 1).toNatClampNeg 0)))), (f2, .inl (cI, 26, .inl (sh (upd gc ((op + 1) - 1).toNatClampNeg 0)))), (f3, .inl (cI, 26, .inl (sh (upd fl ((op + 1) - 1).toNatClampNeg r_14)))), (f4, .inl (cI, 26, .inl (sh (upd ba ((op + 1) - 1).toNatClampNeg tp)))), (f5, .inl (cI, 390, .inl (sw vs_29))), (aP, .inr (2, [.ref p0, .ref p1, .ref p2, .ref p3, .ref p4, .ref p5, .int cn])), (p0, .inl (cI, 20, .inl lc)), (p2, .inl (cI, 300, .inl fv))] := hD
  have hr_27 : vs_29 = va_cpy fv vs (r * 15).toNatClampNeg (15 * op).toNatClampNeg (lc r.toNatClampNeg).toNatClampNeg := hr_27
  exact e_wv hx hb hr hlocks dX2_openFrame_106 hK hS ((op + 1), x_4, upd fr ((op + 1) - 1).toNatClampNeg r, upd pl ((op + 1) - 1).toNatClampNeg 0, upd gc ((op + 1) - 1).toNatClampNeg 0, upd fl ((op + 1) - 1).toNatClampNeg r_14, upd ba ((op + 1) - 1).toNatClampNeg tp, vs_29) hP hD (q_X2_openFrame_30 ho1 ho2 hcn2 hr1 hr2 hl1 hl2 hr_1 c_2 ex_4 hr_14 hr_27)

theorem q_X2_hand_g_1 {fl : Nat → Int32} {op : Int32} {k : Int32} {k2 : Int32} (ho1 : 1 ≤ op) (ho2 : op ≤ 25) (hf1 : 0 ≤ fl (op - 1).toNatClampNeg) (hf2 : fl (op - 1).toNatClampNeg ≤ 15) (hk1 : 0 ≤ k) (hk2 : k ≤ 15) (hj1 : 0 ≤ k2) (hj2 : k2 ≤ 15 - k) : vp_in op 26 := by
  exact in_of (c := 26) (by decide) (by grind [cpyk]) (by grind [cpyk])
theorem q_X2_hand_g_2 {fl : Nat → Int32} {op : Int32} {k : Int32} {k2 : Int32} (ho1 : 1 ≤ op) (ho2 : op ≤ 25) (hf1 : 0 ≤ fl (op - 1).toNatClampNeg) (hf2 : fl (op - 1).toNatClampNeg ≤ 15) (hk1 : 0 ≤ k) (hk2 : k ≤ 15) (hj1 : 0 ≤ k2) (hj2 : k2 ≤ 15 - k) : 1 ≤ op := by
  grind [cpyk]
theorem q_X2_hand_g_3 {fl : Nat → Int32} {op : Int32} {k : Int32} {k2 : Int32} (ho1 : 1 ≤ op) (ho2 : op ≤ 25) (hf1 : 0 ≤ fl (op - 1).toNatClampNeg) (hf2 : fl (op - 1).toNatClampNeg ≤ 15) (hk1 : 0 ≤ k) (hk2 : k ≤ 15) (hj1 : 0 ≤ k2) (hj2 : k2 ≤ 15 - k) : vp_in op 26 := by
  exact in_of (c := 26) (by decide) (by grind [cpyk]) (by grind [cpyk])
theorem q_X2_hand_g_5 {fl : Nat → Int32} {op : Int32} {k : Int32} {k2 : Int32} (ho1 : 1 ≤ op) (ho2 : op ≤ 25) (hf1 : 0 ≤ fl (op - 1).toNatClampNeg) (hf2 : fl (op - 1).toNatClampNeg ≤ 15) (hk1 : 0 ≤ k) (hk2 : k ≤ 15) (hj1 : 0 ≤ k2) (hj2 : k2 ≤ 15 - k) : 1 ≤ op := by
  grind [cpyk]
theorem q_X2_hand_g_8 {gc : Nat → Int32} {fl : Nat → Int32} {vs : Nat → Int32} {rwf : Nat → Int32} {op : Int32} {k : Int32} {k2 : Int32} {x_4 : Int32} {x_6 : Int32} (ho1 : 1 ≤ op) (ho2 : op ≤ 25) (hf1 : 0 ≤ fl (op - 1).toNatClampNeg) (hf2 : fl (op - 1).toNatClampNeg ≤ 15) (hk1 : 0 ≤ k) (hk2 : k ≤ 15) (hj1 : 0 ≤ k2) (hj2 : k2 ≤ 15 - k) (ex_4 : x_4 = fl (op - 1).toNatClampNeg) (ex_6 : x_6 = (if x_4 < k then x_4 else k)) (c_7 : x_6 ≤ 0) : ((upd gc (op - 1).toNatClampNeg k) = upd gc (op - 1).toNatClampNeg k) ∧ (vs = va_cpy rwf vs k2.toNatClampNeg (15 * (op - 1)).toNatClampNeg (if fl (op - 1).toNatClampNeg < k then fl (op - 1).toNatClampNeg else k).toNatClampNeg) := by
  grind [cpyk]
theorem q_X2_hand_g_10 {fl : Nat → Int32} {op : Int32} {k : Int32} {k2 : Int32} {x_4 : Int32} {x_6 : Int32} (ho1 : 1 ≤ op) (ho2 : op ≤ 25) (hf1 : 0 ≤ fl (op - 1).toNatClampNeg) (hf2 : fl (op - 1).toNatClampNeg ≤ 15) (hk1 : 0 ≤ k) (hk2 : k ≤ 15) (hj1 : 0 ≤ k2) (hj2 : k2 ≤ 15 - k) (ex_4 : x_4 = fl (op - 1).toNatClampNeg) (ex_6 : x_6 = (if x_4 < k then x_4 else k)) (c_7 : ¬ x_6 ≤ 0) (c_9 : k2 < 0) : False := by
  grind [cpyk]
theorem q_X2_hand_g_12 {fl : Nat → Int32} {op : Int32} {k : Int32} {k2 : Int32} {x_4 : Int32} {x_6 : Int32} (ho1 : 1 ≤ op) (ho2 : op ≤ 25) (hf1 : 0 ≤ fl (op - 1).toNatClampNeg) (hf2 : fl (op - 1).toNatClampNeg ≤ 15) (hk1 : 0 ≤ k) (hk2 : k ≤ 15) (hj1 : 0 ≤ k2) (hj2 : k2 ≤ 15 - k) (ex_4 : x_4 = fl (op - 1).toNatClampNeg) (ex_6 : x_6 = (if x_4 < k then x_4 else k)) (c_7 : ¬ x_6 ≤ 0) (c_9 : ¬ k2 < 0) (c_11 : (15 - x_6) < k2) : False := by
  grind [cpyk]
theorem q_X2_hand_g_13 {fl : Nat → Int32} {op : Int32} {k : Int32} {k2 : Int32} {x_4 : Int32} {x_6 : Int32} (ho1 : 1 ≤ op) (ho2 : op ≤ 25) (hf1 : 0 ≤ fl (op - 1).toNatClampNeg) (hf2 : fl (op - 1).toNatClampNeg ≤ 15) (hk1 : 0 ≤ k) (hk2 : k ≤ 15) (hj1 : 0 ≤ k2) (hj2 : k2 ≤ 15 - k) (ex_4 : x_4 = fl (op - 1).toNatClampNeg) (ex_6 : x_6 = (if x_4 < k then x_4 else k)) (c_7 : ¬ x_6 ≤ 0) (c_9 : ¬ k2 < 0) (c_11 : ¬ (15 - x_6) < k2) : ¬ k2 < 0 := by
  grind [cpyk]
theorem q_X2_hand_g_14 {fl : Nat → Int32} {op : Int32} {k : Int32} {k2 : Int32} {x_4 : Int32} {x_6 : Int32} (ho1 : 1 ≤ op) (ho2 : op ≤ 25) (hf1 : 0 ≤ fl (op - 1).toNatClampNeg) (hf2 : fl (op - 1).toNatClampNeg ≤ 15) (hk1 : 0 ≤ k) (hk2 : k ≤ 15) (hj1 : 0 ≤ k2) (hj2 : k2 ≤ 15 - k) (ex_4 : x_4 = fl (op - 1).toNatClampNeg) (ex_6 : x_6 = (if x_4 < k then x_4 else k)) (c_7 : ¬ x_6 ≤ 0) (c_9 : ¬ k2 < 0) (c_11 : ¬ (15 - x_6) < k2) : ¬ (op * 15) < 0 := by
  grind [cpyk]
theorem q_X2_hand_g_15 {fl : Nat → Int32} {op : Int32} {k : Int32} {k2 : Int32} {x_4 : Int32} {x_6 : Int32} (ho1 : 1 ≤ op) (ho2 : op ≤ 25) (hf1 : 0 ≤ fl (op - 1).toNatClampNeg) (hf2 : fl (op - 1).toNatClampNeg ≤ 15) (hk1 : 0 ≤ k) (hk2 : k ≤ 15) (hj1 : 0 ≤ k2) (hj2 : k2 ≤ 15 - k) (ex_4 : x_4 = fl (op - 1).toNatClampNeg) (ex_6 : x_6 = (if x_4 < k then x_4 else k)) (c_7 : ¬ x_6 ≤ 0) (c_9 : ¬ k2 < 0) (c_11 : ¬ (15 - x_6) < k2) : ¬ x_6 < 0 := by
  grind [cpyk]
theorem q_X2_hand_g_16 {fl : Nat → Int32} {op : Int32} {k : Int32} {k2 : Int32} {x_4 : Int32} {x_6 : Int32} (ho1 : 1 ≤ op) (ho2 : op ≤ 25) (hf1 : 0 ≤ fl (op - 1).toNatClampNeg) (hf2 : fl (op - 1).toNatClampNeg ≤ 15) (hk1 : 0 ≤ k) (hk2 : k ≤ 15) (hj1 : 0 ≤ k2) (hj2 : k2 ≤ 15 - k) (ex_4 : x_4 = fl (op - 1).toNatClampNeg) (ex_6 : x_6 = (if x_4 < k then x_4 else k)) (c_7 : ¬ x_6 ≤ 0) (c_9 : ¬ k2 < 0) (c_11 : ¬ (15 - x_6) < k2) : k2.toNatClampNeg + x_6.toNatClampNeg ≤ 15 := by
  exact cp_in (c := 15) (by decide) (by grind) (by grind) (by grind)
theorem q_X2_hand_g_17 {fl : Nat → Int32} {op : Int32} {k : Int32} {k2 : Int32} {x_4 : Int32} {x_6 : Int32} (ho1 : 1 ≤ op) (ho2 : op ≤ 25) (hf1 : 0 ≤ fl (op - 1).toNatClampNeg) (hf2 : fl (op - 1).toNatClampNeg ≤ 15) (hk1 : 0 ≤ k) (hk2 : k ≤ 15) (hj1 : 0 ≤ k2) (hj2 : k2 ≤ 15 - k) (ex_4 : x_4 = fl (op - 1).toNatClampNeg) (ex_6 : x_6 = (if x_4 < k then x_4 else k)) (c_7 : ¬ x_6 ≤ 0) (c_9 : ¬ k2 < 0) (c_11 : ¬ (15 - x_6) < k2) : (op * 15).toNatClampNeg + x_6.toNatClampNeg ≤ 390 := by
  exact cp_in (c := 390) (by decide) (by grind) (by grind) (by grind)
theorem q_X2_hand_g_18 {fl : Nat → Int32} {vs : Nat → Int32} {rwf : Nat → Int32} {op : Int32} {k : Int32} {k2 : Int32} {x_4 : Int32} {x_6 : Int32} (ho1 : 1 ≤ op) (ho2 : op ≤ 25) (hf1 : 0 ≤ fl (op - 1).toNatClampNeg) (hf2 : fl (op - 1).toNatClampNeg ≤ 15) (hk1 : 0 ≤ k) (hk2 : k ≤ 15) (hj1 : 0 ≤ k2) (hj2 : k2 ≤ 15 - k) (ex_4 : x_4 = fl (op - 1).toNatClampNeg) (ex_6 : x_6 = (if x_4 < k then x_4 else k)) (c_7 : ¬ x_6 ≤ 0) (c_9 : ¬ k2 < 0) (c_11 : ¬ (15 - x_6) < k2) : va_cpy rwf (sw vs) k2.toNatClampNeg (op * 15).toNatClampNeg x_6.toNatClampNeg = sw (va_cpy rwf vs k2.toNatClampNeg (15 * (op - 1)).toNatClampNeg x_6.toNatClampNeg) := by
  exact sw_cpy ho1 ho2
theorem q_X2_hand_g_19 {gc : Nat → Int32} {fl : Nat → Int32} {vs : Nat → Int32} {rwf : Nat → Int32} {op : Int32} {k : Int32} {k2 : Int32} {x_4 : Int32} {x_6 : Int32} (ho1 : 1 ≤ op) (ho2 : op ≤ 25) (hf1 : 0 ≤ fl (op - 1).toNatClampNeg) (hf2 : fl (op - 1).toNatClampNeg ≤ 15) (hk1 : 0 ≤ k) (hk2 : k ≤ 15) (hj1 : 0 ≤ k2) (hj2 : k2 ≤ 15 - k) (ex_4 : x_4 = fl (op - 1).toNatClampNeg) (ex_6 : x_6 = (if x_4 < k then x_4 else k)) (c_7 : ¬ x_6 ≤ 0) (c_9 : ¬ k2 < 0) (c_11 : ¬ (15 - x_6) < k2) : ((upd gc (op - 1).toNatClampNeg k) = upd gc (op - 1).toNatClampNeg k) ∧ ((va_cpy rwf vs k2.toNatClampNeg (15 * (op - 1)).toNatClampNeg x_6.toNatClampNeg) = va_cpy rwf vs k2.toNatClampNeg (15 * (op - 1)).toNatClampNeg (if fl (op - 1).toNatClampNeg < k then fl (op - 1).toNatClampNeg else k).toNatClampNeg) := by
  grind [cpyk]
set_option maxHeartbeats 4000000 in
set_option maxRecDepth 100000 in
theorem c_X2_hand_g (l : Launch) (dC : Nat → ClassId) (dI : Nat → Nat → Nat) (cI : ClassId) (sz : Nat) (aF : Nat) (rw : Nat) (f0 : Nat) (f1 : Nat) (f2 : Nat) (f3 : Nat) (f4 : Nat) (f5 : Nat) (f6 : Nat) (gc : Nat → Int32) (fl : Nat → Int32) (vs : Nat → Int32) (rwf : Nat → Int32) (op : Int32) (mx : Int32) (tp : Int32) (k : Int32) (k2 : Int32) (ho1 : 1 ≤ op) (ho2 : op ≤ 25) (hf1 : 0 ≤ fl (op - 1).toNatClampNeg) (hf2 : fl (op - 1).toNatClampNeg ≤ 15) (hk1 : 0 ≤ k) (hk2 : k ≤ 15) (hj1 : 0 ≤ k2) (hj2 : k2 ≤ 15 - k) : mWv l yX2_hand wsX2_hand ({ frames := 1, cells := 0, slots := 0, locals := 18 }) [.ref aF, .ref rw, .int k2, .int k] (dC, dI) [(cI, .int)] [(aF, .inr (0, [.ref f0, .ref f1, .ref f2, .ref f3, .ref f4, .ref f5, .ref f6, .int op, .int mx, .int tp])), (f2, .inl (cI, 26, .inl (sh gc))), (f3, .inl (cI, 26, .inl (sh fl))), (f5, .inl (cI, 390, .inl (sw vs))), (rw, .inl (cI, 15, .inl rwf))] sz (fun u : (Nat → Int32) × (Nat → Int32) => (u.1 = upd gc (op - 1).toNatClampNeg k) ∧ (u.2 = va_cpy rwf vs k2.toNatClampNeg (15 * (op - 1)).toNatClampNeg (if fl (op - 1).toNatClampNeg < k then fl (op - 1).toNatClampNeg else k).toNatClampNeg)) (fun u : (Nat → Int32) × (Nat → Int32) => [(aF, .inr (0, [.ref f0, .ref f1, .ref f2, .ref f3, .ref f4, .ref f5, .ref f6, .int op, .int mx, .int tp])), (f2, .inl (cI, 26, .inl (sh u.1))), (f3, .inl (cI, 26, .inl (sh fl))), (f5, .inl (cI, 390, .inl (sw u.2))), (rw, .inl (cI, 15, .inl rwf))]) := by
  refine o_wv (cc := cX2_hand) (maxL := 5) (ret := none) (by decide) rfl (Nat.le_of_ble_eq_true rfl) ?_
  intro p e s m below meth c ls A hx hb hr hml hts hown hlocks hP hK hD hS hA hl
  have hown : s.vm.findClass RX2 = some m.cls := hown
  have hl : lv_has ls 5 [(0, .ref aF), (1, .ref rw), (2, .int k2), (3, .int k)] := hl
  have k_1 := hts (.fieldLink RX2 18 "ZRoutines$Frames" "givenCounts" "[I") (List.mem_of_getElem? (i := 1) rfl)
  have k_2 := hts (.fieldLink RX2 33 "ZRoutines$Frames" "open" "I") (List.mem_of_getElem? (i := 2) rfl)
  have k_3 := hts (.fieldLink RX2 21 "ZRoutines$Frames" "localCounts" "[I") (List.mem_of_getElem? (i := 3) rfl)
  have k_4 := hts (.methodLink RX2 63 Lib.Math.min.name) (List.mem_of_getElem? (i := 4) rfl)
  have k_5 := hts (.static Lib.Math.min.name) (List.mem_of_getElem? (i := 5) rfl)
  have k_6 := hts (.initialized "java/lang/Math") (List.mem_of_getElem? (i := 6) rfl)
  have k_7 := hts (.code Lib.Math.min.name Lib.Math.min.code 2 (some .int)) (List.mem_of_getElem? (i := 7) rfl)
  have k_8 := hts (.fieldLink RX2 27 "ZRoutines$Frames" "locals" "[I") (List.mem_of_getElem? (i := 8) rfl)
  have k_9 := hts (.methodLink RX2 66 arraycopyName) (List.mem_of_getElem? (i := 9) rfl)
  have k_10 := hts (.native arraycopyName) (List.mem_of_getElem? (i := 10) rfl)
  have k_11 := hts (.static arraycopyName) (List.mem_of_getElem? (i := 11) rfl)
  have k_12 := hts (.initialized "java/lang/System") (List.mem_of_getElem? (i := 12) rfl)
  have i_X2 : ∀ w ∈ u_ws RX2 TX2 10, w ∈ wsX2_hand := fun _ h => List.mem_cons_of_mem _ (List.mem_append_right _ h)
  refine lv_aload_n hx hb dX2_hand_0 rfl (lv_at hl 0 rfl) ?_
  refine va_get (D := (dC, dI)) (ci := 0) (v := .ref f2) (C := RX2) (T := TX2) (N := 10) hx hb hts i_X2 hown hK hP 0 rfl rfl 2 (by decide) k_1 (fun _ h9 => h9) rfl dX2_hand_1 ?_
  refine lv_aload_n hx hb dX2_hand_4 rfl (lv_at hl 0 rfl) ?_
  refine va_get (D := (dC, dI)) (ci := 0) (v := .int op) (C := RX2) (T := TX2) (N := 10) hx hb hts i_X2 hown hK hP 0 rfl rfl 7 (by decide) k_2 (fun _ h9 => h9) rfl dX2_hand_5 ?_
  refine lv_iload_n hx hb dX2_hand_8 rfl (lv_at hl 3 rfl) ?_
  refine va_iast hx hb hK hP hD hS 1 0 rfl rfl (q_X2_hand_g_1 ho1 ho2 hf1 hf2 hk1 hk2 hj1 hj2) dX2_hand_9 (fun H locs hP hD hS => ?_)
  have hP : va_P (dC, dI) vwCl [(aF, .inr (0, [.ref f0, .ref f1, .ref f2, .ref f3, .ref f4, .ref f5, .ref f6, .int op, .int mx, .int tp])), (f2, .inl (cI, 26, .inl (upd (sh gc) op.toNatClampNeg k))), (f3, .inl (cI, 26, .inl (sh fl))), (f5, .inl (cI, 390, .inl (sw vs))), (rw, .inl (cI, 15, .inl rwf))] H := hP
  have hD : va_D A [(aF, .inr (0, [.ref f0, .ref f1, .ref f2, .ref f3, .ref f4, .ref f5, .ref f6, .int op, .int mx, .int tp])), (f2, .inl (cI, 26, .inl (upd (sh gc) op.toNatClampNeg k))), (f3, .inl (cI, 26, .inl (sh fl))), (f5, .inl (cI, 390, .inl (sw vs))), (rw, .inl (cI, 15, .inl rwf))] := hD
  rw [sh_upd (q_X2_hand_g_2 ho1 ho2 hf1 hf2 hk1 hk2 hj1 hj2)] at hP hD
  have hP : va_P (dC, dI) vwCl [(aF, .inr (0, [.ref f0, .ref f1, .ref f2, .ref f3, .ref f4, .ref f5, .ref f6, .int op, .int mx, .int tp])), (f2, .inl (cI, 26, .inl (sh (upd gc (op - 1).toNatClampNeg k)))), (f3, .inl (cI, 26, .inl (sh fl))), (f5, .inl (cI, 390, .inl (sw vs))), (rw, .inl (cI, 15, .inl rwf))] H := hP
  have hD : va_D A [(aF, .inr (0, [.ref f0, .ref f1, .ref f2, .ref f3, .ref f4, .ref f5, .ref f6, .int op, .int mx, .int tp])), (f2, .inl (cI, 26, .inl (sh (upd gc (op - 1).toNatClampNeg k)))), (f3, .inl (cI, 26, .inl (sh fl))), (f5, .inl (cI, 390, .inl (sw vs))), (rw, .inl (cI, 15, .inl rwf))] := hD
  refine lv_iload_n hx hb dX2_hand_10 rfl (lv_at hl 3 rfl) ?_
  refine lv_aload_n hx hb dX2_hand_11 rfl (lv_at hl 0 rfl) ?_
  refine va_get (D := (dC, dI)) (ci := 0) (v := .ref f3) (C := RX2) (T := TX2) (N := 10) hx hb hts i_X2 hown hK hP 0 rfl rfl 3 (by decide) k_3 (fun _ h9 => h9) rfl dX2_hand_12 ?_
  refine lv_aload_n hx hb dX2_hand_15 rfl (lv_at hl 0 rfl) ?_
  refine va_get (D := (dC, dI)) (ci := 0) (v := .int op) (C := RX2) (T := TX2) (N := 10) hx hb hts i_X2 hown hK hP 0 rfl rfl 7 (by decide) k_2 (fun _ h9 => h9) rfl dX2_hand_16 ?_
  refine va_iald hx hb hK hP 2 0 rfl rfl (q_X2_hand_g_3 ho1 ho2 hf1 hf2 hk1 hk2 hj1 hj2) dX2_hand_19 ?_
  refine lv_topi (fun x_4 ex_4 => ?_)
  have ex_4 : x_4 = fl (op - 1).toNatClampNeg := ex_4.trans (sh_at (q_X2_hand_g_5 ho1 ho2 hf1 hf2 hk1 hk2 hj1 hj2))
  refine va_mmin hx hb (hml.trans hl.1.symm) hown k_4 k_5 k_6 k_7 (Nat.le_of_ble_eq_true rfl) (Nat.le_of_ble_eq_true rfl) (Nat.zero_le _) (Nat.zero_le _) dX2_hand_20 ?_
  refine lv_topi (fun x_6 ex_6 => ?_)
  refine lv_istore (lv' := [(4, .int x_6), (0, .ref aF), (1, .ref rw), (2, .int k2), (3, .int k)]) hx hb dX2_hand_23 hl (by decide) rfl (fun ls hl => ?_)
  refine lv_iload hx hb dX2_hand_25 (lv_at hl 0 rfl) ?_
  refine lv_if_le (tgt := 61) hx hb dX2_hand_27 (by decide) (fun c_7 => ?_) (fun c_7 => ?_)
  · skip
    exact e_wv hx hb hr hlocks dX2_hand_61 hK hS (upd gc (op - 1).toNatClampNeg k, vs) hP hD (q_X2_hand_g_8 ho1 ho2 hf1 hf2 hk1 hk2 hj1 hj2 ex_4 ex_6 c_7)
  · skip
    refine lv_iload_n hx hb dX2_hand_30 rfl (lv_at hl 3 rfl) ?_
    refine lv_if_lt (tgt := 61) hx hb dX2_hand_31 (by decide) (fun c_9 => False.elim (q_X2_hand_g_10 ho1 ho2 hf1 hf2 hk1 hk2 hj1 hj2 ex_4 ex_6 c_7 c_9)) (fun c_9 => ?_)
    refine lv_iload_n hx hb dX2_hand_34 rfl (lv_at hl 3 rfl) ?_
    refine lv_aload_n hx hb dX2_hand_35 rfl (lv_at hl 2 rfl) ?_
    refine va_alen hx hb hK hP 4 0 rfl rfl (v := 15) (show Int32.ofNat 15 = 15 by decide) dX2_hand_36 ?_
    refine lv_iload hx hb dX2_hand_37 (lv_at hl 0 rfl) ?_
    refine lv_isub hx hb dX2_hand_39 ?_
    refine lv_icmp_gt (tgt := 61) hx hb dX2_hand_40 (by decide) (fun c_11 => False.elim (q_X2_hand_g_12 ho1 ho2 hf1 hf2 hk1 hk2 hj1 hj2 ex_4 ex_6 c_7 c_9 c_11)) (fun c_11 => ?_)
    refine lv_aload_n hx hb dX2_hand_43 rfl (lv_at hl 2 rfl) ?_
    refine lv_iload_n hx hb dX2_hand_44 rfl (lv_at hl 3 rfl) ?_
    refine lv_aload_n hx hb dX2_hand_45 rfl (lv_at hl 1 rfl) ?_
    refine va_get (D := (dC, dI)) (ci := 0) (v := .ref f5) (C := RX2) (T := TX2) (N := 10) hx hb hts i_X2 hown hK hP 0 rfl rfl 5 (by decide) k_8 (fun _ h9 => h9) rfl dX2_hand_46 ?_
    refine lv_aload_n hx hb dX2_hand_49 rfl (lv_at hl 1 rfl) ?_
    refine va_get (D := (dC, dI)) (ci := 0) (v := .int op) (C := RX2) (T := TX2) (N := 10) hx hb hts i_X2 hown hK hP 0 rfl rfl 7 (by decide) k_2 (fun _ h9 => h9) rfl dX2_hand_50 ?_
    refine lv_bipush (v := 15) hx hb dX2_hand_53 (by decide) ?_
    refine lv_imul hx hb dX2_hand_55 ?_
    refine lv_iload hx hb dX2_hand_56 (lv_at hl 0 rfl) ?_
    refine va_copyi hx hb (hml.trans hl.1.symm) hown k_9 k_10 k_11 k_12 hK hP hD hS 4 3 0 0 rfl rfl rfl rfl rfl (q_X2_hand_g_13 ho1 ho2 hf1 hf2 hk1 hk2 hj1 hj2 ex_4 ex_6 c_7 c_9 c_11) (q_X2_hand_g_14 ho1 ho2 hf1 hf2 hk1 hk2 hj1 hj2 ex_4 ex_6 c_7 c_9 c_11) (q_X2_hand_g_15 ho1 ho2 hf1 hf2 hk1 hk2 hj1 hj2 ex_4 ex_6 c_7 c_9 c_11) (q_X2_hand_g_16 ho1 ho2 hf1 hf2 hk1 hk2 hj1 hj2 ex_4 ex_6 c_7 c_9 c_11) (q_X2_hand_g_17 ho1 ho2 hf1 hf2 hk1 hk2 hj1 hj2 ex_4 ex_6 c_7 c_9 c_11) (fun _ _ => rfl) (Nat.le_of_ble_eq_true rfl) (Nat.le_of_ble_eq_true rfl) dX2_hand_58 (fun H locs hP hD hS => ?_)
    have hP : va_P (dC, dI) vwCl [(aF, .inr (0, [.ref f0, .ref f1, .ref f2, .ref f3, .ref f4, .ref f5, .ref f6, .int op, .int mx, .int tp])), (f2, .inl (cI, 26, .inl (sh (upd gc (op - 1).toNatClampNeg k)))), (f3, .inl (cI, 26, .inl (sh fl))), (f5, .inl (cI, 390, .inl (va_cpy rwf (sw vs) k2.toNatClampNeg (op * 15).toNatClampNeg x_6.toNatClampNeg))), (rw, .inl (cI, 15, .inl rwf))] H := hP
    have hD : va_D A [(aF, .inr (0, [.ref f0, .ref f1, .ref f2, .ref f3, .ref f4, .ref f5, .ref f6, .int op, .int mx, .int tp])), (f2, .inl (cI, 26, .inl (sh (upd gc (op - 1).toNatClampNeg k)))), (f3, .inl (cI, 26, .inl (sh fl))), (f5, .inl (cI, 390, .inl (va_cpy rwf (sw vs) k2.toNatClampNeg (op * 15).toNatClampNeg x_6.toNatClampNeg))), (rw, .inl (cI, 15, .inl rwf))] := hD
    rw [(q_X2_hand_g_18 ho1 ho2 hf1 hf2 hk1 hk2 hj1 hj2 ex_4 ex_6 c_7 c_9 c_11)] at hP hD
    have hP : va_P (dC, dI) vwCl [(aF, .inr (0, [.ref f0, .ref f1, .ref f2, .ref f3, .ref f4, .ref f5, .ref f6, .int op, .int mx, .int tp])), (f2, .inl (cI, 26, .inl (sh (upd gc (op - 1).toNatClampNeg k)))), (f3, .inl (cI, 26, .inl (sh fl))), (f5, .inl (cI, 390, .inl (sw (va_cpy rwf vs k2.toNatClampNeg (15 * (op - 1)).toNatClampNeg x_6.toNatClampNeg)))), (rw, .inl (cI, 15, .inl rwf))] H := hP
    have hD : va_D A [(aF, .inr (0, [.ref f0, .ref f1, .ref f2, .ref f3, .ref f4, .ref f5, .ref f6, .int op, .int mx, .int tp])), (f2, .inl (cI, 26, .inl (sh (upd gc (op - 1).toNatClampNeg k)))), (f3, .inl (cI, 26, .inl (sh fl))), (f5, .inl (cI, 390, .inl (sw (va_cpy rwf vs k2.toNatClampNeg (15 * (op - 1)).toNatClampNeg x_6.toNatClampNeg)))), (rw, .inl (cI, 15, .inl rwf))] := hD
    exact e_wv hx hb hr hlocks dX2_hand_61 hK hS (upd gc (op - 1).toNatClampNeg k, va_cpy rwf vs k2.toNatClampNeg (15 * (op - 1)).toNatClampNeg x_6.toNatClampNeg) hP hD (q_X2_hand_g_19 ho1 ho2 hf1 hf2 hk1 hk2 hj1 hj2 ex_4 ex_6 c_7 c_9 c_11)

theorem q_X2_hand_1 {fl : Nat → Int32} {op : Int32} {k : Int32} {k2 : Int32} (ho1 : 1 ≤ op) (ho2 : op ≤ 25) (hf1 : 0 ≤ fl (op - 1).toNatClampNeg) (hf2 : fl (op - 1).toNatClampNeg ≤ 15) (hk1 : 0 ≤ k) (hk2 : k ≤ 15) (hj1 : 0 ≤ k2) (hj2 : k2 ≤ 60 - k) : vp_in op 26 := by
  exact in_of (c := 26) (by decide) (by grind [cpyk]) (by grind [cpyk])
theorem q_X2_hand_2 {fl : Nat → Int32} {op : Int32} {k : Int32} {k2 : Int32} (ho1 : 1 ≤ op) (ho2 : op ≤ 25) (hf1 : 0 ≤ fl (op - 1).toNatClampNeg) (hf2 : fl (op - 1).toNatClampNeg ≤ 15) (hk1 : 0 ≤ k) (hk2 : k ≤ 15) (hj1 : 0 ≤ k2) (hj2 : k2 ≤ 60 - k) : 1 ≤ op := by
  grind [cpyk]
theorem q_X2_hand_3 {fl : Nat → Int32} {op : Int32} {k : Int32} {k2 : Int32} (ho1 : 1 ≤ op) (ho2 : op ≤ 25) (hf1 : 0 ≤ fl (op - 1).toNatClampNeg) (hf2 : fl (op - 1).toNatClampNeg ≤ 15) (hk1 : 0 ≤ k) (hk2 : k ≤ 15) (hj1 : 0 ≤ k2) (hj2 : k2 ≤ 60 - k) : vp_in op 26 := by
  exact in_of (c := 26) (by decide) (by grind [cpyk]) (by grind [cpyk])
theorem q_X2_hand_5 {fl : Nat → Int32} {op : Int32} {k : Int32} {k2 : Int32} (ho1 : 1 ≤ op) (ho2 : op ≤ 25) (hf1 : 0 ≤ fl (op - 1).toNatClampNeg) (hf2 : fl (op - 1).toNatClampNeg ≤ 15) (hk1 : 0 ≤ k) (hk2 : k ≤ 15) (hj1 : 0 ≤ k2) (hj2 : k2 ≤ 60 - k) : 1 ≤ op := by
  grind [cpyk]
theorem q_X2_hand_8 {gc : Nat → Int32} {fl : Nat → Int32} {vs : Nat → Int32} {rwf : Nat → Int32} {op : Int32} {k : Int32} {k2 : Int32} {x_4 : Int32} {x_6 : Int32} (ho1 : 1 ≤ op) (ho2 : op ≤ 25) (hf1 : 0 ≤ fl (op - 1).toNatClampNeg) (hf2 : fl (op - 1).toNatClampNeg ≤ 15) (hk1 : 0 ≤ k) (hk2 : k ≤ 15) (hj1 : 0 ≤ k2) (hj2 : k2 ≤ 60 - k) (ex_4 : x_4 = fl (op - 1).toNatClampNeg) (ex_6 : x_6 = (if x_4 < k then x_4 else k)) (c_7 : x_6 ≤ 0) : ((upd gc (op - 1).toNatClampNeg k) = upd gc (op - 1).toNatClampNeg k) ∧ (vs = va_cpy rwf vs k2.toNatClampNeg (15 * (op - 1)).toNatClampNeg (if fl (op - 1).toNatClampNeg < k then fl (op - 1).toNatClampNeg else k).toNatClampNeg) := by
  grind [cpyk]
theorem q_X2_hand_10 {fl : Nat → Int32} {op : Int32} {k : Int32} {k2 : Int32} {x_4 : Int32} {x_6 : Int32} (ho1 : 1 ≤ op) (ho2 : op ≤ 25) (hf1 : 0 ≤ fl (op - 1).toNatClampNeg) (hf2 : fl (op - 1).toNatClampNeg ≤ 15) (hk1 : 0 ≤ k) (hk2 : k ≤ 15) (hj1 : 0 ≤ k2) (hj2 : k2 ≤ 60 - k) (ex_4 : x_4 = fl (op - 1).toNatClampNeg) (ex_6 : x_6 = (if x_4 < k then x_4 else k)) (c_7 : ¬ x_6 ≤ 0) (c_9 : k2 < 0) : False := by
  grind [cpyk]
theorem q_X2_hand_12 {fl : Nat → Int32} {op : Int32} {k : Int32} {k2 : Int32} {x_4 : Int32} {x_6 : Int32} (ho1 : 1 ≤ op) (ho2 : op ≤ 25) (hf1 : 0 ≤ fl (op - 1).toNatClampNeg) (hf2 : fl (op - 1).toNatClampNeg ≤ 15) (hk1 : 0 ≤ k) (hk2 : k ≤ 15) (hj1 : 0 ≤ k2) (hj2 : k2 ≤ 60 - k) (ex_4 : x_4 = fl (op - 1).toNatClampNeg) (ex_6 : x_6 = (if x_4 < k then x_4 else k)) (c_7 : ¬ x_6 ≤ 0) (c_9 : ¬ k2 < 0) (c_11 : (60 - x_6) < k2) : False := by
  grind [cpyk]
theorem q_X2_hand_13 {fl : Nat → Int32} {op : Int32} {k : Int32} {k2 : Int32} {x_4 : Int32} {x_6 : Int32} (ho1 : 1 ≤ op) (ho2 : op ≤ 25) (hf1 : 0 ≤ fl (op - 1).toNatClampNeg) (hf2 : fl (op - 1).toNatClampNeg ≤ 15) (hk1 : 0 ≤ k) (hk2 : k ≤ 15) (hj1 : 0 ≤ k2) (hj2 : k2 ≤ 60 - k) (ex_4 : x_4 = fl (op - 1).toNatClampNeg) (ex_6 : x_6 = (if x_4 < k then x_4 else k)) (c_7 : ¬ x_6 ≤ 0) (c_9 : ¬ k2 < 0) (c_11 : ¬ (60 - x_6) < k2) : ¬ k2 < 0 := by
  grind [cpyk]
theorem q_X2_hand_14 {fl : Nat → Int32} {op : Int32} {k : Int32} {k2 : Int32} {x_4 : Int32} {x_6 : Int32} (ho1 : 1 ≤ op) (ho2 : op ≤ 25) (hf1 : 0 ≤ fl (op - 1).toNatClampNeg) (hf2 : fl (op - 1).toNatClampNeg ≤ 15) (hk1 : 0 ≤ k) (hk2 : k ≤ 15) (hj1 : 0 ≤ k2) (hj2 : k2 ≤ 60 - k) (ex_4 : x_4 = fl (op - 1).toNatClampNeg) (ex_6 : x_6 = (if x_4 < k then x_4 else k)) (c_7 : ¬ x_6 ≤ 0) (c_9 : ¬ k2 < 0) (c_11 : ¬ (60 - x_6) < k2) : ¬ (op * 15) < 0 := by
  grind [cpyk]
theorem q_X2_hand_15 {fl : Nat → Int32} {op : Int32} {k : Int32} {k2 : Int32} {x_4 : Int32} {x_6 : Int32} (ho1 : 1 ≤ op) (ho2 : op ≤ 25) (hf1 : 0 ≤ fl (op - 1).toNatClampNeg) (hf2 : fl (op - 1).toNatClampNeg ≤ 15) (hk1 : 0 ≤ k) (hk2 : k ≤ 15) (hj1 : 0 ≤ k2) (hj2 : k2 ≤ 60 - k) (ex_4 : x_4 = fl (op - 1).toNatClampNeg) (ex_6 : x_6 = (if x_4 < k then x_4 else k)) (c_7 : ¬ x_6 ≤ 0) (c_9 : ¬ k2 < 0) (c_11 : ¬ (60 - x_6) < k2) : ¬ x_6 < 0 := by
  grind [cpyk]
theorem q_X2_hand_16 {fl : Nat → Int32} {op : Int32} {k : Int32} {k2 : Int32} {x_4 : Int32} {x_6 : Int32} (ho1 : 1 ≤ op) (ho2 : op ≤ 25) (hf1 : 0 ≤ fl (op - 1).toNatClampNeg) (hf2 : fl (op - 1).toNatClampNeg ≤ 15) (hk1 : 0 ≤ k) (hk2 : k ≤ 15) (hj1 : 0 ≤ k2) (hj2 : k2 ≤ 60 - k) (ex_4 : x_4 = fl (op - 1).toNatClampNeg) (ex_6 : x_6 = (if x_4 < k then x_4 else k)) (c_7 : ¬ x_6 ≤ 0) (c_9 : ¬ k2 < 0) (c_11 : ¬ (60 - x_6) < k2) : k2.toNatClampNeg + x_6.toNatClampNeg ≤ 60 := by
  exact cp_in (c := 60) (by decide) (by grind) (by grind) (by grind)
theorem q_X2_hand_17 {fl : Nat → Int32} {op : Int32} {k : Int32} {k2 : Int32} {x_4 : Int32} {x_6 : Int32} (ho1 : 1 ≤ op) (ho2 : op ≤ 25) (hf1 : 0 ≤ fl (op - 1).toNatClampNeg) (hf2 : fl (op - 1).toNatClampNeg ≤ 15) (hk1 : 0 ≤ k) (hk2 : k ≤ 15) (hj1 : 0 ≤ k2) (hj2 : k2 ≤ 60 - k) (ex_4 : x_4 = fl (op - 1).toNatClampNeg) (ex_6 : x_6 = (if x_4 < k then x_4 else k)) (c_7 : ¬ x_6 ≤ 0) (c_9 : ¬ k2 < 0) (c_11 : ¬ (60 - x_6) < k2) : (op * 15).toNatClampNeg + x_6.toNatClampNeg ≤ 390 := by
  exact cp_in (c := 390) (by decide) (by grind) (by grind) (by grind)
theorem q_X2_hand_18 {fl : Nat → Int32} {vs : Nat → Int32} {rwf : Nat → Int32} {op : Int32} {k : Int32} {k2 : Int32} {x_4 : Int32} {x_6 : Int32} (ho1 : 1 ≤ op) (ho2 : op ≤ 25) (hf1 : 0 ≤ fl (op - 1).toNatClampNeg) (hf2 : fl (op - 1).toNatClampNeg ≤ 15) (hk1 : 0 ≤ k) (hk2 : k ≤ 15) (hj1 : 0 ≤ k2) (hj2 : k2 ≤ 60 - k) (ex_4 : x_4 = fl (op - 1).toNatClampNeg) (ex_6 : x_6 = (if x_4 < k then x_4 else k)) (c_7 : ¬ x_6 ≤ 0) (c_9 : ¬ k2 < 0) (c_11 : ¬ (60 - x_6) < k2) : va_cpy rwf (sw vs) k2.toNatClampNeg (op * 15).toNatClampNeg x_6.toNatClampNeg = sw (va_cpy rwf vs k2.toNatClampNeg (15 * (op - 1)).toNatClampNeg x_6.toNatClampNeg) := by
  exact sw_cpy ho1 ho2
theorem q_X2_hand_19 {gc : Nat → Int32} {fl : Nat → Int32} {vs : Nat → Int32} {rwf : Nat → Int32} {op : Int32} {k : Int32} {k2 : Int32} {x_4 : Int32} {x_6 : Int32} (ho1 : 1 ≤ op) (ho2 : op ≤ 25) (hf1 : 0 ≤ fl (op - 1).toNatClampNeg) (hf2 : fl (op - 1).toNatClampNeg ≤ 15) (hk1 : 0 ≤ k) (hk2 : k ≤ 15) (hj1 : 0 ≤ k2) (hj2 : k2 ≤ 60 - k) (ex_4 : x_4 = fl (op - 1).toNatClampNeg) (ex_6 : x_6 = (if x_4 < k then x_4 else k)) (c_7 : ¬ x_6 ≤ 0) (c_9 : ¬ k2 < 0) (c_11 : ¬ (60 - x_6) < k2) : ((upd gc (op - 1).toNatClampNeg k) = upd gc (op - 1).toNatClampNeg k) ∧ ((va_cpy rwf vs k2.toNatClampNeg (15 * (op - 1)).toNatClampNeg x_6.toNatClampNeg) = va_cpy rwf vs k2.toNatClampNeg (15 * (op - 1)).toNatClampNeg (if fl (op - 1).toNatClampNeg < k then fl (op - 1).toNatClampNeg else k).toNatClampNeg) := by
  grind [cpyk]
set_option maxHeartbeats 4000000 in
set_option maxRecDepth 100000 in
theorem c_X2_hand (l : Launch) (dC : Nat → ClassId) (dI : Nat → Nat → Nat) (cI : ClassId) (sz : Nat) (aF : Nat) (rw : Nat) (f0 : Nat) (f1 : Nat) (f2 : Nat) (f3 : Nat) (f4 : Nat) (f5 : Nat) (f6 : Nat) (gc : Nat → Int32) (fl : Nat → Int32) (vs : Nat → Int32) (rwf : Nat → Int32) (op : Int32) (mx : Int32) (tp : Int32) (k : Int32) (k2 : Int32) (ho1 : 1 ≤ op) (ho2 : op ≤ 25) (hf1 : 0 ≤ fl (op - 1).toNatClampNeg) (hf2 : fl (op - 1).toNatClampNeg ≤ 15) (hk1 : 0 ≤ k) (hk2 : k ≤ 15) (hj1 : 0 ≤ k2) (hj2 : k2 ≤ 60 - k) : mWv l yX2_hand wsX2_hand ({ frames := 1, cells := 0, slots := 0, locals := 18 }) [.ref aF, .ref rw, .int k2, .int k] (dC, dI) [(cI, .int)] [(aF, .inr (0, [.ref f0, .ref f1, .ref f2, .ref f3, .ref f4, .ref f5, .ref f6, .int op, .int mx, .int tp])), (f2, .inl (cI, 26, .inl (sh gc))), (f3, .inl (cI, 26, .inl (sh fl))), (f5, .inl (cI, 390, .inl (sw vs))), (rw, .inl (cI, 60, .inl rwf))] sz (fun u : (Nat → Int32) × (Nat → Int32) => (u.1 = upd gc (op - 1).toNatClampNeg k) ∧ (u.2 = va_cpy rwf vs k2.toNatClampNeg (15 * (op - 1)).toNatClampNeg (if fl (op - 1).toNatClampNeg < k then fl (op - 1).toNatClampNeg else k).toNatClampNeg)) (fun u : (Nat → Int32) × (Nat → Int32) => [(aF, .inr (0, [.ref f0, .ref f1, .ref f2, .ref f3, .ref f4, .ref f5, .ref f6, .int op, .int mx, .int tp])), (f2, .inl (cI, 26, .inl (sh u.1))), (f3, .inl (cI, 26, .inl (sh fl))), (f5, .inl (cI, 390, .inl (sw u.2))), (rw, .inl (cI, 60, .inl rwf))]) := by
  refine o_wv (cc := cX2_hand) (maxL := 5) (ret := none) (by decide) rfl (Nat.le_of_ble_eq_true rfl) ?_
  intro p e s m below meth c ls A hx hb hr hml hts hown hlocks hP hK hD hS hA hl
  have hown : s.vm.findClass RX2 = some m.cls := hown
  have hl : lv_has ls 5 [(0, .ref aF), (1, .ref rw), (2, .int k2), (3, .int k)] := hl
  have k_1 := hts (.fieldLink RX2 18 "ZRoutines$Frames" "givenCounts" "[I") (List.mem_of_getElem? (i := 1) rfl)
  have k_2 := hts (.fieldLink RX2 33 "ZRoutines$Frames" "open" "I") (List.mem_of_getElem? (i := 2) rfl)
  have k_3 := hts (.fieldLink RX2 21 "ZRoutines$Frames" "localCounts" "[I") (List.mem_of_getElem? (i := 3) rfl)
  have k_4 := hts (.methodLink RX2 63 Lib.Math.min.name) (List.mem_of_getElem? (i := 4) rfl)
  have k_5 := hts (.static Lib.Math.min.name) (List.mem_of_getElem? (i := 5) rfl)
  have k_6 := hts (.initialized "java/lang/Math") (List.mem_of_getElem? (i := 6) rfl)
  have k_7 := hts (.code Lib.Math.min.name Lib.Math.min.code 2 (some .int)) (List.mem_of_getElem? (i := 7) rfl)
  have k_8 := hts (.fieldLink RX2 27 "ZRoutines$Frames" "locals" "[I") (List.mem_of_getElem? (i := 8) rfl)
  have k_9 := hts (.methodLink RX2 66 arraycopyName) (List.mem_of_getElem? (i := 9) rfl)
  have k_10 := hts (.native arraycopyName) (List.mem_of_getElem? (i := 10) rfl)
  have k_11 := hts (.static arraycopyName) (List.mem_of_getElem? (i := 11) rfl)
  have k_12 := hts (.initialized "java/lang/System") (List.mem_of_getElem? (i := 12) rfl)
  have i_X2 : ∀ w ∈ u_ws RX2 TX2 10, w ∈ wsX2_hand := fun _ h => List.mem_cons_of_mem _ (List.mem_append_right _ h)
  refine lv_aload_n hx hb dX2_hand_0 rfl (lv_at hl 0 rfl) ?_
  refine va_get (D := (dC, dI)) (ci := 0) (v := .ref f2) (C := RX2) (T := TX2) (N := 10) hx hb hts i_X2 hown hK hP 0 rfl rfl 2 (by decide) k_1 (fun _ h9 => h9) rfl dX2_hand_1 ?_
  refine lv_aload_n hx hb dX2_hand_4 rfl (lv_at hl 0 rfl) ?_
  refine va_get (D := (dC, dI)) (ci := 0) (v := .int op) (C := RX2) (T := TX2) (N := 10) hx hb hts i_X2 hown hK hP 0 rfl rfl 7 (by decide) k_2 (fun _ h9 => h9) rfl dX2_hand_5 ?_
  refine lv_iload_n hx hb dX2_hand_8 rfl (lv_at hl 3 rfl) ?_
  refine va_iast hx hb hK hP hD hS 1 0 rfl rfl (q_X2_hand_1 ho1 ho2 hf1 hf2 hk1 hk2 hj1 hj2) dX2_hand_9 (fun H locs hP hD hS => ?_)
  have hP : va_P (dC, dI) vwCl [(aF, .inr (0, [.ref f0, .ref f1, .ref f2, .ref f3, .ref f4, .ref f5, .ref f6, .int op, .int mx, .int tp])), (f2, .inl (cI, 26, .inl (upd (sh gc) op.toNatClampNeg k))), (f3, .inl (cI, 26, .inl (sh fl))), (f5, .inl (cI, 390, .inl (sw vs))), (rw, .inl (cI, 60, .inl rwf))] H := hP
  have hD : va_D A [(aF, .inr (0, [.ref f0, .ref f1, .ref f2, .ref f3, .ref f4, .ref f5, .ref f6, .int op, .int mx, .int tp])), (f2, .inl (cI, 26, .inl (upd (sh gc) op.toNatClampNeg k))), (f3, .inl (cI, 26, .inl (sh fl))), (f5, .inl (cI, 390, .inl (sw vs))), (rw, .inl (cI, 60, .inl rwf))] := hD
  rw [sh_upd (q_X2_hand_2 ho1 ho2 hf1 hf2 hk1 hk2 hj1 hj2)] at hP hD
  have hP : va_P (dC, dI) vwCl [(aF, .inr (0, [.ref f0, .ref f1, .ref f2, .ref f3, .ref f4, .ref f5, .ref f6, .int op, .int mx, .int tp])), (f2, .inl (cI, 26, .inl (sh (upd gc (op - 1).toNatClampNeg k)))), (f3, .inl (cI, 26, .inl (sh fl))), (f5, .inl (cI, 390, .inl (sw vs))), (rw, .inl (cI, 60, .inl rwf))] H := hP
  have hD : va_D A [(aF, .inr (0, [.ref f0, .ref f1, .ref f2, .ref f3, .ref f4, .ref f5, .ref f6, .int op, .int mx, .int tp])), (f2, .inl (cI, 26, .inl (sh (upd gc (op - 1).toNatClampNeg k)))), (f3, .inl (cI, 26, .inl (sh fl))), (f5, .inl (cI, 390, .inl (sw vs))), (rw, .inl (cI, 60, .inl rwf))] := hD
  refine lv_iload_n hx hb dX2_hand_10 rfl (lv_at hl 3 rfl) ?_
  refine lv_aload_n hx hb dX2_hand_11 rfl (lv_at hl 0 rfl) ?_
  refine va_get (D := (dC, dI)) (ci := 0) (v := .ref f3) (C := RX2) (T := TX2) (N := 10) hx hb hts i_X2 hown hK hP 0 rfl rfl 3 (by decide) k_3 (fun _ h9 => h9) rfl dX2_hand_12 ?_
  refine lv_aload_n hx hb dX2_hand_15 rfl (lv_at hl 0 rfl) ?_
  refine va_get (D := (dC, dI)) (ci := 0) (v := .int op) (C := RX2) (T := TX2) (N := 10) hx hb hts i_X2 hown hK hP 0 rfl rfl 7 (by decide) k_2 (fun _ h9 => h9) rfl dX2_hand_16 ?_
  refine va_iald hx hb hK hP 2 0 rfl rfl (q_X2_hand_3 ho1 ho2 hf1 hf2 hk1 hk2 hj1 hj2) dX2_hand_19 ?_
  refine lv_topi (fun x_4 ex_4 => ?_)
  have ex_4 : x_4 = fl (op - 1).toNatClampNeg := ex_4.trans (sh_at (q_X2_hand_5 ho1 ho2 hf1 hf2 hk1 hk2 hj1 hj2))
  refine va_mmin hx hb (hml.trans hl.1.symm) hown k_4 k_5 k_6 k_7 (Nat.le_of_ble_eq_true rfl) (Nat.le_of_ble_eq_true rfl) (Nat.zero_le _) (Nat.zero_le _) dX2_hand_20 ?_
  refine lv_topi (fun x_6 ex_6 => ?_)
  refine lv_istore (lv' := [(4, .int x_6), (0, .ref aF), (1, .ref rw), (2, .int k2), (3, .int k)]) hx hb dX2_hand_23 hl (by decide) rfl (fun ls hl => ?_)
  refine lv_iload hx hb dX2_hand_25 (lv_at hl 0 rfl) ?_
  refine lv_if_le (tgt := 61) hx hb dX2_hand_27 (by decide) (fun c_7 => ?_) (fun c_7 => ?_)
  · skip
    exact e_wv hx hb hr hlocks dX2_hand_61 hK hS (upd gc (op - 1).toNatClampNeg k, vs) hP hD (q_X2_hand_8 ho1 ho2 hf1 hf2 hk1 hk2 hj1 hj2 ex_4 ex_6 c_7)
  · skip
    refine lv_iload_n hx hb dX2_hand_30 rfl (lv_at hl 3 rfl) ?_
    refine lv_if_lt (tgt := 61) hx hb dX2_hand_31 (by decide) (fun c_9 => False.elim (q_X2_hand_10 ho1 ho2 hf1 hf2 hk1 hk2 hj1 hj2 ex_4 ex_6 c_7 c_9)) (fun c_9 => ?_)
    refine lv_iload_n hx hb dX2_hand_34 rfl (lv_at hl 3 rfl) ?_
    refine lv_aload_n hx hb dX2_hand_35 rfl (lv_at hl 2 rfl) ?_
    refine va_alen hx hb hK hP 4 0 rfl rfl (v := 60) (show Int32.ofNat 60 = 60 by decide) dX2_hand_36 ?_
    refine lv_iload hx hb dX2_hand_37 (lv_at hl 0 rfl) ?_
    refine lv_isub hx hb dX2_hand_39 ?_
    refine lv_icmp_gt (tgt := 61) hx hb dX2_hand_40 (by decide) (fun c_11 => False.elim (q_X2_hand_12 ho1 ho2 hf1 hf2 hk1 hk2 hj1 hj2 ex_4 ex_6 c_7 c_9 c_11)) (fun c_11 => ?_)
    refine lv_aload_n hx hb dX2_hand_43 rfl (lv_at hl 2 rfl) ?_
    refine lv_iload_n hx hb dX2_hand_44 rfl (lv_at hl 3 rfl) ?_
    refine lv_aload_n hx hb dX2_hand_45 rfl (lv_at hl 1 rfl) ?_
    refine va_get (D := (dC, dI)) (ci := 0) (v := .ref f5) (C := RX2) (T := TX2) (N := 10) hx hb hts i_X2 hown hK hP 0 rfl rfl 5 (by decide) k_8 (fun _ h9 => h9) rfl dX2_hand_46 ?_
    refine lv_aload_n hx hb dX2_hand_49 rfl (lv_at hl 1 rfl) ?_
    refine va_get (D := (dC, dI)) (ci := 0) (v := .int op) (C := RX2) (T := TX2) (N := 10) hx hb hts i_X2 hown hK hP 0 rfl rfl 7 (by decide) k_2 (fun _ h9 => h9) rfl dX2_hand_50 ?_
    refine lv_bipush (v := 15) hx hb dX2_hand_53 (by decide) ?_
    refine lv_imul hx hb dX2_hand_55 ?_
    refine lv_iload hx hb dX2_hand_56 (lv_at hl 0 rfl) ?_
    refine va_copyi hx hb (hml.trans hl.1.symm) hown k_9 k_10 k_11 k_12 hK hP hD hS 4 3 0 0 rfl rfl rfl rfl rfl (q_X2_hand_13 ho1 ho2 hf1 hf2 hk1 hk2 hj1 hj2 ex_4 ex_6 c_7 c_9 c_11) (q_X2_hand_14 ho1 ho2 hf1 hf2 hk1 hk2 hj1 hj2 ex_4 ex_6 c_7 c_9 c_11) (q_X2_hand_15 ho1 ho2 hf1 hf2 hk1 hk2 hj1 hj2 ex_4 ex_6 c_7 c_9 c_11) (q_X2_hand_16 ho1 ho2 hf1 hf2 hk1 hk2 hj1 hj2 ex_4 ex_6 c_7 c_9 c_11) (q_X2_hand_17 ho1 ho2 hf1 hf2 hk1 hk2 hj1 hj2 ex_4 ex_6 c_7 c_9 c_11) (fun _ _ => rfl) (Nat.le_of_ble_eq_true rfl) (Nat.le_of_ble_eq_true rfl) dX2_hand_58 (fun H locs hP hD hS => ?_)
    have hP : va_P (dC, dI) vwCl [(aF, .inr (0, [.ref f0, .ref f1, .ref f2, .ref f3, .ref f4, .ref f5, .ref f6, .int op, .int mx, .int tp])), (f2, .inl (cI, 26, .inl (sh (upd gc (op - 1).toNatClampNeg k)))), (f3, .inl (cI, 26, .inl (sh fl))), (f5, .inl (cI, 390, .inl (va_cpy rwf (sw vs) k2.toNatClampNeg (op * 15).toNatClampNeg x_6.toNatClampNeg))), (rw, .inl (cI, 60, .inl rwf))] H := hP
    have hD : va_D A [(aF, .inr (0, [.ref f0, .ref f1, .ref f2, .ref f3, .ref f4, .ref f5, .ref f6, .int op, .int mx, .int tp])), (f2, .inl (cI, 26, .inl (sh (upd gc (op - 1).toNatClampNeg k)))), (f3, .inl (cI, 26, .inl (sh fl))), (f5, .inl (cI, 390, .inl (va_cpy rwf (sw vs) k2.toNatClampNeg (op * 15).toNatClampNeg x_6.toNatClampNeg))), (rw, .inl (cI, 60, .inl rwf))] := hD
    rw [(q_X2_hand_18 ho1 ho2 hf1 hf2 hk1 hk2 hj1 hj2 ex_4 ex_6 c_7 c_9 c_11)] at hP hD
    have hP : va_P (dC, dI) vwCl [(aF, .inr (0, [.ref f0, .ref f1, .ref f2, .ref f3, .ref f4, .ref f5, .ref f6, .int op, .int mx, .int tp])), (f2, .inl (cI, 26, .inl (sh (upd gc (op - 1).toNatClampNeg k)))), (f3, .inl (cI, 26, .inl (sh fl))), (f5, .inl (cI, 390, .inl (sw (va_cpy rwf vs k2.toNatClampNeg (15 * (op - 1)).toNatClampNeg x_6.toNatClampNeg)))), (rw, .inl (cI, 60, .inl rwf))] H := hP
    have hD : va_D A [(aF, .inr (0, [.ref f0, .ref f1, .ref f2, .ref f3, .ref f4, .ref f5, .ref f6, .int op, .int mx, .int tp])), (f2, .inl (cI, 26, .inl (sh (upd gc (op - 1).toNatClampNeg k)))), (f3, .inl (cI, 26, .inl (sh fl))), (f5, .inl (cI, 390, .inl (sw (va_cpy rwf vs k2.toNatClampNeg (15 * (op - 1)).toNatClampNeg x_6.toNatClampNeg)))), (rw, .inl (cI, 60, .inl rwf))] := hD
    exact e_wv hx hb hr hlocks dX2_hand_61 hK hS (upd gc (op - 1).toNatClampNeg k, va_cpy rwf vs k2.toNatClampNeg (15 * (op - 1)).toNatClampNeg x_6.toNatClampNeg) hP hD (q_X2_hand_19 ho1 ho2 hf1 hf2 hk1 hk2 hj1 hj2 ex_4 ex_6 c_7 c_9 c_11)

theorem q_X2_handDropped_1 {fl : Nat → Int32} {op : Int32} {tp : Int32} {k : Int32} (ho1 : 1 ≤ op) (ho2 : op ≤ 25) (hf1 : 0 ≤ fl (op - 1).toNatClampNeg) (hf2 : fl (op - 1).toNatClampNeg ≤ 15) (hk1 : 0 ≤ k) (hk2 : k ≤ 15) (hj1 : 0 ≤ tp) (hj2 : tp ≤ 60 - k) : 1 ≤ op := by
  grind
theorem q_X2_handDropped_2 {fl : Nat → Int32} {op : Int32} {tp : Int32} {k : Int32} (ho1 : 1 ≤ op) (ho2 : op ≤ 25) (hf1 : 0 ≤ fl (op - 1).toNatClampNeg) (hf2 : fl (op - 1).toNatClampNeg ≤ 15) (hk1 : 0 ≤ k) (hk2 : k ≤ 15) (hj1 : 0 ≤ tp) (hj2 : tp ≤ 60 - k) : op ≤ 25 := by
  grind
theorem q_X2_handDropped_3 {fl : Nat → Int32} {op : Int32} {tp : Int32} {k : Int32} (ho1 : 1 ≤ op) (ho2 : op ≤ 25) (hf1 : 0 ≤ fl (op - 1).toNatClampNeg) (hf2 : fl (op - 1).toNatClampNeg ≤ 15) (hk1 : 0 ≤ k) (hk2 : k ≤ 15) (hj1 : 0 ≤ tp) (hj2 : tp ≤ 60 - k) : 0 ≤ fl (op - 1).toNatClampNeg := by
  grind
theorem q_X2_handDropped_4 {fl : Nat → Int32} {op : Int32} {tp : Int32} {k : Int32} (ho1 : 1 ≤ op) (ho2 : op ≤ 25) (hf1 : 0 ≤ fl (op - 1).toNatClampNeg) (hf2 : fl (op - 1).toNatClampNeg ≤ 15) (hk1 : 0 ≤ k) (hk2 : k ≤ 15) (hj1 : 0 ≤ tp) (hj2 : tp ≤ 60 - k) : fl (op - 1).toNatClampNeg ≤ 15 := by
  grind
theorem q_X2_handDropped_5 {fl : Nat → Int32} {op : Int32} {tp : Int32} {k : Int32} (ho1 : 1 ≤ op) (ho2 : op ≤ 25) (hf1 : 0 ≤ fl (op - 1).toNatClampNeg) (hf2 : fl (op - 1).toNatClampNeg ≤ 15) (hk1 : 0 ≤ k) (hk2 : k ≤ 15) (hj1 : 0 ≤ tp) (hj2 : tp ≤ 60 - k) : 0 ≤ k := by
  grind
theorem q_X2_handDropped_6 {fl : Nat → Int32} {op : Int32} {tp : Int32} {k : Int32} (ho1 : 1 ≤ op) (ho2 : op ≤ 25) (hf1 : 0 ≤ fl (op - 1).toNatClampNeg) (hf2 : fl (op - 1).toNatClampNeg ≤ 15) (hk1 : 0 ≤ k) (hk2 : k ≤ 15) (hj1 : 0 ≤ tp) (hj2 : tp ≤ 60 - k) : k ≤ 15 := by
  grind
theorem q_X2_handDropped_7 {fl : Nat → Int32} {op : Int32} {tp : Int32} {k : Int32} (ho1 : 1 ≤ op) (ho2 : op ≤ 25) (hf1 : 0 ≤ fl (op - 1).toNatClampNeg) (hf2 : fl (op - 1).toNatClampNeg ≤ 15) (hk1 : 0 ≤ k) (hk2 : k ≤ 15) (hj1 : 0 ≤ tp) (hj2 : tp ≤ 60 - k) : 0 ≤ tp := by
  grind
theorem q_X2_handDropped_8 {fl : Nat → Int32} {op : Int32} {tp : Int32} {k : Int32} (ho1 : 1 ≤ op) (ho2 : op ≤ 25) (hf1 : 0 ≤ fl (op - 1).toNatClampNeg) (hf2 : fl (op - 1).toNatClampNeg ≤ 15) (hk1 : 0 ≤ k) (hk2 : k ≤ 15) (hj1 : 0 ≤ tp) (hj2 : tp ≤ 60 - k) : tp ≤ 60 - k := by
  grind
theorem q_X2_handDropped_13 {gc : Nat → Int32} {fl : Nat → Int32} {vs : Nat → Int32} {st : Nat → Int32} {op : Int32} {tp : Int32} {k : Int32} {gc_11 : Nat → Int32} {vs_12 : Nat → Int32} (ho1 : 1 ≤ op) (ho2 : op ≤ 25) (hf1 : 0 ≤ fl (op - 1).toNatClampNeg) (hf2 : fl (op - 1).toNatClampNeg ≤ 15) (hk1 : 0 ≤ k) (hk2 : k ≤ 15) (hj1 : 0 ≤ tp) (hj2 : tp ≤ 60 - k) (hr_9_0 : gc_11 = upd gc (op - 1).toNatClampNeg k) (hr_9_1 : vs_12 = va_cpy st vs tp.toNatClampNeg (15 * (op - 1)).toNatClampNeg (if fl (op - 1).toNatClampNeg < k then fl (op - 1).toNatClampNeg else k).toNatClampNeg) : (gc_11 = upd gc (op - 1).toNatClampNeg k) ∧ (vs_12 = va_cpy st vs tp.toNatClampNeg (15 * (op - 1)).toNatClampNeg (if fl (op - 1).toNatClampNeg < k then fl (op - 1).toNatClampNeg else k).toNatClampNeg) := by
  grind
set_option maxHeartbeats 4000000 in
set_option maxRecDepth 100000 in
theorem c_X2_handDropped (l : Launch) (dC : Nat → ClassId) (dI : Nat → Nat → Nat) (cI : ClassId) (sz : Nat) (aF : Nat) (f0 : Nat) (f1 : Nat) (f2 : Nat) (f3 : Nat) (f4 : Nat) (f5 : Nat) (f6 : Nat) (gc : Nat → Int32) (fl : Nat → Int32) (vs : Nat → Int32) (st : Nat → Int32) (op : Int32) (mx : Int32) (tp : Int32) (k : Int32) (ho1 : 1 ≤ op) (ho2 : op ≤ 25) (hf1 : 0 ≤ fl (op - 1).toNatClampNeg) (hf2 : fl (op - 1).toNatClampNeg ≤ 15) (hk1 : 0 ≤ k) (hk2 : k ≤ 15) (hj1 : 0 ≤ tp) (hj2 : tp ≤ 60 - k) : mWv l yX2_handDropped wsX2_handDropped ({ frames := 2, cells := 0, slots := 0, locals := 42 }) [.ref aF, .int k] (dC, dI) [(cI, .int)] [(aF, .inr (0, [.ref f0, .ref f1, .ref f2, .ref f3, .ref f4, .ref f5, .ref f6, .int op, .int mx, .int tp])), (f2, .inl (cI, 26, .inl (sh gc))), (f3, .inl (cI, 26, .inl (sh fl))), (f5, .inl (cI, 390, .inl (sw vs))), (f6, .inl (cI, 60, .inl st))] sz (fun u : (Nat → Int32) × (Nat → Int32) => (u.1 = upd gc (op - 1).toNatClampNeg k) ∧ (u.2 = va_cpy st vs tp.toNatClampNeg (15 * (op - 1)).toNatClampNeg (if fl (op - 1).toNatClampNeg < k then fl (op - 1).toNatClampNeg else k).toNatClampNeg)) (fun u : (Nat → Int32) × (Nat → Int32) => [(aF, .inr (0, [.ref f0, .ref f1, .ref f2, .ref f3, .ref f4, .ref f5, .ref f6, .int op, .int mx, .int tp])), (f2, .inl (cI, 26, .inl (sh u.1))), (f3, .inl (cI, 26, .inl (sh fl))), (f5, .inl (cI, 390, .inl (sw u.2))), (f6, .inl (cI, 60, .inl st))]) := by
  refine o_wv (cc := cX2_handDropped) (maxL := 2) (ret := none) (by decide) rfl (Nat.le_of_ble_eq_true rfl) ?_
  intro p e s m below meth c ls A hx hb hr hml hts hown hlocks hP hK hD hS hA hl
  have hown : s.vm.findClass RX2 = some m.cls := hown
  have hl : lv_has ls 2 [(0, .ref aF), (1, .int k)] := hl
  have k_1 := hts (.fieldLink RX2 30 "ZRoutines$Frames" "numbers" "[I") (List.mem_of_getElem? (i := 1) rfl)
  have k_2 := hts (.fieldLink RX2 40 "ZRoutines$Frames" "top" "I") (List.mem_of_getElem? (i := 2) rfl)
  have i_X2 : ∀ w ∈ u_ws RX2 TX2 10, w ∈ wsX2_handDropped := fun _ h => List.mem_cons_of_mem _ (List.mem_append_right _ h)
  refine lv_aload_n hx hb dX2_handDropped_0 rfl (lv_at hl 0 rfl) ?_
  refine lv_aload_n hx hb dX2_handDropped_1 rfl (lv_at hl 0 rfl) ?_
  refine va_get (D := (dC, dI)) (ci := 0) (v := .ref f6) (C := RX2) (T := TX2) (N := 10) hx hb hts i_X2 hown hK hP 0 rfl rfl 6 (by decide) k_1 (fun _ h9 => h9) rfl dX2_handDropped_2 ?_
  refine lv_aload_n hx hb dX2_handDropped_5 rfl (lv_at hl 0 rfl) ?_
  refine va_get (D := (dC, dI)) (ci := 0) (v := .int tp) (C := RX2) (T := TX2) (N := 10) hx hb hts i_X2 hown hK hP 0 rfl rfl 9 (by decide) k_2 (fun _ h9 => h9) rfl dX2_handDropped_6 ?_
  refine lv_iload_n hx hb dX2_handDropped_9 rfl (lv_at hl 1 rfl) ?_
  refine k_wv (w2 := (fun u_10 : (Nat → Int32) × (Nat → Int32) => [(aF, .inr (0, [.ref f0, .ref f1, .ref f2, .ref f3, .ref f4, .ref f5, .ref f6, .int op, .int mx, .int tp])), (f2, .inl (cI, 26, .inl (sh u_10.1))), (f3, .inl (cI, 26, .inl (sh fl))), (f5, .inl (cI, 390, .inl (sw u_10.2))), (f6, .inl (cI, 60, .inl st))])) (wr := []) (ci := 0) (q0 := 0) (q := (RX2, TX2, 10)) (As := [.ref f6, .int tp, .int k]) (rest := []) ⟨hx, hb, hml, hown, hts⟩ (c_X2_hand l dC dI cI _ aF f6 f0 f1 f2 f3 f4 f5 f6 gc fl vs st op mx tp k tp (q_X2_handDropped_1 ho1 ho2 hf1 hf2 hk1 hk2 hj1 hj2) (q_X2_handDropped_2 ho1 ho2 hf1 hf2 hk1 hk2 hj1 hj2) (q_X2_handDropped_3 ho1 ho2 hf1 hf2 hk1 hk2 hj1 hj2) (q_X2_handDropped_4 ho1 ho2 hf1 hf2 hk1 hk2 hj1 hj2) (q_X2_handDropped_5 ho1 ho2 hf1 hf2 hk1 hk2 hj1 hj2) (q_X2_handDropped_6 ho1 ho2 hf1 hf2 hk1 hk2 hj1 hj2) (q_X2_handDropped_7 ho1 ho2 hf1 hf2 hk1 hk2 hj1 hj2) (q_X2_handDropped_8 ho1 ho2 hf1 hf2 hk1 hk2 hj1 hj2)) (cwV 3 hts gX2_handDropped_X2_hand rfl rfl rfl (by decide +kernel) ⟨Nat.le_of_ble_eq_true rfl, Nat.le_of_ble_eq_true rfl⟩) hK hP hD hS hA [0, 1, 2, 3, 4] [] [0, 1, 2, 3, 4] rfl rfl (by decide) (fun _ => rfl) rfl rfl rfl hl.1 rfl (Nat.le_of_ble_eq_true rfl) dX2_handDropped_10 ⟨Nat.zero_le _, Nat.zero_le _⟩ (fun u_10 H locs hr_9 hP hD hS => ?_)
  obtain ⟨gc_11, vs_12⟩ := u_10
  have hP : va_P (dC, dI) vwCl [(aF, .inr (0, [.ref f0, .ref f1, .ref f2, .ref f3, .ref f4, .ref f5, .ref f6, .int op, .int mx, .int tp])), (f2, .inl (cI, 26, .inl (sh gc_11))), (f3, .inl (cI, 26, .inl (sh fl))), (f5, .inl (cI, 390, .inl (sw vs_12))), (f6, .inl (cI, 60, .inl st))] H := hP
  have hD : va_D A [(aF, .inr (0, [.ref f0, .ref f1, .ref f2, .ref f3, .ref f4, .ref f5, .ref f6, .int op, .int mx, .int tp])), (f2, .inl (cI, 26, .inl (sh gc_11))), (f3, .inl (cI, 26, .inl (sh fl))), (f5, .inl (cI, 390, .inl (sw vs_12))), (f6, .inl (cI, 60, .inl st))] := hD
  obtain ⟨hr_9_0, hr_9_1⟩ := hr_9
  have hr_9_0 : gc_11 = upd gc (op - 1).toNatClampNeg k := hr_9_0
  have hr_9_1 : vs_12 = va_cpy st vs tp.toNatClampNeg (15 * (op - 1)).toNatClampNeg (if fl (op - 1).toNatClampNeg < k then fl (op - 1).toNatClampNeg else k).toNatClampNeg := hr_9_1
  exact e_wv hx hb hr hlocks dX2_handDropped_13 hK hS (gc_11, vs_12) hP hD (q_X2_handDropped_13 ho1 ho2 hf1 hf2 hk1 hk2 hj1 hj2 hr_9_0 hr_9_1)
