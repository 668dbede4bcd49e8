set_option maxRecDepth 20000 in
theorem ggX8_init_X5_init : GoodIn wsX8_init wsX5_init := goodIn_r _ [20, 21, 2, 3, 16, 22, 23, 24, 25, 26, 27, 28, 78, 79, 80, 81, 82, 83, 84] (by decide +kernel) (by decide +kernel)
set_option maxRecDepth 20000 in
theorem gX8_init_X5_init_n9 : GoodIn wsX8_init (wsX5_init) := ggX8_init_X5_init
set_option maxRecDepth 20000 in
theorem ggX8_init_X7_init : GoodIn wsX8_init wsX7_init := goodIn_r _ [30, 31, 2, 3, 16, 32, 33, 34, 90, 91, 92] (by decide +kernel) (by decide +kernel)
set_option maxRecDepth 20000 in
theorem gX8_init_X7_init_n18 : GoodIn wsX8_init (wsX7_init) := ggX8_init_X7_init
set_option maxRecDepth 20000 in
theorem ggX8_init_X3_init : GoodIn wsX8_init wsX3_init := goodIn_r _ [37, 38, 2, 3, 39, 40, 41, 42, 43, 44, 45, 46, 47, 48, 49, 50, 51, 52, 53, 54, 55, 56, 16, 57, 58, 59, 60, 61, 62, 63, 64, 65, 66, 67, 68, 69, 70, 71, 72, 73, 74, 75, 76, 77, 102, 103, 104, 105, 106, 107, 108, 109, 110, 111, 93, 94, 95, 96, 97, 98, 99, 100, 101, 112, 113, 114, 115, 116, 117, 118, 119] (by decide +kernel) (by decide +kernel)
set_option maxRecDepth 20000 in
theorem gX8_init_X3_init : GoodIn wsX8_init (wsX3_init) := ggX8_init_X3_init
theorem dX8_init_0 : decode cX8_init 0 = .ok (.aload_n 0, 1) := by decide +kernel
theorem dX8_init_1 : decode cX8_init 1 = .ok (.invokespecial 1, 3) := by decide +kernel
theorem dX8_init_4 : decode cX8_init 4 = .ok (.aload_n 0, 1) := by decide +kernel
theorem dX8_init_5 : decode cX8_init 5 = .ok (.new 7, 3) := by decide +kernel
theorem dX8_init_8 : decode cX8_init 8 = .ok (.dup, 1) := by decide +kernel
theorem dX8_init_9 : decode cX8_init 9 = .ok (.invokespecial 9, 3) := by decide +kernel
theorem dX8_init_12 : decode cX8_init 12 = .ok (.putfield 10, 3) := by decide +kernel
theorem dX8_init_15 : decode cX8_init 15 = .ok (.aload_n 0, 1) := by decide +kernel
theorem dX8_init_16 : decode cX8_init 16 = .ok (.new 16, 3) := by decide +kernel
theorem dX8_init_19 : decode cX8_init 19 = .ok (.dup, 1) := by decide +kernel
theorem dX8_init_20 : decode cX8_init 20 = .ok (.invokespecial 18, 3) := by decide +kernel
theorem dX8_init_23 : decode cX8_init 23 = .ok (.putfield 19, 3) := by decide +kernel
theorem dX8_init_26 : decode cX8_init 26 = .ok (.aload_n 0, 1) := by decide +kernel
theorem dX8_init_27 : decode cX8_init 27 = .ok (.new 23, 3) := by decide +kernel
theorem dX8_init_30 : decode cX8_init 30 = .ok (.dup, 1) := by decide +kernel
theorem dX8_init_31 : decode cX8_init 31 = .ok (.aload_n 0, 1) := by decide +kernel
theorem dX8_init_32 : decode cX8_init 32 = .ok (.getfield 10, 3) := by decide +kernel
theorem dX8_init_35 : decode cX8_init 35 = .ok (.aload_n 0, 1) := by decide +kernel
theorem dX8_init_36 : decode cX8_init 36 = .ok (.getfield 19, 3) := by decide +kernel
theorem dX8_init_39 : decode cX8_init 39 = .ok (.invokespecial 25, 3) := by decide +kernel
theorem dX8_init_42 : decode cX8_init 42 = .ok (.putfield 28, 3) := by decide +kernel
theorem dX8_init_45 : decode cX8_init 45 = .ok (.aload_n 0, 1) := by decide +kernel
theorem dX8_init_46 : decode cX8_init 46 = .ok (.bipush 15, 2) := by decide +kernel
theorem dX8_init_48 : decode cX8_init 48 = .ok (.newarray .int, 2) := by decide +kernel
theorem dX8_init_50 : decode cX8_init 50 = .ok (.putfield 32, 3) := by decide +kernel
theorem dX8_init_53 : decode cX8_init 53 = .ok (.aload_n 0, 1) := by decide +kernel
theorem dX8_init_54 : decode cX8_init 54 = .ok (.iconst 0, 1) := by decide +kernel
theorem dX8_init_55 : decode cX8_init 55 = .ok (.putfield 36, 3) := by decide +kernel
theorem dX8_init_58 : decode cX8_init 58 = .ok (.return_, 1) := by decide +kernel
set_option maxRecDepth 20000 in
theorem ggX8_routine_X5_isFull : GoodIn wsX8_routine wsX5_isFull := goodIn_r _ [8, 9, 22, 23, 24, 25, 26, 27, 28] (by decide +kernel) (by decide +kernel)
set_option maxRecDepth 20000 in
theorem gX8_routine_X5_isFull : GoodIn wsX8_routine (wsV RX8 41 RX5 yX5_isFull wsX5_isFull) := goodIn_app (goodIn_of _ (by decide +kernel)) ggX8_routine_X5_isFull
set_option maxRecDepth 20000 in
theorem ggX8_routine_X5_append : GoodIn wsX8_routine wsX5_append := goodIn_r _ [13, 14, 15, 9, 16, 5, 6, 7, 8, 22, 23, 24, 25, 26, 27, 28] (by decide +kernel) (by decide +kernel)
set_option maxRecDepth 20000 in
theorem gX8_routine_X5_append : GoodIn wsX8_routine (wsV RX8 46 RX5 yX5_append wsX5_append) := goodIn_app (goodIn_of _ (by decide +kernel)) ggX8_routine_X5_append
theorem dX8_routine_0 : decode cX8_routine 0 = .ok (.iload_n 1, 1) := by decide +kernel
theorem dX8_routine_1 : decode cX8_routine 1 = .ok (.ifCond .lt 9, 3) := by decide +kernel
theorem dX8_routine_4 : decode cX8_routine 4 = .ok (.iload_n 1, 1) := by decide +kernel
theorem dX8_routine_5 : decode cX8_routine 5 = .ok (.bipush 15, 2) := by decide +kernel
theorem dX8_routine_7 : decode cX8_routine 7 = .ok (.if_icmp .le 6, 3) := by decide +kernel
theorem dX8_routine_10 : decode cX8_routine 10 = .ok (.ldc 40, 2) := by decide +kernel
theorem dX8_routine_12 : decode cX8_routine 12 = .ok (.ireturn, 1) := by decide +kernel
theorem dX8_routine_13 : decode cX8_routine 13 = .ok (.aload_n 0, 1) := by decide +kernel
theorem dX8_routine_14 : decode cX8_routine 14 = .ok (.getfield 10, 3) := by decide +kernel
theorem dX8_routine_17 : decode cX8_routine 17 = .ok (.invokevirtual 41, 3) := by decide +kernel
theorem dX8_routine_20 : decode cX8_routine 20 = .ok (.ifCond .eq 8, 3) := by decide +kernel
theorem dX8_routine_23 : decode cX8_routine 23 = .ok (.ldc 45, 2) := by decide +kernel
theorem dX8_routine_25 : decode cX8_routine 25 = .ok (.goto 11, 3) := by decide +kernel
theorem dX8_routine_28 : decode cX8_routine 28 = .ok (.aload_n 0, 1) := by decide +kernel
theorem dX8_routine_29 : decode cX8_routine 29 = .ok (.getfield 10, 3) := by decide +kernel
theorem dX8_routine_32 : decode cX8_routine 32 = .ok (.iload_n 1, 1) := by decide +kernel
theorem dX8_routine_33 : decode cX8_routine 33 = .ok (.invokevirtual 46, 3) := by decide +kernel
theorem dX8_routine_36 : decode cX8_routine 36 = .ok (.ireturn, 1) := by decide +kernel
set_option maxRecDepth 20000 in
theorem ggX8_first_X5_hasLocal : GoodIn wsX8_first wsX5_hasLocal := goodIn_r _ [7, 8, 9, 10, 11, 6, 12, 13, 25, 26, 27, 28, 29, 30, 31] (by decide +kernel) (by decide +kernel)
set_option maxRecDepth 20000 in
theorem gX8_first_X5_hasLocal : GoodIn wsX8_first (wsV RX8 50 RX5 yX5_hasLocal wsX5_hasLocal) := goodIn_app (goodIn_of _ (by decide +kernel)) ggX8_first_X5_hasLocal
set_option maxRecDepth 20000 in
theorem ggX8_first_X5_setFirstValue : GoodIn wsX8_first wsX5_setFirstValue := goodIn_r _ [17, 18, 19, 4, 5, 6, 7, 8, 9, 10, 11, 12, 13, 25, 26, 27, 28, 29, 30, 31] (by decide +kernel) (by decide +kernel)
set_option maxRecDepth 20000 in
theorem gX8_first_X5_setFirstValue : GoodIn wsX8_first (wsV RX8 54 RX5 yX5_setFirstValue wsX5_setFirstValue) := goodIn_app (goodIn_of _ (by decide +kernel)) ggX8_first_X5_setFirstValue
theorem dX8_first_0 : decode cX8_first 0 = .ok (.aload_n 0, 1) := by decide +kernel
theorem dX8_first_1 : decode cX8_first 1 = .ok (.getfield 10, 3) := by decide +kernel
theorem dX8_first_4 : decode cX8_first 4 = .ok (.iload_n 1, 1) := by decide +kernel
theorem dX8_first_5 : decode cX8_first 5 = .ok (.iload_n 2, 1) := by decide +kernel
theorem dX8_first_6 : decode cX8_first 6 = .ok (.invokevirtual 50, 3) := by decide +kernel
theorem dX8_first_9 : decode cX8_first 9 = .ok (.ifCond .ne 6, 3) := by decide +kernel
theorem dX8_first_12 : decode cX8_first 12 = .ok (.ldc 40, 2) := by decide +kernel
theorem dX8_first_14 : decode cX8_first 14 = .ok (.ireturn, 1) := by decide +kernel
theorem dX8_first_15 : decode cX8_first 15 = .ok (.aload_n 0, 1) := by decide +kernel
theorem dX8_first_16 : decode cX8_first 16 = .ok (.getfield 10, 3) := by decide +kernel
theorem dX8_first_19 : decode cX8_first 19 = .ok (.iload_n 1, 1) := by decide +kernel
theorem dX8_first_20 : decode cX8_first 20 = .ok (.iload_n 2, 1) := by decide +kernel
theorem dX8_first_21 : decode cX8_first 21 = .ok (.iload_n 3, 1) := by decide +kernel
theorem dX8_first_22 : decode cX8_first 22 = .ok (.invokevirtual 54, 3) := by decide +kernel
theorem dX8_first_25 : decode cX8_first 25 = .ok (.iconst 1, 1) := by decide +kernel
theorem dX8_first_26 : decode cX8_first 26 = .ok (.ireturn, 1) := by decide +kernel
set_option maxRecDepth 20000 in
theorem ggX8_add_X5_has : GoodIn wsX8_add wsX5_has := goodIn_r _ [8, 9, 34, 35, 36, 37, 38, 39, 40] (by decide +kernel) (by decide +kernel)
set_option maxRecDepth 20000 in
theorem gX8_add_X5_has : GoodIn wsX8_add (wsV RX8 58 RX5 yX5_has wsX5_has) := goodIn_app (goodIn_of _ (by decide +kernel)) ggX8_add_X5_has
set_option maxRecDepth 20000 in
theorem ggX8_add_X5_isBodyFull : GoodIn wsX8_add wsX5_isBodyFull := goodIn_r _ [13, 14, 15, 16, 7, 17, 18, 19, 5, 6, 8, 9, 34, 35, 36, 37, 38, 39, 40] (by decide +kernel) (by decide +kernel)
set_option maxRecDepth 20000 in
theorem gX8_add_X5_isBodyFull : GoodIn wsX8_add (wsV RX8 62 RX5 yX5_isBodyFull wsX5_isBodyFull) := goodIn_app (goodIn_of _ (by decide +kernel)) ggX8_add_X5_isBodyFull
set_option maxRecDepth 20000 in
theorem ggX8_add_X5_appendInstruction : GoodIn wsX8_add wsX5_appendInstruction := goodIn_r _ [23, 24, 18, 25, 26, 27, 19, 5, 6, 7, 8, 9, 28, 11, 12, 13, 14, 15, 16, 17, 34, 35, 36, 37, 38, 39, 40] (by decide +kernel) (by decide +kernel)
set_option maxRecDepth 20000 in
theorem gX8_add_X5_appendInstruction : GoodIn wsX8_add (wsV RX8 65 RX5 yX5_appendInstruction wsX5_appendInstruction) := goodIn_app (goodIn_of _ (by decide +kernel)) ggX8_add_X5_appendInstruction
theorem dX8_add_0 : decode cX8_add 0 = .ok (.aload_n 0, 1) := by decide +kernel
theorem dX8_add_1 : decode cX8_add 1 = .ok (.getfield 10, 3) := by decide +kernel
theorem dX8_add_4 : decode cX8_add 4 = .ok (.iload_n 1, 1) := by decide +kernel
theorem dX8_add_5 : decode cX8_add 5 = .ok (.invokevirtual 58, 3) := by decide +kernel
theorem dX8_add_8 : decode cX8_add 8 = .ok (.ifCond .ne 6, 3) := by decide +kernel
theorem dX8_add_11 : decode cX8_add 11 = .ok (.ldc 40, 2) := by decide +kernel
theorem dX8_add_13 : decode cX8_add 13 = .ok (.ireturn, 1) := by decide +kernel
theorem dX8_add_14 : decode cX8_add 14 = .ok (.aload_n 0, 1) := by decide +kernel
theorem dX8_add_15 : decode cX8_add 15 = .ok (.getfield 10, 3) := by decide +kernel
theorem dX8_add_18 : decode cX8_add 18 = .ok (.iload_n 1, 1) := by decide +kernel
theorem dX8_add_19 : decode cX8_add 19 = .ok (.invokevirtual 62, 3) := by decide +kernel
theorem dX8_add_22 : decode cX8_add 22 = .ok (.ifCond .eq 8, 3) := by decide +kernel
theorem dX8_add_25 : decode cX8_add 25 = .ok (.ldc 45, 2) := by decide +kernel
theorem dX8_add_27 : decode cX8_add 27 = .ok (.goto 15, 3) := by decide +kernel
theorem dX8_add_30 : decode cX8_add 30 = .ok (.aload_n 0, 1) := by decide +kernel
theorem dX8_add_31 : decode cX8_add 31 = .ok (.getfield 10, 3) := by decide +kernel
theorem dX8_add_34 : decode cX8_add 34 = .ok (.iload_n 1, 1) := by decide +kernel
theorem dX8_add_35 : decode cX8_add 35 = .ok (.iload_n 2, 1) := by decide +kernel
theorem dX8_add_36 : decode cX8_add 36 = .ok (.iload_n 3, 1) := by decide +kernel
theorem dX8_add_37 : decode cX8_add 37 = .ok (.iload 4, 2) := by decide +kernel
theorem dX8_add_39 : decode cX8_add 39 = .ok (.invokevirtual 65, 3) := by decide +kernel
theorem dX8_add_42 : decode cX8_add 42 = .ok (.ireturn, 1) := by decide +kernel
set_option maxRecDepth 20000 in
theorem ggX8_clear_X5_has : GoodIn wsX8_clear wsX5_has := goodIn_r _ [7, 8, 20, 21, 22, 23, 24, 25, 26] (by decide +kernel) (by decide +kernel)
set_option maxRecDepth 20000 in
theorem gX8_clear_X5_has : GoodIn wsX8_clear (wsV RX8 58 RX5 yX5_has wsX5_has) := goodIn_app (goodIn_of _ (by decide +kernel)) ggX8_clear_X5_has
set_option maxRecDepth 20000 in
theorem ggX8_clear_X5_emptyBody : GoodIn wsX8_clear wsX5_emptyBody := goodIn_r _ [12, 13, 14, 4, 5, 6, 7, 8, 20, 21, 22, 23, 24, 25, 26] (by decide +kernel) (by decide +kernel)
set_option maxRecDepth 20000 in
theorem gX8_clear_X5_emptyBody : GoodIn wsX8_clear (wsV RX8 69 RX5 yX5_emptyBody wsX5_emptyBody) := goodIn_app (goodIn_of _ (by decide +kernel)) ggX8_clear_X5_emptyBody
theorem dX8_clear_0 : decode cX8_clear 0 = .ok (.aload_n 0, 1) := by decide +kernel
theorem dX8_clear_1 : decode cX8_clear 1 = .ok (.getfield 10, 3) := by decide +kernel
theorem dX8_clear_4 : decode cX8_clear 4 = .ok (.iload_n 1, 1) := by decide +kernel
theorem dX8_clear_5 : decode cX8_clear 5 = .ok (.invokevirtual 58, 3) := by decide +kernel
theorem dX8_clear_8 : decode cX8_clear 8 = .ok (.ifCond .eq 14, 3) := by decide +kernel
theorem dX8_clear_11 : decode cX8_clear 11 = .ok (.aload_n 0, 1) := by decide +kernel
theorem dX8_clear_12 : decode cX8_clear 12 = .ok (.getfield 10, 3) := by decide +kernel
theorem dX8_clear_15 : decode cX8_clear 15 = .ok (.iload_n 1, 1) := by decide +kernel
theorem dX8_clear_16 : decode cX8_clear 16 = .ok (.invokevirtual 69, 3) := by decide +kernel
theorem dX8_clear_19 : decode cX8_clear 19 = .ok (.goto 5, 3) := by decide +kernel
theorem dX8_clear_22 : decode cX8_clear 22 = .ok (.ldc 40, 2) := by decide +kernel
theorem dX8_clear_24 : decode cX8_clear 24 = .ok (.ireturn, 1) := by decide +kernel
set_option maxRecDepth 20000 in
theorem ggX8_room_X7_has : GoodIn wsX8_room wsX7_has := goodIn_r _ [7] (by decide +kernel) (by decide +kernel)
set_option maxRecDepth 20000 in
theorem gX8_room_X7_has : GoodIn wsX8_room (wsV RX8 72 RX7 yX7_has wsX7_has) := goodIn_app (goodIn_of _ (by decide +kernel)) ggX8_room_X7_has
set_option maxRecDepth 20000 in
theorem ggX8_room_X7_emptyWithRoom : GoodIn wsX8_room wsX7_emptyWithRoom := goodIn_r _ [11, 12, 13, 14, 4, 5, 6, 7, 20, 21, 22] (by decide +kernel) (by decide +kernel)
set_option maxRecDepth 20000 in
theorem gX8_room_X7_emptyWithRoom : GoodIn wsX8_room (wsV RX8 73 RX7 yX7_emptyWithRoom wsX7_emptyWithRoom) := goodIn_app (goodIn_of _ (by decide +kernel)) ggX8_room_X7_emptyWithRoom
theorem dX8_room_0 : decode cX8_room 0 = .ok (.aload_n 0, 1) := by decide +kernel
theorem dX8_room_1 : decode cX8_room 1 = .ok (.getfield 19, 3) := by decide +kernel
theorem dX8_room_4 : decode cX8_room 4 = .ok (.iload_n 1, 1) := by decide +kernel
theorem dX8_room_5 : decode cX8_room 5 = .ok (.invokevirtual 72, 3) := by decide +kernel
theorem dX8_room_8 : decode cX8_room 8 = .ok (.ifCond .eq 13, 3) := by decide +kernel
theorem dX8_room_11 : decode cX8_room 11 = .ok (.iload_n 2, 1) := by decide +kernel
theorem dX8_room_12 : decode cX8_room 12 = .ok (.ifCond .lt 9, 3) := by decide +kernel
theorem dX8_room_15 : decode cX8_room 15 = .ok (.iload_n 2, 1) := by decide +kernel
theorem dX8_room_16 : decode cX8_room 16 = .ok (.bipush 10, 2) := by decide +kernel
theorem dX8_room_18 : decode cX8_room 18 = .ok (.if_icmp .le 6, 3) := by decide +kernel
theorem dX8_room_21 : decode cX8_room 21 = .ok (.ldc 40, 2) := by decide +kernel
theorem dX8_room_23 : decode cX8_room 23 = .ok (.ireturn, 1) := by decide +kernel
theorem dX8_room_24 : decode cX8_room 24 = .ok (.aload_n 0, 1) := by decide +kernel
theorem dX8_room_25 : decode cX8_room 25 = .ok (.getfield 19, 3) := by decide +kernel
theorem dX8_room_28 : decode cX8_room 28 = .ok (.iload_n 1, 1) := by decide +kernel
theorem dX8_room_29 : decode cX8_room 29 = .ok (.iload_n 2, 1) := by decide +kernel
theorem dX8_room_30 : decode cX8_room 30 = .ok (.invokevirtual 73, 3) := by decide +kernel
theorem dX8_room_33 : decode cX8_room 33 = .ok (.ireturn, 1) := by decide +kernel
set_option maxRecDepth 20000 in
theorem ggX8_user_X7_has : GoodIn wsX8_user wsX7_has := goodIn_r _ [7] (by decide +kernel) (by decide +kernel)
set_option maxRecDepth 20000 in
theorem gX8_user_X7_has : GoodIn wsX8_user (wsV RX8 72 RX7 yX7_has wsX7_has) := goodIn_app (goodIn_of _ (by decide +kernel)) ggX8_user_X7_has
set_option maxRecDepth 20000 in
theorem ggX8_user_X7_count : GoodIn wsX8_user wsX7_count := goodIn_r _ [11, 12, 13, 4, 5, 6, 7, 29, 30, 31] (by decide +kernel) (by decide +kernel)
set_option maxRecDepth 20000 in
theorem gX8_user_X7_count : GoodIn wsX8_user (wsV RX8 77 RX7 yX7_count wsX7_count) := goodIn_app (goodIn_of _ (by decide +kernel)) ggX8_user_X7_count
set_option maxRecDepth 20000 in
theorem ggX8_user_X7_hasNumber : GoodIn wsX8_user wsX7_hasNumber := goodIn_r _ [17, 12, 13, 4, 5, 6, 7, 29, 30, 31] (by decide +kernel) (by decide +kernel)
set_option maxRecDepth 20000 in
theorem gX8_user_X7_hasNumber : GoodIn wsX8_user (wsV RX8 80 RX7 yX7_hasNumber wsX7_hasNumber) := goodIn_app (goodIn_of _ (by decide +kernel)) ggX8_user_X7_hasNumber
set_option maxRecDepth 20000 in
theorem ggX8_user_X7_fromTop : GoodIn wsX8_user wsX7_fromTop := goodIn_r _ [21, 22, 12, 23, 15, 16, 6, 17, 13, 4, 5, 7, 29, 30, 31] (by decide +kernel) (by decide +kernel)
set_option maxRecDepth 20000 in
theorem gX8_user_X7_fromTop : GoodIn wsX8_user (wsV RX8 83 RX7 yX7_fromTop wsX7_fromTop) := goodIn_app (goodIn_of _ (by decide +kernel)) ggX8_user_X7_fromTop
theorem dX8_user_0 : decode cX8_user 0 = .ok (.aload_n 0, 1) := by decide +kernel
theorem dX8_user_1 : decode cX8_user 1 = .ok (.getfield 19, 3) := by decide +kernel
theorem dX8_user_4 : decode cX8_user 4 = .ok (.iload_n 1, 1) := by decide +kernel
theorem dX8_user_5 : decode cX8_user 5 = .ok (.invokevirtual 72, 3) := by decide +kernel
theorem dX8_user_8 : decode cX8_user 8 = .ok (.ifCond .ne 6, 3) := by decide +kernel
theorem dX8_user_11 : decode cX8_user 11 = .ok (.ldc 40, 2) := by decide +kernel
theorem dX8_user_13 : decode cX8_user 13 = .ok (.ireturn, 1) := by decide +kernel
theorem dX8_user_14 : decode cX8_user 14 = .ok (.iload_n 2, 1) := by decide +kernel
theorem dX8_user_15 : decode cX8_user 15 = .ok (.iconst (-1), 1) := by decide +kernel
theorem dX8_user_16 : decode cX8_user 16 = .ok (.if_icmp .ne 12, 3) := by decide +kernel
theorem dX8_user_19 : decode cX8_user 19 = .ok (.aload_n 0, 1) := by decide +kernel
theorem dX8_user_20 : decode cX8_user 20 = .ok (.getfield 19, 3) := by decide +kernel
theorem dX8_user_23 : decode cX8_user 23 = .ok (.iload_n 1, 1) := by decide +kernel
theorem dX8_user_24 : decode cX8_user 24 = .ok (.invokevirtual 77, 3) := by decide +kernel
theorem dX8_user_27 : decode cX8_user 27 = .ok (.ireturn, 1) := by decide +kernel
theorem dX8_user_28 : decode cX8_user 28 = .ok (.aload_n 0, 1) := by decide +kernel
theorem dX8_user_29 : decode cX8_user 29 = .ok (.getfield 19, 3) := by decide +kernel
theorem dX8_user_32 : decode cX8_user 32 = .ok (.iload_n 1, 1) := by decide +kernel
theorem dX8_user_33 : decode cX8_user 33 = .ok (.iload_n 2, 1) := by decide +kernel
theorem dX8_user_34 : decode cX8_user 34 = .ok (.invokevirtual 80, 3) := by decide +kernel
theorem dX8_user_37 : decode cX8_user 37 = .ok (.ifCond .eq 15, 3) := by decide +kernel
theorem dX8_user_40 : decode cX8_user 40 = .ok (.aload_n 0, 1) := by decide +kernel
theorem dX8_user_41 : decode cX8_user 41 = .ok (.getfield 19, 3) := by decide +kernel
theorem dX8_user_44 : decode cX8_user 44 = .ok (.iload_n 1, 1) := by decide +kernel
theorem dX8_user_45 : decode cX8_user 45 = .ok (.iload_n 2, 1) := by decide +kernel
theorem dX8_user_46 : decode cX8_user 46 = .ok (.invokevirtual 83, 3) := by decide +kernel
theorem dX8_user_49 : decode cX8_user 49 = .ok (.goto 5, 3) := by decide +kernel
theorem dX8_user_52 : decode cX8_user 52 = .ok (.ldc 40, 2) := by decide +kernel
theorem dX8_user_54 : decode cX8_user 54 = .ok (.ireturn, 1) := by decide +kernel
set_option maxRecDepth 20000 in
theorem ggX8_interrupt_X3_setInterrupt : GoodIn wsX8_interrupt wsX3_setInterrupt := goodIn_r _ [8, 9, 10, 22, 23, 24, 25, 26, 27, 28, 29, 30] (by decide +kernel) (by decide +kernel)
set_option maxRecDepth 20000 in
theorem gX8_interrupt_X3_setInterrupt : GoodIn wsX8_interrupt (wsV RX8 86 RX3 yX3_setInterrupt wsX3_setInterrupt) := goodIn_app (goodIn_of _ (by decide +kernel)) ggX8_interrupt_X3_setInterrupt
set_option maxRecDepth 20000 in
theorem ggX8_interrupt_X5_has : GoodIn wsX8_interrupt wsX5_has := goodIn_r _ [15, 16, 31, 32, 33, 34, 35, 36, 37] (by decide +kernel) (by decide +kernel)
set_option maxRecDepth 20000 in
theorem gX8_interrupt_X5_has : GoodIn wsX8_interrupt (wsV RX8 58 RX5 yX5_has wsX5_has) := goodIn_app (goodIn_of _ (by decide +kernel)) ggX8_interrupt_X5_has
theorem dX8_interrupt_0 : decode cX8_interrupt 0 = .ok (.iload_n 1, 1) := by decide +kernel
theorem dX8_interrupt_1 : decode cX8_interrupt 1 = .ok (.iconst (-1), 1) := by decide +kernel
theorem dX8_interrupt_2 : decode cX8_interrupt 2 = .ok (.if_icmp .ne 14, 3) := by decide +kernel
theorem dX8_interrupt_5 : decode cX8_interrupt 5 = .ok (.aload_n 0, 1) := by decide +kernel
theorem dX8_interrupt_6 : decode cX8_interrupt 6 = .ok (.getfield 28, 3) := by decide +kernel
theorem dX8_interrupt_9 : decode cX8_interrupt 9 = .ok (.iconst 0, 1) := by decide +kernel
theorem dX8_interrupt_10 : decode cX8_interrupt 10 = .ok (.iconst 0, 1) := by decide +kernel
theorem dX8_interrupt_11 : decode cX8_interrupt 11 = .ok (.invokevirtual 86, 3) := by decide +kernel
theorem dX8_interrupt_14 : decode cX8_interrupt 14 = .ok (.iconst 1, 1) := by decide +kernel
theorem dX8_interrupt_15 : decode cX8_interrupt 15 = .ok (.ireturn, 1) := by decide +kernel
theorem dX8_interrupt_16 : decode cX8_interrupt 16 = .ok (.aload_n 0, 1) := by decide +kernel
theorem dX8_interrupt_17 : decode cX8_interrupt 17 = .ok (.getfield 10, 3) := by decide +kernel
theorem dX8_interrupt_20 : decode cX8_interrupt 20 = .ok (.iload_n 1, 1) := by decide +kernel
theorem dX8_interrupt_21 : decode cX8_interrupt 21 = .ok (.invokevirtual 58, 3) := by decide +kernel
theorem dX8_interrupt_24 : decode cX8_interrupt 24 = .ok (.ifCond .eq 15, 3) := by decide +kernel
theorem dX8_interrupt_27 : decode cX8_interrupt 27 = .ok (.iload_n 2, 1) := by decide +kernel
theorem dX8_interrupt_28 : decode cX8_interrupt 28 = .ok (.iconst 1, 1) := by decide +kernel
theorem dX8_interrupt_29 : decode cX8_interrupt 29 = .ok (.if_icmp .lt 10, 3) := by decide +kernel
theorem dX8_interrupt_32 : decode cX8_interrupt 32 = .ok (.iload_n 2, 1) := by decide +kernel
theorem dX8_interrupt_33 : decode cX8_interrupt 33 = .ok (.sipush 1000, 3) := by decide +kernel
theorem dX8_interrupt_36 : decode cX8_interrupt 36 = .ok (.if_icmp .le 6, 3) := by decide +kernel
theorem dX8_interrupt_39 : decode cX8_interrupt 39 = .ok (.ldc 40, 2) := by decide +kernel
theorem dX8_interrupt_41 : decode cX8_interrupt 41 = .ok (.ireturn, 1) := by decide +kernel
theorem dX8_interrupt_42 : decode cX8_interrupt 42 = .ok (.aload_n 0, 1) := by decide +kernel
theorem dX8_interrupt_43 : decode cX8_interrupt 43 = .ok (.getfield 28, 3) := by decide +kernel
theorem dX8_interrupt_46 : decode cX8_interrupt 46 = .ok (.iload_n 1, 1) := by decide +kernel
theorem dX8_interrupt_47 : decode cX8_interrupt 47 = .ok (.iload_n 2, 1) := by decide +kernel
theorem dX8_interrupt_48 : decode cX8_interrupt 48 = .ok (.invokevirtual 86, 3) := by decide +kernel
theorem dX8_interrupt_51 : decode cX8_interrupt 51 = .ok (.iconst 1, 1) := by decide +kernel
theorem dX8_interrupt_52 : decode cX8_interrupt 52 = .ok (.ireturn, 1) := by decide +kernel
theorem dX8_give_0 : decode cX8_give 0 = .ok (.aload_n 0, 1) := by decide +kernel
theorem dX8_give_1 : decode cX8_give 1 = .ok (.getfield 36, 3) := by decide +kernel
theorem dX8_give_4 : decode cX8_give 4 = .ok (.ifCond .lt 12, 3) := by decide +kernel
theorem dX8_give_7 : decode cX8_give 7 = .ok (.aload_n 0, 1) := by decide +kernel
theorem dX8_give_8 : decode cX8_give 8 = .ok (.getfield 36, 3) := by decide +kernel
theorem dX8_give_11 : decode cX8_give 11 = .ok (.bipush 15, 2) := by decide +kernel
theorem dX8_give_13 : decode cX8_give 13 = .ok (.if_icmp .lt 6, 3) := by decide +kernel
theorem dX8_give_16 : decode cX8_give 16 = .ok (.ldc 45, 2) := by decide +kernel
theorem dX8_give_18 : decode cX8_give 18 = .ok (.ireturn, 1) := by decide +kernel
theorem dX8_give_19 : decode cX8_give 19 = .ok (.aload_n 0, 1) := by decide +kernel
theorem dX8_give_20 : decode cX8_give 20 = .ok (.getfield 32, 3) := by decide +kernel
theorem dX8_give_23 : decode cX8_give 23 = .ok (.aload_n 0, 1) := by decide +kernel
theorem dX8_give_24 : decode cX8_give 24 = .ok (.getfield 36, 3) := by decide +kernel
theorem dX8_give_27 : decode cX8_give 27 = .ok (.iload_n 1, 1) := by decide +kernel
theorem dX8_give_28 : decode cX8_give 28 = .ok (.i2s, 1) := by decide +kernel
theorem dX8_give_29 : decode cX8_give 29 = .ok (.iastore, 1) := by decide +kernel
theorem dX8_give_30 : decode cX8_give 30 = .ok (.aload_n 0, 1) := by decide +kernel
theorem dX8_give_31 : decode cX8_give 31 = .ok (.dup, 1) := by decide +kernel
theorem dX8_give_32 : decode cX8_give 32 = .ok (.getfield 36, 3) := by decide +kernel
theorem dX8_give_35 : decode cX8_give 35 = .ok (.iconst 1, 1) := by decide +kernel
theorem dX8_give_36 : decode cX8_give 36 = .ok (.iadd, 1) := by decide +kernel
theorem dX8_give_37 : decode cX8_give 37 = .ok (.putfield 36, 3) := by decide +kernel
theorem dX8_give_40 : decode cX8_give 40 = .ok (.aload_n 0, 1) := by decide +kernel
theorem dX8_give_41 : decode cX8_give 41 = .ok (.getfield 36, 3) := by decide +kernel
theorem dX8_give_44 : decode cX8_give 44 = .ok (.ireturn, 1) := by decide +kernel
set_option maxRecDepth 20000 in
theorem ggX8_run_X5_has : GoodIn wsX8_run wsX5_has := goodIn_r _ [10, 11, 291, 292, 293, 294, 295, 296, 297] (by decide +kernel) (by decide +kernel)
set_option maxRecDepth 20000 in
theorem gX8_run_X5_has : GoodIn wsX8_run (wsV RX8 58 RX5 yX5_has wsX5_has) := goodIn_app (goodIn_of _ (by decide +kernel)) ggX8_run_X5_has
set_option maxRecDepth 20000 in
theorem ggX8_run_X3_perform : GoodIn wsX8_run wsX3_perform := goodIn_r _ [16, 17, 18, 19, 20, 21, 22, 23, 24, 25, 26, 27, 28, 29, 30, 31, 32, 33, 34, 35, 36, 37, 38, 39, 40, 41, 42, 43, 44, 45, 46, 47, 48, 49, 50, 51, 52, 53, 54, 55, 56, 57, 58, 59, 60, 61, 62, 63, 64, 65, 66, 9, 67, 68, 69, 7, 8, 10, 11, 70, 71, 72, 73, 74, 75, 76, 77, 78, 79, 80, 81, 82, 83, 84, 85, 86, 87, 88, 89, 15, 90, 91, 92, 93, 94, 95, 96, 97, 98, 99, 100, 101, 102, 103, 104, 105, 106, 107, 108, 109, 110, 111, 112, 113, 114, 115, 116, 117, 118, 119, 120, 121, 122, 123, 124, 125, 126, 127, 128, 129, 130, 131, 132, 133, 134, 135, 136, 137, 138, 139, 140, 141, 142, 143, 144, 145, 146, 147, 148, 149, 150, 151, 152, 153, 154, 155, 156, 157, 158, 159, 160, 161, 162, 163, 164, 165, 166, 167, 168, 169, 170, 171, 172, 173, 174, 175, 176, 177, 178, 179, 180, 181, 182, 183, 184, 185, 186, 187, 188, 189, 190, 191, 192, 193, 194, 195, 196, 197, 198, 199, 200, 201, 202, 203, 204, 205, 206, 207, 208, 209, 210, 211, 212, 213, 214, 215, 216, 217, 218, 219, 220, 221, 222, 223, 224, 225, 226, 227, 228, 229, 230, 231, 232, 233, 234, 235, 236, 237, 238, 239, 240, 241, 242, 243, 244, 245, 246, 247, 248, 249, 250, 251, 252, 253, 254, 255, 256, 257, 258, 259, 260, 261, 262, 263, 264, 265, 266, 267, 268, 269, 270, 271, 272, 273, 274, 275, 276, 277, 278, 279, 280, 281, 282, 283, 284, 285, 298, 299, 300, 301, 302, 303, 304, 305, 306, 307, 308, 309, 310, 311, 312, 313, 314, 315, 316, 317, 318, 319, 320, 321, 322, 323, 324, 291, 292, 293, 294, 295, 296, 297, 325, 326, 327] (by decide +kernel) (by decide +kernel)
set_option maxRecDepth 20000 in
theorem gX8_run_X3_perform : GoodIn wsX8_run (wsV RX8 90 RX3 yX3_perform wsX3_perform) := goodIn_app (goodIn_of _ (by decide +kernel)) ggX8_run_X3_perform
theorem dX8_run_0 : decode cX8_run 0 = .ok (.aload_n 0, 1) := by decide +kernel
theorem dX8_run_1 : decode cX8_run 1 = .ok (.getfield 10, 3) := by decide +kernel
theorem dX8_run_4 : decode cX8_run 4 = .ok (.iload_n 1, 1) := by decide +kernel
theorem dX8_run_5 : decode cX8_run 5 = .ok (.invokevirtual 58, 3) := by decide +kernel
theorem dX8_run_8 : decode cX8_run 8 = .ok (.ifCond .eq 14, 3) := by decide +kernel
theorem dX8_run_11 : decode cX8_run 11 = .ok (.iload_n 2, 1) := by decide +kernel
theorem dX8_run_12 : decode cX8_run 12 = .ok (.ifCond .lt 10, 3) := by decide +kernel
theorem dX8_run_15 : decode cX8_run 15 = .ok (.iload_n 2, 1) := by decide +kernel
theorem dX8_run_16 : decode cX8_run 16 = .ok (.sipush 2000, 3) := by decide +kernel
theorem dX8_run_19 : decode cX8_run 19 = .ok (.if_icmp .le 6, 3) := by decide +kernel
theorem dX8_run_22 : decode cX8_run 22 = .ok (.ldc 40, 2) := by decide +kernel
theorem dX8_run_24 : decode cX8_run 24 = .ok (.ireturn, 1) := by decide +kernel
theorem dX8_run_25 : decode cX8_run 25 = .ok (.aload_n 0, 1) := by decide +kernel
theorem dX8_run_26 : decode cX8_run 26 = .ok (.getfield 36, 3) := by decide +kernel
theorem dX8_run_29 : decode cX8_run 29 = .ok (.istore_n 3, 1) := by decide +kernel
theorem dX8_run_30 : decode cX8_run 30 = .ok (.aload_n 0, 1) := by decide +kernel
theorem dX8_run_31 : decode cX8_run 31 = .ok (.iconst 0, 1) := by decide +kernel
theorem dX8_run_32 : decode cX8_run 32 = .ok (.putfield 36, 3) := by decide +kernel
theorem dX8_run_35 : decode cX8_run 35 = .ok (.aload_n 0, 1) := by decide +kernel
theorem dX8_run_36 : decode cX8_run 36 = .ok (.getfield 28, 3) := by decide +kernel
theorem dX8_run_39 : decode cX8_run 39 = .ok (.iload_n 1, 1) := by decide +kernel
theorem dX8_run_40 : decode cX8_run 40 = .ok (.iload_n 2, 1) := by decide +kernel
theorem dX8_run_41 : decode cX8_run 41 = .ok (.aload_n 0, 1) := by decide +kernel
theorem dX8_run_42 : decode cX8_run 42 = .ok (.getfield 32, 3) := by decide +kernel
theorem dX8_run_45 : decode cX8_run 45 = .ok (.iload_n 3, 1) := by decide +kernel
theorem dX8_run_46 : decode cX8_run 46 = .ok (.invokevirtual 90, 3) := by decide +kernel
theorem dX8_run_49 : decode cX8_run 49 = .ok (.ireturn, 1) := by decide +kernel
set_option maxRecDepth 20000 in
theorem ggX8_told_X3_tell : GoodIn wsX8_told wsX3_tell := goodIn_r _ [6, 7, 8, 9, 10, 11, 12, 13, 14, 15, 16, 17, 18, 19, 20, 21, 27, 28, 29, 30, 31, 32, 33, 34, 35, 36, 37, 38, 39, 40, 41, 42, 43] (by decide +kernel) (by decide +kernel)
set_option maxRecDepth 20000 in
theorem gX8_told_X3_tell : GoodIn wsX8_told (wsV RX8 94 RX3 yX3_tell wsX3_tell) := goodIn_app (goodIn_of _ (by decide +kernel)) ggX8_told_X3_tell
theorem dX8_told_0 : decode cX8_told 0 = .ok (.aload_n 0, 1) := by decide +kernel
theorem dX8_told_1 : decode cX8_told 1 = .ok (.getfield 28, 3) := by decide +kernel
theorem dX8_told_4 : decode cX8_told 4 = .ok (.iload_n 1, 1) := by decide +kernel
theorem dX8_told_5 : decode cX8_told 5 = .ok (.invokevirtual 94, 3) := by decide +kernel
theorem dX8_told_8 : decode cX8_told 8 = .ok (.ireturn, 1) := by decide +kernel
set_option maxRecDepth 20000 in
theorem ggX8_size_X5_count : GoodIn wsX8_size wsX5_count := goodIn_r _ [7, 8, 24, 25, 26, 27, 28, 29, 30] (by decide +kernel) (by decide +kernel)
set_option maxRecDepth 20000 in
theorem gX8_size_X5_count : GoodIn wsX8_size (wsV RX8 97 RX5 yX5_count wsX5_count) := goodIn_app (goodIn_of _ (by decide +kernel)) ggX8_size_X5_count
set_option maxRecDepth 20000 in
theorem ggX8_size_X5_has : GoodIn wsX8_size wsX5_has := goodIn_r _ [12, 8, 24, 25, 26, 27, 28, 29, 30] (by decide +kernel) (by decide +kernel)
set_option maxRecDepth 20000 in
theorem gX8_size_X5_has : GoodIn wsX8_size (wsV RX8 58 RX5 yX5_has wsX5_has) := goodIn_app (goodIn_of _ (by decide +kernel)) ggX8_size_X5_has
set_option maxRecDepth 20000 in
theorem ggX8_size_X5_length : GoodIn wsX8_size wsX5_length := goodIn_r _ [16, 17, 18, 10, 11, 6, 12, 8, 24, 25, 26, 27, 28, 29, 30] (by decide +kernel) (by decide +kernel)
set_option maxRecDepth 20000 in
theorem gX8_size_X5_length : GoodIn wsX8_size (wsV RX8 100 RX5 yX5_length wsX5_length) := goodIn_app (goodIn_of _ (by decide +kernel)) ggX8_size_X5_length
theorem dX8_size_0 : decode cX8_size 0 = .ok (.iload_n 1, 1) := by decide +kernel
theorem dX8_size_1 : decode cX8_size 1 = .ok (.ifCond .ne 11, 3) := by decide +kernel
theorem dX8_size_4 : decode cX8_size 4 = .ok (.aload_n 0, 1) := by decide +kernel
theorem dX8_size_5 : decode cX8_size 5 = .ok (.getfield 10, 3) := by decide +kernel
theorem dX8_size_8 : decode cX8_size 8 = .ok (.invokevirtual 97, 3) := by decide +kernel
theorem dX8_size_11 : decode cX8_size 11 = .ok (.ireturn, 1) := by decide +kernel
theorem dX8_size_12 : decode cX8_size 12 = .ok (.iload_n 1, 1) := by decide +kernel
theorem dX8_size_13 : decode cX8_size 13 = .ok (.ifCond .le 29, 3) := by decide +kernel
theorem dX8_size_16 : decode cX8_size 16 = .ok (.aload_n 0, 1) := by decide +kernel
theorem dX8_size_17 : decode cX8_size 17 = .ok (.getfield 10, 3) := by decide +kernel
theorem dX8_size_20 : decode cX8_size 20 = .ok (.iload_n 1, 1) := by decide +kernel
theorem dX8_size_21 : decode cX8_size 21 = .ok (.iconst 1, 1) := by decide +kernel
theorem dX8_size_22 : decode cX8_size 22 = .ok (.isub, 1) := by decide +kernel
theorem dX8_size_23 : decode cX8_size 23 = .ok (.invokevirtual 58, 3) := by decide +kernel
theorem dX8_size_26 : decode cX8_size 26 = .ok (.ifCond .eq 16, 3) := by decide +kernel
theorem dX8_size_29 : decode cX8_size 29 = .ok (.aload_n 0, 1) := by decide +kernel
theorem dX8_size_30 : decode cX8_size 30 = .ok (.getfield 10, 3) := by decide +kernel
theorem dX8_size_33 : decode cX8_size 33 = .ok (.iload_n 1, 1) := by decide +kernel
theorem dX8_size_34 : decode cX8_size 34 = .ok (.iconst 1, 1) := by decide +kernel
theorem dX8_size_35 : decode cX8_size 35 = .ok (.isub, 1) := by decide +kernel
theorem dX8_size_36 : decode cX8_size 36 = .ok (.invokevirtual 100, 3) := by decide +kernel
theorem dX8_size_39 : decode cX8_size 39 = .ok (.goto 5, 3) := by decide +kernel
theorem dX8_size_42 : decode cX8_size 42 = .ok (.ldc 40, 2) := by decide +kernel
theorem dX8_size_44 : decode cX8_size 44 = .ok (.ireturn, 1) := by decide +kernel
set_option maxRecDepth 20000 in
theorem ggL_law_X8_init : GoodIn wsL_law wsX8_init := goodIn_r _ [8, 9, 10, 11, 12, 13, 14, 15, 16, 17, 18, 19, 20, 21, 22, 23, 24, 25, 26, 27, 28, 29, 30, 31, 32, 33, 34, 35, 36, 37, 38, 39, 40, 41, 42, 43, 44, 45, 46, 47, 48, 49, 50, 51, 52, 53, 54, 55, 56, 57, 58, 59, 60, 61, 62, 63, 64, 65, 66, 67, 68, 69, 70, 71, 72, 73, 74, 75, 76, 77, 78, 79, 80, 81, 82, 83, 84, 85, 624, 625, 626, 627, 628, 629, 630, 584, 585, 586, 587, 588, 631, 632, 633, 634, 635, 636, 637, 638, 639, 640, 641, 642, 643, 644, 645, 646, 647, 648, 649, 650, 651, 652, 653, 654, 655, 656, 657, 658, 659, 660] (by decide +kernel) (by decide +kernel)
set_option maxRecDepth 20000 in
theorem gL_law_X8_init : GoodIn wsL_law (wsX8_init) := ggL_law_X8_init
set_option maxRecDepth 20000 in
theorem ggL_law_X9_init : GoodIn wsL_law wsX9_init := goodIn_r _ [88, 89, 10, 11, 24, 90, 91, 92, 93, 94, 95, 96, 97, 98, 99, 100, 101, 102, 103, 104, 105, 106, 107, 589, 590, 591, 592, 593, 594, 595, 596, 597, 598, 599, 600, 601, 602, 603, 604, 605, 606, 607, 608, 609, 610, 611, 612, 613, 614, 615, 616, 617, 618, 619, 620, 621, 622, 623] (by decide +kernel) (by decide +kernel)
set_option maxRecDepth 20000 in
theorem gL_law_X9_init : GoodIn wsL_law (wsX9_init) := ggL_law_X9_init
set_option maxRecDepth 20000 in
theorem ggL_law_X8_routine : GoodIn wsL_law wsX8_routine := goodIn_r _ [111, 112, 15, 113, 114, 115, 116, 14, 117, 36, 118, 119, 120, 121, 122, 30, 123, 584, 585, 586, 587, 588, 624, 625, 626, 627, 628, 629, 630] (by decide +kernel) (by decide +kernel)
set_option maxRecDepth 20000 in
theorem gL_law_X8_routine : GoodIn wsL_law (wsV RL 13 RX8 yX8_routine wsX8_routine) := goodIn_app (goodIn_of _ (by decide +kernel)) ggL_law_X8_routine
set_option maxRecDepth 20000 in
theorem ggL_law_X9_routine : GoodIn wsL_law wsX9_routine := goodIn_r _ [127, 128, 129, 130, 90, 131, 132, 5, 133, 589, 590, 591, 592, 593, 594, 595, 596, 597, 598, 599, 600, 601, 602, 603, 604, 605, 606, 607, 608, 609, 610, 611, 612, 613, 614, 615, 616, 617, 618, 619, 620, 621, 622, 623] (by decide +kernel) (by decide +kernel)
set_option maxRecDepth 20000 in
theorem gL_law_X9_routine : GoodIn wsL_law (wsV RL 17 RX9 yX9_routine wsX9_routine) := goodIn_app (goodIn_of _ (by decide +kernel)) ggL_law_X9_routine
set_option maxRecDepth 20000 in
theorem ggL_law_X8_first : GoodIn wsL_law wsX8_first := goodIn_r _ [137, 15, 112, 138, 139, 140, 14, 141, 30, 142, 143, 144, 145, 36, 146, 147, 148, 149, 32, 150, 584, 585, 586, 587, 588, 624, 625, 626, 627, 628, 629, 630] (by decide +kernel) (by decide +kernel)
set_option maxRecDepth 20000 in
theorem gL_law_X8_first : GoodIn wsL_law (wsV RL 18 RX8 yX8_first wsX8_first) := goodIn_app (goodIn_of _ (by decide +kernel)) ggL_law_X8_first
set_option maxRecDepth 20000 in
theorem ggL_law_X9_first : GoodIn wsL_law wsX9_first := goodIn_r _ [154, 90, 128, 91, 155, 156, 157, 5, 158, 129, 131, 132, 133, 589, 590, 591, 592, 593, 594, 595, 596, 597, 598, 599, 600, 601, 602, 603, 604, 605, 606, 607, 608, 609, 610, 611, 612, 613, 614, 615, 616, 617, 618, 619, 620, 621, 622, 623] (by decide +kernel) (by decide +kernel)
set_option maxRecDepth 20000 in
theorem gL_law_X9_first : GoodIn wsL_law (wsV RL 22 RX9 yX9_first wsX9_first) := goodIn_app (goodIn_of _ (by decide +kernel)) ggL_law_X9_first
set_option maxRecDepth 20000 in
theorem ggL_law_X8_add : GoodIn wsL_law wsX8_add := goodIn_r _ [162, 15, 112, 113, 163, 143, 144, 14, 145, 36, 164, 165, 166, 167, 168, 169, 170, 171, 31, 142, 172, 173, 174, 175, 122, 33, 34, 35, 176, 584, 585, 586, 587, 588, 624, 625, 626, 627, 628, 629, 630] (by decide +kernel) (by decide +kernel)
set_option maxRecDepth 20000 in
theorem gL_law_X8_add : GoodIn wsL_law (wsV RL 23 RX8 yX8_add wsX8_add) := goodIn_app (goodIn_of _ (by decide +kernel)) ggL_law_X8_add
set_option maxRecDepth 20000 in
theorem ggL_law_X9_add : GoodIn wsL_law wsX9_add := goodIn_r _ [180, 128, 92, 130, 93, 94, 95, 155, 156, 157, 5, 158, 129, 131, 132, 133, 589, 590, 591, 592, 593, 594, 595, 596, 597, 598, 599, 600, 601, 602, 603, 604, 605, 606, 607, 608, 609, 610, 611, 612, 613, 614, 615, 616, 617, 618, 619, 620, 621, 622, 623] (by decide +kernel) (by decide +kernel)
set_option maxRecDepth 20000 in
theorem gL_law_X9_add : GoodIn wsL_law (wsV RL 27 RX9 yX9_add wsX9_add) := goodIn_app (goodIn_of _ (by decide +kernel)) ggL_law_X9_add
set_option maxRecDepth 20000 in
theorem ggL_law_X8_clear : GoodIn wsL_law wsX8_clear := goodIn_r _ [184, 15, 112, 163, 143, 144, 14, 145, 36, 185, 186, 187, 188, 31, 142, 584, 585, 586, 587, 588, 624, 625, 626, 627, 628, 629, 630] (by decide +kernel) (by decide +kernel)
set_option maxRecDepth 20000 in
theorem gL_law_X8_clear : GoodIn wsL_law (wsV RL 28 RX8 yX8_clear wsX8_clear) := goodIn_app (goodIn_of _ (by decide +kernel)) ggL_law_X8_clear
set_option maxRecDepth 20000 in
theorem ggL_law_X9_clear : GoodIn wsL_law wsX9_clear := goodIn_r _ [192, 128, 92, 155, 156, 157, 5, 158, 129, 131, 132, 133, 589, 590, 591, 592, 593, 594, 595, 596, 597, 598, 599, 600, 601, 602, 603, 604, 605, 606, 607, 608, 609, 610, 611, 612, 613, 614, 615, 616, 617, 618, 619, 620, 621, 622, 623] (by decide +kernel) (by decide +kernel)
set_option maxRecDepth 20000 in
theorem gL_law_X9_clear : GoodIn wsL_law (wsV RL 31 RX9 yX9_clear wsX9_clear) := goodIn_app (goodIn_of _ (by decide +kernel)) ggL_law_X9_clear
set_option maxRecDepth 20000 in
theorem ggL_law_X8_room : GoodIn wsL_law wsX8_room := goodIn_r _ [196, 19, 112, 197, 198, 199, 18, 200, 201, 202, 203, 204, 41, 40, 205, 584, 585, 586, 587, 588, 631, 632, 633] (by decide +kernel) (by decide +kernel)
set_option maxRecDepth 20000 in
theorem gL_law_X8_room : GoodIn wsL_law (wsV RL 32 RX8 yX8_room wsX8_room) := goodIn_app (goodIn_of _ (by decide +kernel)) ggL_law_X8_room
set_option maxRecDepth 20000 in
theorem ggL_law_X9_room : GoodIn wsL_law wsX9_room := goodIn_r _ [209, 128, 97, 96, 131, 132, 5, 133, 589, 590, 591, 592, 593, 594, 595, 596, 597, 598, 599, 600, 601, 602, 603, 604, 605, 606, 607, 608, 609, 610, 611, 612, 613, 614, 615, 616, 617, 618, 619, 620, 621, 622, 623] (by decide +kernel) (by decide +kernel)
set_option maxRecDepth 20000 in
theorem gL_law_X9_room : GoodIn wsL_law (wsV RL 36 RX9 yX9_room wsX9_room) := goodIn_app (goodIn_of _ (by decide +kernel)) ggL_law_X9_room
set_option maxRecDepth 20000 in
theorem ggL_law_X8_user : GoodIn wsL_law wsX8_user := goodIn_r _ [213, 19, 112, 197, 198, 199, 18, 200, 214, 215, 216, 217, 41, 205, 218, 219, 220, 221, 222, 223, 224, 225, 42, 226, 584, 585, 586, 587, 588, 631, 632, 633] (by decide +kernel) (by decide +kernel)
set_option maxRecDepth 20000 in
theorem gL_law_X8_user : GoodIn wsL_law (wsV RL 37 RX8 yX8_user wsX8_user) := goodIn_app (goodIn_of _ (by decide +kernel)) ggL_law_X8_user
set_option maxRecDepth 20000 in
theorem ggL_law_X9_user : GoodIn wsL_law wsX9_user := goodIn_r _ [230, 97, 128, 98, 131, 132, 5, 133, 589, 590, 591, 592, 593, 594, 595, 596, 597, 598, 599, 600, 601, 602, 603, 604, 605, 606, 607, 608, 609, 610, 611, 612, 613, 614, 615, 616, 617, 618, 619, 620, 621, 622, 623] (by decide +kernel) (by decide +kernel)
set_option maxRecDepth 20000 in
theorem gL_law_X9_user : GoodIn wsL_law (wsV RL 40 RX9 yX9_user wsX9_user) := goodIn_app (goodIn_of _ (by decide +kernel)) ggL_law_X9_user
set_option maxRecDepth 20000 in
theorem ggL_law_X8_interrupt : GoodIn wsL_law wsX8_interrupt := goodIn_r _ [234, 23, 15, 112, 235, 236, 237, 22, 238, 55, 56, 163, 143, 144, 14, 145, 36, 584, 585, 586, 587, 588, 634, 635, 636, 637, 638, 639, 640, 641, 642, 624, 625, 626, 627, 628, 629, 630] (by decide +kernel) (by decide +kernel)
set_option maxRecDepth 20000 in
theorem gL_law_X8_interrupt : GoodIn wsL_law (wsV RL 41 RX8 yX8_interrupt wsX8_interrupt) := goodIn_app (goodIn_of _ (by decide +kernel)) ggL_law_X8_interrupt
set_option maxRecDepth 20000 in
theorem ggL_law_X9_interrupt : GoodIn wsL_law wsX9_interrupt := goodIn_r _ [242, 99, 128, 100, 155, 156, 157, 5, 158, 129, 131, 132, 133, 589, 590, 591, 592, 593, 594, 595, 596, 597, 598, 599, 600, 601, 602, 603, 604, 605, 606, 607, 608, 609, 610, 611, 612, 613, 614, 615, 616, 617, 618, 619, 620, 621, 622, 623] (by decide +kernel) (by decide +kernel)
set_option maxRecDepth 20000 in
theorem gL_law_X9_interrupt : GoodIn wsL_law (wsV RL 44 RX9 yX9_interrupt wsX9_interrupt) := goodIn_app (goodIn_of _ (by decide +kernel)) ggL_law_X9_interrupt
set_option maxRecDepth 20000 in
theorem ggL_law_X8_give : GoodIn wsL_law wsX8_give := goodIn_r _ [246, 26, 113, 25, 584, 585, 586, 587, 588] (by decide +kernel) (by decide +kernel)
set_option maxRecDepth 20000 in
theorem gL_law_X8_give : GoodIn wsL_law (wsV RL 45 RX8 yX8_give wsX8_give) := goodIn_app (goodIn_of _ (by decide +kernel)) ggL_law_X8_give
set_option maxRecDepth 20000 in
theorem ggL_law_X9_give : GoodIn wsL_law wsX9_give := goodIn_r _ [250, 251, 130, 101, 589, 590, 591, 592, 593, 594, 595, 596, 597, 598, 599, 600, 601, 602, 603, 604, 605, 606, 607, 608, 609, 610, 611, 612, 613, 614, 615, 616, 617, 618, 619, 620, 621, 622, 623] (by decide +kernel) (by decide +kernel)
set_option maxRecDepth 20000 in
theorem gL_law_X9_give : GoodIn wsL_law (wsV RL 48 RX9 yX9_give wsX9_give) := goodIn_app (goodIn_of _ (by decide +kernel)) ggL_law_X9_give
set_option maxRecDepth 20000 in
theorem ggL_law_X8_run : GoodIn wsL_law wsX8_run := goodIn_r _ [255, 15, 112, 26, 23, 25, 163, 143, 144, 14, 145, 36, 256, 257, 258, 22, 259, 54, 57, 58, 50, 60, 260, 261, 59, 262, 263, 264, 53, 265, 78, 79, 80, 81, 82, 83, 84, 85, 266, 267, 268, 49, 269, 72, 73, 74, 270, 271, 272, 273, 274, 275, 276, 277, 65, 66, 67, 68, 69, 70, 278, 279, 280, 281, 282, 283, 284, 285, 30, 142, 286, 287, 288, 289, 32, 290, 291, 292, 293, 294, 295, 296, 297, 298, 299, 300, 301, 302, 303, 304, 305, 306, 307, 308, 309, 310, 311, 312, 313, 314, 315, 316, 317, 318, 319, 320, 321, 322, 323, 324, 325, 326, 327, 328, 329, 330, 331, 332, 333, 334, 335, 336, 337, 338, 339, 31, 340, 341, 342, 343, 344, 345, 346, 347, 33, 348, 349, 350, 351, 352, 34, 353, 354, 355, 356, 71, 357, 358, 359, 360, 361, 362, 363, 364, 365, 366, 367, 368, 369, 370, 371, 372, 373, 374, 375, 376, 377, 378, 379, 380, 381, 382, 383, 384, 385, 386, 387, 388, 389, 390, 391, 392, 393, 394, 395, 396, 397, 398, 399, 400, 401, 402, 403, 404, 405, 406, 407, 408, 409, 410, 35, 411, 412, 413, 414, 415, 416, 417, 418, 419, 420, 421, 422, 423, 424, 425, 426, 427, 428, 429, 430, 431, 432, 433, 434, 435, 436, 437, 438, 439, 440, 441, 442, 443, 444, 445, 446, 447, 448, 449, 450, 61, 451, 198, 199, 18, 200, 452, 453, 454, 455, 41, 40, 42, 205, 456, 457, 458, 459, 460, 219, 220, 221, 461, 462, 463, 464, 465, 466, 467, 468, 469, 470, 471, 472, 473, 474, 475, 476, 56, 477, 55, 478, 479, 480, 481, 584, 585, 586, 587, 588, 624, 625, 626, 627, 628, 629, 630, 634, 635, 636, 637, 638, 639, 640, 641, 642, 653, 654, 655, 656, 657, 658, 659, 660, 643, 644, 645, 646, 647, 648, 649, 650, 651, 652, 631, 632, 633] (by decide +kernel) (by decide +kernel)
set_option maxRecDepth 20000 in
theorem gL_law_X8_run : GoodIn wsL_law (wsV RL 49 RX8 yX8_run wsX8_run) := goodIn_app (goodIn_of _ (by decide +kernel)) ggL_law_X8_run
set_option maxRecDepth 20000 in
theorem ggL_law_X9_run : GoodIn wsL_law wsX9_run := goodIn_r _ [485, 128, 486, 487, 488, 489, 490, 491, 492, 493, 494, 495, 496, 497, 251, 101, 498, 499, 500, 501, 155, 156, 157, 5, 158, 129, 131, 132, 133, 502, 503, 504, 505, 102, 103, 104, 105, 90, 106, 91, 506, 507, 508, 509, 92, 93, 94, 95, 99, 100, 107, 510, 511, 512, 513, 514, 515, 516, 517, 518, 519, 520, 521, 522, 523, 524, 525, 526, 527, 528, 529, 530, 531, 532, 533, 534, 535, 536, 537, 538, 539, 540, 541, 542, 543, 544, 545, 546, 547, 548, 549, 97, 96, 98, 550, 551, 552, 553, 589, 590, 591, 592, 593, 594, 595, 596, 597, 598, 599, 600, 601, 602, 603, 604, 605, 606, 607, 608, 609, 610, 611, 612, 613, 614, 615, 616, 617, 618, 619, 620, 621, 622, 623] (by decide +kernel) (by decide +kernel)
set_option maxRecDepth 20000 in
theorem gL_law_X9_run : GoodIn wsL_law (wsV RL 52 RX9 yX9_run wsX9_run) := goodIn_app (goodIn_of _ (by decide +kernel)) ggL_law_X9_run
set_option maxRecDepth 20000 in
theorem ggL_law_X8_told : GoodIn wsL_law wsX8_told := goodIn_r _ [557, 23, 558, 559, 560, 22, 561, 54, 562, 563, 564, 53, 565, 78, 79, 80, 81, 82, 83, 84, 85, 566, 584, 585, 586, 587, 588, 634, 635, 636, 637, 638, 639, 640, 641, 642, 653, 654, 655, 656, 657, 658, 659, 660] (by decide +kernel) (by decide +kernel)
set_option maxRecDepth 20000 in
theorem gL_law_X8_told : GoodIn wsL_law (wsV RL 53 RX8 yX8_told wsX8_told) := goodIn_app (goodIn_of _ (by decide +kernel)) ggL_law_X8_told
set_option maxRecDepth 20000 in
theorem ggL_law_X9_told : GoodIn wsL_law wsX9_told := goodIn_r _ [570, 498, 494, 495, 496, 497, 490, 492, 493, 128, 589, 590, 591, 592, 593, 594, 595, 596, 597, 598, 599, 600, 601, 602, 603, 604, 605, 606, 607, 608, 609, 610, 611, 612, 613, 614, 615, 616, 617, 618, 619, 620, 621, 622, 623] (by decide +kernel) (by decide +kernel)
set_option maxRecDepth 20000 in
theorem gL_law_X9_told : GoodIn wsL_law (wsV RL 56 RX9 yX9_told wsX9_told) := goodIn_app (goodIn_of _ (by decide +kernel)) ggL_law_X9_told
set_option maxRecDepth 20000 in
theorem ggL_law_X8_size : GoodIn wsL_law wsX8_size := goodIn_r _ [574, 15, 112, 575, 576, 577, 14, 578, 36, 163, 143, 144, 145, 579, 169, 170, 171, 31, 142, 584, 585, 586, 587, 588, 624, 625, 626, 627, 628, 629, 630] (by decide +kernel) (by decide +kernel)
set_option maxRecDepth 20000 in
theorem gL_law_X8_size : GoodIn wsL_law (wsV RL 57 RX8 yX8_size wsX8_size) := goodIn_app (goodIn_of _ (by decide +kernel)) ggL_law_X8_size
set_option maxRecDepth 20000 in
theorem ggL_law_X9_size : GoodIn wsL_law wsX9_size := goodIn_r _ [583, 129, 92, 128, 131, 132, 5, 133, 589, 590, 591, 592, 593, 594, 595, 596, 597, 598, 599, 600, 601, 602, 603, 604, 605, 606, 607, 608, 609, 610, 611, 612, 613, 614, 615, 616, 617, 618, 619, 620, 621, 622, 623] (by decide +kernel) (by decide +kernel)
set_option maxRecDepth 20000 in
theorem gL_law_X9_size : GoodIn wsL_law (wsV RL 60 RX9 yX9_size wsX9_size) := goodIn_app (goodIn_of _ (by decide +kernel)) ggL_law_X9_size
theorem dL_law_0 : decode cL_law 0 = .ok (.new 7, 3) := by decide +kernel
theorem dL_law_3 : decode cL_law 3 = .ok (.dup, 1) := by decide +kernel
theorem dL_law_4 : decode cL_law 4 = .ok (.invokespecial 9, 3) := by decide +kernel
theorem dL_law_7 : decode cL_law 7 = .ok (.astore_n 1, 1) := by decide +kernel
theorem dL_law_8 : decode cL_law 8 = .ok (.new 10, 3) := by decide +kernel
theorem dL_law_11 : decode cL_law 11 = .ok (.dup, 1) := by decide +kernel
theorem dL_law_12 : decode cL_law 12 = .ok (.invokespecial 12, 3) := by decide +kernel
theorem dL_law_15 : decode cL_law 15 = .ok (.astore_n 2, 1) := by decide +kernel
theorem dL_law_16 : decode cL_law 16 = .ok (.iconst 0, 1) := by decide +kernel
theorem dL_law_17 : decode cL_law 17 = .ok (.istore_n 3, 1) := by decide +kernel
theorem dL_law_18 : decode cL_law 18 = .ok (.iload_n 3, 1) := by decide +kernel
theorem dL_law_19 : decode cL_law 19 = .ok (.aload_n 0, 1) := by decide +kernel
theorem dL_law_20 : decode cL_law 20 = .ok (.arraylength, 1) := by decide +kernel
theorem dL_law_21 : decode cL_law 21 = .ok (.iconst 5, 1) := by decide +kernel
theorem dL_law_22 : decode cL_law 22 = .ok (.isub, 1) := by decide +kernel
theorem dL_law_23 : decode cL_law 23 = .ok (.if_icmp .gt 418, 3) := by decide +kernel
theorem dL_law_26 : decode cL_law 26 = .ok (.aload_n 0, 1) := by decide +kernel
theorem dL_law_27 : decode cL_law 27 = .ok (.iload_n 3, 1) := by decide +kernel
theorem dL_law_28 : decode cL_law 28 = .ok (.iaload, 1) := by decide +kernel
theorem dL_law_29 : decode cL_law 29 = .ok (.bipush 15, 2) := by decide +kernel
theorem dL_law_31 : decode cL_law 31 = .ok (.iand, 1) := by decide +kernel
theorem dL_law_32 : decode cL_law 32 = .ok (.tableswitch 403 0 10 #[60, 83, 126, 179, 202, 235, 268, 301, 324, 357, 380], 60) := by decide +kernel
theorem dL_law_92 : decode cL_law 92 = .ok (.aload_n 1, 1) := by decide +kernel
theorem dL_law_93 : decode cL_law 93 = .ok (.aload_n 0, 1) := by decide +kernel
theorem dL_law_94 : decode cL_law 94 = .ok (.iload_n 3, 1) := by decide +kernel
theorem dL_law_95 : decode cL_law 95 = .ok (.iconst 1, 1) := by decide +kernel
theorem dL_law_96 : decode cL_law 96 = .ok (.iadd, 1) := by decide +kernel
theorem dL_law_97 : decode cL_law 97 = .ok (.iaload, 1) := by decide +kernel
theorem dL_law_98 : decode cL_law 98 = .ok (.invokevirtual 13, 3) := by decide +kernel
theorem dL_law_101 : decode cL_law 101 = .ok (.aload_n 2, 1) := by decide +kernel
theorem dL_law_102 : decode cL_law 102 = .ok (.aload_n 0, 1) := by decide +kernel
theorem dL_law_103 : decode cL_law 103 = .ok (.iload_n 3, 1) := by decide +kernel
theorem dL_law_104 : decode cL_law 104 = .ok (.iconst 1, 1) := by decide +kernel
theorem dL_law_105 : decode cL_law 105 = .ok (.iadd, 1) := by decide +kernel
theorem dL_law_106 : decode cL_law 106 = .ok (.iaload, 1) := by decide +kernel
theorem dL_law_107 : decode cL_law 107 = .ok (.invokevirtual 17, 3) := by decide +kernel
theorem dL_law_110 : decode cL_law 110 = .ok (.if_icmp .eq 325, 3) := by decide +kernel
theorem dL_law_113 : decode cL_law 113 = .ok (.iconst 0, 1) := by decide +kernel
theorem dL_law_114 : decode cL_law 114 = .ok (.ireturn, 1) := by decide +kernel
theorem dL_law_115 : decode cL_law 115 = .ok (.aload_n 1, 1) := by decide +kernel
theorem dL_law_116 : decode cL_law 116 = .ok (.aload_n 0, 1) := by decide +kernel
theorem dL_law_117 : decode cL_law 117 = .ok (.iload_n 3, 1) := by decide +kernel
theorem dL_law_118 : decode cL_law 118 = .ok (.iconst 1, 1) := by decide +kernel
theorem dL_law_119 : decode cL_law 119 = .ok (.iadd, 1) := by decide +kernel
theorem dL_law_120 : decode cL_law 120 = .ok (.iaload, 1) := by decide +kernel
theorem dL_law_121 : decode cL_law 121 = .ok (.aload_n 0, 1) := by decide +kernel
theorem dL_law_122 : decode cL_law 122 = .ok (.iload_n 3, 1) := by decide +kernel
theorem dL_law_123 : decode cL_law 123 = .ok (.iconst 2, 1) := by decide +kernel
theorem dL_law_124 : decode cL_law 124 = .ok (.iadd, 1) := by decide +kernel
theorem dL_law_125 : decode cL_law 125 = .ok (.iaload, 1) := by decide +kernel
theorem dL_law_126 : decode cL_law 126 = .ok (.aload_n 0, 1) := by decide +kernel
theorem dL_law_127 : decode cL_law 127 = .ok (.iload_n 3, 1) := by decide +kernel
theorem dL_law_128 : decode cL_law 128 = .ok (.iconst 3, 1) := by decide +kernel
theorem dL_law_129 : decode cL_law 129 = .ok (.iadd, 1) := by decide +kernel
theorem dL_law_130 : decode cL_law 130 = .ok (.iaload, 1) := by decide +kernel
theorem dL_law_131 : decode cL_law 131 = .ok (.invokevirtual 18, 3) := by decide +kernel
theorem dL_law_134 : decode cL_law 134 = .ok (.aload_n 2, 1) := by decide +kernel
theorem dL_law_135 : decode cL_law 135 = .ok (.aload_n 0, 1) := by decide +kernel
theorem dL_law_136 : decode cL_law 136 = .ok (.iload_n 3, 1) := by decide +kernel
theorem dL_law_137 : decode cL_law 137 = .ok (.iconst 1, 1) := by decide +kernel
theorem dL_law_138 : decode cL_law 138 = .ok (.iadd, 1) := by decide +kernel
theorem dL_law_139 : decode cL_law 139 = .ok (.iaload, 1) := by decide +kernel
theorem dL_law_140 : decode cL_law 140 = .ok (.aload_n 0, 1) := by decide +kernel
theorem dL_law_141 : decode cL_law 141 = .ok (.iload_n 3, 1) := by decide +kernel
theorem dL_law_142 : decode cL_law 142 = .ok (.iconst 2, 1) := by decide +kernel
theorem dL_law_143 : decode cL_law 143 = .ok (.iadd, 1) := by decide +kernel
theorem dL_law_144 : decode cL_law 144 = .ok (.iaload, 1) := by decide +kernel
theorem dL_law_145 : decode cL_law 145 = .ok (.aload_n 0, 1) := by decide +kernel
theorem dL_law_146 : decode cL_law 146 = .ok (.iload_n 3, 1) := by decide +kernel
theorem dL_law_147 : decode cL_law 147 = .ok (.iconst 3, 1) := by decide +kernel
theorem dL_law_148 : decode cL_law 148 = .ok (.iadd, 1) := by decide +kernel
theorem dL_law_149 : decode cL_law 149 = .ok (.iaload, 1) := by decide +kernel
theorem dL_law_150 : decode cL_law 150 = .ok (.invokevirtual 22, 3) := by decide +kernel
theorem dL_law_153 : decode cL_law 153 = .ok (.if_icmp .eq 282, 3) := by decide +kernel
theorem dL_law_156 : decode cL_law 156 = .ok (.iconst 0, 1) := by decide +kernel
theorem dL_law_157 : decode cL_law 157 = .ok (.ireturn, 1) := by decide +kernel
theorem dL_law_158 : decode cL_law 158 = .ok (.aload_n 1, 1) := by decide +kernel
theorem dL_law_159 : decode cL_law 159 = .ok (.aload_n 0, 1) := by decide +kernel
theorem dL_law_160 : decode cL_law 160 = .ok (.iload_n 3, 1) := by decide +kernel
theorem dL_law_161 : decode cL_law 161 = .ok (.iconst 1, 1) := by decide +kernel
theorem dL_law_162 : decode cL_law 162 = .ok (.iadd, 1) := by decide +kernel
theorem dL_law_163 : decode cL_law 163 = .ok (.iaload, 1) := by decide +kernel
theorem dL_law_164 : decode cL_law 164 = .ok (.aload_n 0, 1) := by decide +kernel
theorem dL_law_165 : decode cL_law 165 = .ok (.iload_n 3, 1) := by decide +kernel
theorem dL_law_166 : decode cL_law 166 = .ok (.iconst 2, 1) := by decide +kernel
theorem dL_law_167 : decode cL_law 167 = .ok (.iadd, 1) := by decide +kernel
theorem dL_law_168 : decode cL_law 168 = .ok (.iaload, 1) := by decide +kernel
theorem dL_law_169 : decode cL_law 169 = .ok (.aload_n 0, 1) := by decide +kernel
theorem dL_law_170 : decode cL_law 170 = .ok (.iload_n 3, 1) := by decide +kernel
theorem dL_law_171 : decode cL_law 171 = .ok (.iconst 3, 1) := by decide +kernel
theorem dL_law_172 : decode cL_law 172 = .ok (.iadd, 1) := by decide +kernel
theorem dL_law_173 : decode cL_law 173 = .ok (.iaload, 1) := by decide +kernel
theorem dL_law_174 : decode cL_law 174 = .ok (.aload_n 0, 1) := by decide +kernel
theorem dL_law_175 : decode cL_law 175 = .ok (.iload_n 3, 1) := by decide +kernel
theorem dL_law_176 : decode cL_law 176 = .ok (.iconst 4, 1) := by decide +kernel
theorem dL_law_177 : decode cL_law 177 = .ok (.iadd, 1) := by decide +kernel
theorem dL_law_178 : decode cL_law 178 = .ok (.iaload, 1) := by decide +kernel
theorem dL_law_179 : decode cL_law 179 = .ok (.invokevirtual 23, 3) := by decide +kernel
theorem dL_law_182 : decode cL_law 182 = .ok (.aload_n 2, 1) := by decide +kernel
theorem dL_law_183 : decode cL_law 183 = .ok (.aload_n 0, 1) := by decide +kernel
theorem dL_law_184 : decode cL_law 184 = .ok (.iload_n 3, 1) := by decide +kernel
theorem dL_law_185 : decode cL_law 185 = .ok (.iconst 1, 1) := by decide +kernel
theorem dL_law_186 : decode cL_law 186 = .ok (.iadd, 1) := by decide +kernel
theorem dL_law_187 : decode cL_law 187 = .ok (.iaload, 1) := by decide +kernel
theorem dL_law_188 : decode cL_law 188 = .ok (.aload_n 0, 1) := by decide +kernel
theorem dL_law_189 : decode cL_law 189 = .ok (.iload_n 3, 1) := by decide +kernel
theorem dL_law_190 : decode cL_law 190 = .ok (.iconst 2, 1) := by decide +kernel
theorem dL_law_191 : decode cL_law 191 = .ok (.iadd, 1) := by decide +kernel
theorem dL_law_192 : decode cL_law 192 = .ok (.iaload, 1) := by decide +kernel
theorem dL_law_193 : decode cL_law 193 = .ok (.aload_n 0, 1) := by decide +kernel
theorem dL_law_194 : decode cL_law 194 = .ok (.iload_n 3, 1) := by decide +kernel
theorem dL_law_195 : decode cL_law 195 = .ok (.iconst 3, 1) := by decide +kernel
theorem dL_law_196 : decode cL_law 196 = .ok (.iadd, 1) := by decide +kernel
theorem dL_law_197 : decode cL_law 197 = .ok (.iaload, 1) := by decide +kernel
theorem dL_law_198 : decode cL_law 198 = .ok (.aload_n 0, 1) := by decide +kernel
theorem dL_law_199 : decode cL_law 199 = .ok (.iload_n 3, 1) := by decide +kernel
theorem dL_law_200 : decode cL_law 200 = .ok (.iconst 4, 1) := by decide +kernel
theorem dL_law_201 : decode cL_law 201 = .ok (.iadd, 1) := by decide +kernel
theorem dL_law_202 : decode cL_law 202 = .ok (.iaload, 1) := by decide +kernel
theorem dL_law_203 : decode cL_law 203 = .ok (.invokevirtual 27, 3) := by decide +kernel
theorem dL_law_206 : decode cL_law 206 = .ok (.if_icmp .eq 229, 3) := by decide +kernel
theorem dL_law_209 : decode cL_law 209 = .ok (.iconst 0, 1) := by decide +kernel
theorem dL_law_210 : decode cL_law 210 = .ok (.ireturn, 1) := by decide +kernel
theorem dL_law_211 : decode cL_law 211 = .ok (.aload_n 1, 1) := by decide +kernel
theorem dL_law_212 : decode cL_law 212 = .ok (.aload_n 0, 1) := by decide +kernel
theorem dL_law_213 : decode cL_law 213 = .ok (.iload_n 3, 1) := by decide +kernel
theorem dL_law_214 : decode cL_law 214 = .ok (.iconst 1, 1) := by decide +kernel
theorem dL_law_215 : decode cL_law 215 = .ok (.iadd, 1) := by decide +kernel
theorem dL_law_216 : decode cL_law 216 = .ok (.iaload, 1) := by decide +kernel
theorem dL_law_217 : decode cL_law 217 = .ok (.invokevirtual 28, 3) := by decide +kernel
theorem dL_law_220 : decode cL_law 220 = .ok (.aload_n 2, 1) := by decide +kernel
theorem dL_law_221 : decode cL_law 221 = .ok (.aload_n 0, 1) := by decide +kernel
theorem dL_law_222 : decode cL_law 222 = .ok (.iload_n 3, 1) := by decide +kernel
theorem dL_law_223 : decode cL_law 223 = .ok (.iconst 1, 1) := by decide +kernel
theorem dL_law_224 : decode cL_law 224 = .ok (.iadd, 1) := by decide +kernel
theorem dL_law_225 : decode cL_law 225 = .ok (.iaload, 1) := by decide +kernel
theorem dL_law_226 : decode cL_law 226 = .ok (.invokevirtual 31, 3) := by decide +kernel
theorem dL_law_229 : decode cL_law 229 = .ok (.if_icmp .eq 206, 3) := by decide +kernel
theorem dL_law_232 : decode cL_law 232 = .ok (.iconst 0, 1) := by decide +kernel
theorem dL_law_233 : decode cL_law 233 = .ok (.ireturn, 1) := by decide +kernel
theorem dL_law_234 : decode cL_law 234 = .ok (.aload_n 1, 1) := by decide +kernel
theorem dL_law_235 : decode cL_law 235 = .ok (.aload_n 0, 1) := by decide +kernel
theorem dL_law_236 : decode cL_law 236 = .ok (.iload_n 3, 1) := by decide +kernel
theorem dL_law_237 : decode cL_law 237 = .ok (.iconst 1, 1) := by decide +kernel
theorem dL_law_238 : decode cL_law 238 = .ok (.iadd, 1) := by decide +kernel
theorem dL_law_239 : decode cL_law 239 = .ok (.iaload, 1) := by decide +kernel
theorem dL_law_240 : decode cL_law 240 = .ok (.aload_n 0, 1) := by decide +kernel
theorem dL_law_241 : decode cL_law 241 = .ok (.iload_n 3, 1) := by decide +kernel
theorem dL_law_242 : decode cL_law 242 = .ok (.iconst 2, 1) := by decide +kernel
theorem dL_law_243 : decode cL_law 243 = .ok (.iadd, 1) := by decide +kernel
theorem dL_law_244 : decode cL_law 244 = .ok (.iaload, 1) := by decide +kernel
theorem dL_law_245 : decode cL_law 245 = .ok (.invokevirtual 32, 3) := by decide +kernel
theorem dL_law_248 : decode cL_law 248 = .ok (.aload_n 2, 1) := by decide +kernel
theorem dL_law_249 : decode cL_law 249 = .ok (.aload_n 0, 1) := by decide +kernel
theorem dL_law_250 : decode cL_law 250 = .ok (.iload_n 3, 1) := by decide +kernel
theorem dL_law_251 : decode cL_law 251 = .ok (.iconst 1, 1) := by decide +kernel
theorem dL_law_252 : decode cL_law 252 = .ok (.iadd, 1) := by decide +kernel
theorem dL_law_253 : decode cL_law 253 = .ok (.iaload, 1) := by decide +kernel
theorem dL_law_254 : decode cL_law 254 = .ok (.aload_n 0, 1) := by decide +kernel
theorem dL_law_255 : decode cL_law 255 = .ok (.iload_n 3, 1) := by decide +kernel
theorem dL_law_256 : decode cL_law 256 = .ok (.iconst 2, 1) := by decide +kernel
theorem dL_law_257 : decode cL_law 257 = .ok (.iadd, 1) := by decide +kernel
theorem dL_law_258 : decode cL_law 258 = .ok (.iaload, 1) := by decide +kernel
theorem dL_law_259 : decode cL_law 259 = .ok (.invokevirtual 36, 3) := by decide +kernel
theorem dL_law_262 : decode cL_law 262 = .ok (.if_icmp .eq 173, 3) := by decide +kernel
theorem dL_law_265 : decode cL_law 265 = .ok (.iconst 0, 1) := by decide +kernel
theorem dL_law_266 : decode cL_law 266 = .ok (.ireturn, 1) := by decide +kernel
theorem dL_law_267 : decode cL_law 267 = .ok (.aload_n 1, 1) := by decide +kernel
theorem dL_law_268 : decode cL_law 268 = .ok (.aload_n 0, 1) := by decide +kernel
theorem dL_law_269 : decode cL_law 269 = .ok (.iload_n 3, 1) := by decide +kernel
theorem dL_law_270 : decode cL_law 270 = .ok (.iconst 1, 1) := by decide +kernel
theorem dL_law_271 : decode cL_law 271 = .ok (.iadd, 1) := by decide +kernel
theorem dL_law_272 : decode cL_law 272 = .ok (.iaload, 1) := by decide +kernel
theorem dL_law_273 : decode cL_law 273 = .ok (.aload_n 0, 1) := by decide +kernel
theorem dL_law_274 : decode cL_law 274 = .ok (.iload_n 3, 1) := by decide +kernel
theorem dL_law_275 : decode cL_law 275 = .ok (.iconst 2, 1) := by decide +kernel
theorem dL_law_276 : decode cL_law 276 = .ok (.iadd, 1) := by decide +kernel
theorem dL_law_277 : decode cL_law 277 = .ok (.iaload, 1) := by decide +kernel
theorem dL_law_278 : decode cL_law 278 = .ok (.invokevirtual 37, 3) := by decide +kernel
theorem dL_law_281 : decode cL_law 281 = .ok (.aload_n 2, 1) := by decide +kernel
theorem dL_law_282 : decode cL_law 282 = .ok (.aload_n 0, 1) := by decide +kernel
theorem dL_law_283 : decode cL_law 283 = .ok (.iload_n 3, 1) := by decide +kernel
theorem dL_law_284 : decode cL_law 284 = .ok (.iconst 1, 1) := by decide +kernel
theorem dL_law_285 : decode cL_law 285 = .ok (.iadd, 1) := by decide +kernel
theorem dL_law_286 : decode cL_law 286 = .ok (.iaload, 1) := by decide +kernel
theorem dL_law_287 : decode cL_law 287 = .ok (.aload_n 0, 1) := by decide +kernel
theorem dL_law_288 : decode cL_law 288 = .ok (.iload_n 3, 1) := by decide +kernel
theorem dL_law_289 : decode cL_law 289 = .ok (.iconst 2, 1) := by decide +kernel
theorem dL_law_290 : decode cL_law 290 = .ok (.iadd, 1) := by decide +kernel
theorem dL_law_291 : decode cL_law 291 = .ok (.iaload, 1) := by decide +kernel
theorem dL_law_292 : decode cL_law 292 = .ok (.invokevirtual 40, 3) := by decide +kernel
theorem dL_law_295 : decode cL_law 295 = .ok (.if_icmp .eq 140, 3) := by decide +kernel
theorem dL_law_298 : decode cL_law 298 = .ok (.iconst 0, 1) := by decide +kernel
theorem dL_law_299 : decode cL_law 299 = .ok (.ireturn, 1) := by decide +kernel
theorem dL_law_300 : decode cL_law 300 = .ok (.aload_n 1, 1) := by decide +kernel
theorem dL_law_301 : decode cL_law 301 = .ok (.aload_n 0, 1) := by decide +kernel
theorem dL_law_302 : decode cL_law 302 = .ok (.iload_n 3, 1) := by decide +kernel
theorem dL_law_303 : decode cL_law 303 = .ok (.iconst 1, 1) := by decide +kernel
theorem dL_law_304 : decode cL_law 304 = .ok (.iadd, 1) := by decide +kernel
theorem dL_law_305 : decode cL_law 305 = .ok (.iaload, 1) := by decide +kernel
theorem dL_law_306 : decode cL_law 306 = .ok (.aload_n 0, 1) := by decide +kernel
theorem dL_law_307 : decode cL_law 307 = .ok (.iload_n 3, 1) := by decide +kernel
theorem dL_law_308 : decode cL_law 308 = .ok (.iconst 2, 1) := by decide +kernel
theorem dL_law_309 : decode cL_law 309 = .ok (.iadd, 1) := by decide +kernel
theorem dL_law_310 : decode cL_law 310 = .ok (.iaload, 1) := by decide +kernel
theorem dL_law_311 : decode cL_law 311 = .ok (.invokevirtual 41, 3) := by decide +kernel
theorem dL_law_314 : decode cL_law 314 = .ok (.aload_n 2, 1) := by decide +kernel
theorem dL_law_315 : decode cL_law 315 = .ok (.aload_n 0, 1) := by decide +kernel
theorem dL_law_316 : decode cL_law 316 = .ok (.iload_n 3, 1) := by decide +kernel
theorem dL_law_317 : decode cL_law 317 = .ok (.iconst 1, 1) := by decide +kernel
theorem dL_law_318 : decode cL_law 318 = .ok (.iadd, 1) := by decide +kernel
theorem dL_law_319 : decode cL_law 319 = .ok (.iaload, 1) := by decide +kernel
theorem dL_law_320 : decode cL_law 320 = .ok (.aload_n 0, 1) := by decide +kernel
theorem dL_law_321 : decode cL_law 321 = .ok (.iload_n 3, 1) := by decide +kernel
theorem dL_law_322 : decode cL_law 322 = .ok (.iconst 2, 1) := by decide +kernel
theorem dL_law_323 : decode cL_law 323 = .ok (.iadd, 1) := by decide +kernel
theorem dL_law_324 : decode cL_law 324 = .ok (.iaload, 1) := by decide +kernel
theorem dL_law_325 : decode cL_law 325 = .ok (.invokevirtual 44, 3) := by decide +kernel
theorem dL_law_328 : decode cL_law 328 = .ok (.if_icmp .eq 107, 3) := by decide +kernel
theorem dL_law_331 : decode cL_law 331 = .ok (.iconst 0, 1) := by decide +kernel
theorem dL_law_332 : decode cL_law 332 = .ok (.ireturn, 1) := by decide +kernel
theorem dL_law_333 : decode cL_law 333 = .ok (.aload_n 1, 1) := by decide +kernel
theorem dL_law_334 : decode cL_law 334 = .ok (.aload_n 0, 1) := by decide +kernel
theorem dL_law_335 : decode cL_law 335 = .ok (.iload_n 3, 1) := by decide +kernel
theorem dL_law_336 : decode cL_law 336 = .ok (.iconst 1, 1) := by decide +kernel
theorem dL_law_337 : decode cL_law 337 = .ok (.iadd, 1) := by decide +kernel
theorem dL_law_338 : decode cL_law 338 = .ok (.iaload, 1) := by decide +kernel
theorem dL_law_339 : decode cL_law 339 = .ok (.invokevirtual 45, 3) := by decide +kernel
theorem dL_law_342 : decode cL_law 342 = .ok (.aload_n 2, 1) := by decide +kernel
theorem dL_law_343 : decode cL_law 343 = .ok (.aload_n 0, 1) := by decide +kernel
theorem dL_law_344 : decode cL_law 344 = .ok (.iload_n 3, 1) := by decide +kernel
theorem dL_law_345 : decode cL_law 345 = .ok (.iconst 1, 1) := by decide +kernel
theorem dL_law_346 : decode cL_law 346 = .ok (.iadd, 1) := by decide +kernel
theorem dL_law_347 : decode cL_law 347 = .ok (.iaload, 1) := by decide +kernel
theorem dL_law_348 : decode cL_law 348 = .ok (.invokevirtual 48, 3) := by decide +kernel
theorem dL_law_351 : decode cL_law 351 = .ok (.if_icmp .eq 84, 3) := by decide +kernel
theorem dL_law_354 : decode cL_law 354 = .ok (.iconst 0, 1) := by decide +kernel
theorem dL_law_355 : decode cL_law 355 = .ok (.ireturn, 1) := by decide +kernel
theorem dL_law_356 : decode cL_law 356 = .ok (.aload_n 1, 1) := by decide +kernel
theorem dL_law_357 : decode cL_law 357 = .ok (.aload_n 0, 1) := by decide +kernel
theorem dL_law_358 : decode cL_law 358 = .ok (.iload_n 3, 1) := by decide +kernel
theorem dL_law_359 : decode cL_law 359 = .ok (.iconst 1, 1) := by decide +kernel
theorem dL_law_360 : decode cL_law 360 = .ok (.iadd, 1) := by decide +kernel
theorem dL_law_361 : decode cL_law 361 = .ok (.iaload, 1) := by decide +kernel
theorem dL_law_362 : decode cL_law 362 = .ok (.aload_n 0, 1) := by decide +kernel
theorem dL_law_363 : decode cL_law 363 = .ok (.iload_n 3, 1) := by decide +kernel
theorem dL_law_364 : decode cL_law 364 = .ok (.iconst 2, 1) := by decide +kernel
theorem dL_law_365 : decode cL_law 365 = .ok (.iadd, 1) := by decide +kernel
theorem dL_law_366 : decode cL_law 366 = .ok (.iaload, 1) := by decide +kernel
theorem dL_law_367 : decode cL_law 367 = .ok (.invokevirtual 49, 3) := by decide +kernel
theorem dL_law_370 : decode cL_law 370 = .ok (.aload_n 2, 1) := by decide +kernel
theorem dL_law_371 : decode cL_law 371 = .ok (.aload_n 0, 1) := by decide +kernel
theorem dL_law_372 : decode cL_law 372 = .ok (.iload_n 3, 1) := by decide +kernel
theorem dL_law_373 : decode cL_law 373 = .ok (.iconst 1, 1) := by decide +kernel
theorem dL_law_374 : decode cL_law 374 = .ok (.iadd, 1) := by decide +kernel
theorem dL_law_375 : decode cL_law 375 = .ok (.iaload, 1) := by decide +kernel
theorem dL_law_376 : decode cL_law 376 = .ok (.aload_n 0, 1) := by decide +kernel
theorem dL_law_377 : decode cL_law 377 = .ok (.iload_n 3, 1) := by decide +kernel
theorem dL_law_378 : decode cL_law 378 = .ok (.iconst 2, 1) := by decide +kernel
theorem dL_law_379 : decode cL_law 379 = .ok (.iadd, 1) := by decide +kernel
theorem dL_law_380 : decode cL_law 380 = .ok (.iaload, 1) := by decide +kernel
theorem dL_law_381 : decode cL_law 381 = .ok (.invokevirtual 52, 3) := by decide +kernel
theorem dL_law_384 : decode cL_law 384 = .ok (.if_icmp .eq 51, 3) := by decide +kernel
theorem dL_law_387 : decode cL_law 387 = .ok (.iconst 0, 1) := by decide +kernel
theorem dL_law_388 : decode cL_law 388 = .ok (.ireturn, 1) := by decide +kernel
theorem dL_law_389 : decode cL_law 389 = .ok (.aload_n 1, 1) := by decide +kernel
theorem dL_law_390 : decode cL_law 390 = .ok (.aload_n 0, 1) := by decide +kernel
theorem dL_law_391 : decode cL_law 391 = .ok (.iload_n 3, 1) := by decide +kernel
theorem dL_law_392 : decode cL_law 392 = .ok (.iconst 1, 1) := by decide +kernel
theorem dL_law_393 : decode cL_law 393 = .ok (.iadd, 1) := by decide +kernel
theorem dL_law_394 : decode cL_law 394 = .ok (.iaload, 1) := by decide +kernel
theorem dL_law_395 : decode cL_law 395 = .ok (.invokevirtual 53, 3) := by decide +kernel
theorem dL_law_398 : decode cL_law 398 = .ok (.aload_n 2, 1) := by decide +kernel
theorem dL_law_399 : decode cL_law 399 = .ok (.aload_n 0, 1) := by decide +kernel
theorem dL_law_400 : decode cL_law 400 = .ok (.iload_n 3, 1) := by decide +kernel
theorem dL_law_401 : decode cL_law 401 = .ok (.iconst 1, 1) := by decide +kernel
theorem dL_law_402 : decode cL_law 402 = .ok (.iadd, 1) := by decide +kernel
theorem dL_law_403 : decode cL_law 403 = .ok (.iaload, 1) := by decide +kernel
theorem dL_law_404 : decode cL_law 404 = .ok (.invokevirtual 56, 3) := by decide +kernel
theorem dL_law_407 : decode cL_law 407 = .ok (.if_icmp .eq 28, 3) := by decide +kernel
theorem dL_law_410 : decode cL_law 410 = .ok (.iconst 0, 1) := by decide +kernel
theorem dL_law_411 : decode cL_law 411 = .ok (.ireturn, 1) := by decide +kernel
theorem dL_law_412 : decode cL_law 412 = .ok (.aload_n 1, 1) := by decide +kernel
theorem dL_law_413 : decode cL_law 413 = .ok (.aload_n 0, 1) := by decide +kernel
theorem dL_law_414 : decode cL_law 414 = .ok (.iload_n 3, 1) := by decide +kernel
theorem dL_law_415 : decode cL_law 415 = .ok (.iconst 1, 1) := by decide +kernel
theorem dL_law_416 : decode cL_law 416 = .ok (.iadd, 1) := by decide +kernel
theorem dL_law_417 : decode cL_law 417 = .ok (.iaload, 1) := by decide +kernel
theorem dL_law_418 : decode cL_law 418 = .ok (.invokevirtual 57, 3) := by decide +kernel
theorem dL_law_421 : decode cL_law 421 = .ok (.aload_n 2, 1) := by decide +kernel
theorem dL_law_422 : decode cL_law 422 = .ok (.aload_n 0, 1) := by decide +kernel
theorem dL_law_423 : decode cL_law 423 = .ok (.iload_n 3, 1) := by decide +kernel
theorem dL_law_424 : decode cL_law 424 = .ok (.iconst 1, 1) := by decide +kernel
theorem dL_law_425 : decode cL_law 425 = .ok (.iadd, 1) := by decide +kernel
theorem dL_law_426 : decode cL_law 426 = .ok (.iaload, 1) := by decide +kernel
theorem dL_law_427 : decode cL_law 427 = .ok (.invokevirtual 60, 3) := by decide +kernel
theorem dL_law_430 : decode cL_law 430 = .ok (.if_icmp .eq 5, 3) := by decide +kernel
theorem dL_law_433 : decode cL_law 433 = .ok (.iconst 0, 1) := by decide +kernel
theorem dL_law_434 : decode cL_law 434 = .ok (.ireturn, 1) := by decide +kernel
theorem dL_law_435 : decode cL_law 435 = .ok (.iinc 3 5, 3) := by decide +kernel
theorem dL_law_438 : decode cL_law 438 = .ok (.goto (-420), 3) := by decide +kernel
theorem dL_law_441 : decode cL_law 441 = .ok (.iconst 1, 1) := by decide +kernel
theorem dL_law_442 : decode cL_law 442 = .ok (.ireturn, 1) := by decide +kernel
