set_option maxRecDepth 20000 in
theorem ggX3_init_X2_init : GoodIn wsX3_init wsX2_init := goodIn_r _ [20, 21, 2, 3, 22, 23, 24, 25, 26, 27, 28, 29, 30, 31, 32, 44, 45, 46, 47, 48, 49, 50, 51, 52, 53] (by decide +kernel) (by decide +kernel)
set_option maxRecDepth 20000 in
theorem gX3_init_X2_init_n11 : GoodIn wsX3_init (wsX2_init) := ggX3_init_X2_init
set_option maxRecDepth 20000 in
theorem ggX3_init_X6_init : GoodIn wsX3_init wsX6_init := goodIn_r _ [34, 35, 2, 3, 36, 37, 38, 39, 40, 41, 42, 43, 63, 64, 65, 66, 67, 68, 69, 70] (by decide +kernel) (by decide +kernel)
set_option maxRecDepth 20000 in
theorem gX3_init_X6_init_n20 : GoodIn wsX3_init (wsX6_init) := ggX3_init_X6_init
theorem dX3_init_0 : decode cX3_init 0 = .ok (.aload_n 0, 1) := by decide +kernel
theorem dX3_init_1 : decode cX3_init 1 = .ok (.invokespecial 3, 3) := by decide +kernel
theorem dX3_init_4 : decode cX3_init 4 = .ok (.aload_n 0, 1) := by decide +kernel
theorem dX3_init_5 : decode cX3_init 5 = .ok (.new 9, 3) := by decide +kernel
theorem dX3_init_8 : decode cX3_init 8 = .ok (.dup, 1) := by decide +kernel
theorem dX3_init_9 : decode cX3_init 9 = .ok (.invokespecial 11, 3) := by decide +kernel
theorem dX3_init_12 : decode cX3_init 12 = .ok (.putfield 12, 3) := by decide +kernel
theorem dX3_init_15 : decode cX3_init 15 = .ok (.aload_n 0, 1) := by decide +kernel
theorem dX3_init_16 : decode cX3_init 16 = .ok (.new 18, 3) := by decide +kernel
theorem dX3_init_19 : decode cX3_init 19 = .ok (.dup, 1) := by decide +kernel
theorem dX3_init_20 : decode cX3_init 20 = .ok (.invokespecial 20, 3) := by decide +kernel
theorem dX3_init_23 : decode cX3_init 23 = .ok (.putfield 21, 3) := by decide +kernel
theorem dX3_init_26 : decode cX3_init 26 = .ok (.aload_n 0, 1) := by decide +kernel
theorem dX3_init_27 : decode cX3_init 27 = .ok (.iconst 0, 1) := by decide +kernel
theorem dX3_init_28 : decode cX3_init 28 = .ok (.putfield 25, 3) := by decide +kernel
theorem dX3_init_31 : decode cX3_init 31 = .ok (.aload_n 0, 1) := by decide +kernel
theorem dX3_init_32 : decode cX3_init 32 = .ok (.iconst 0, 1) := by decide +kernel
theorem dX3_init_33 : decode cX3_init 33 = .ok (.putfield 29, 3) := by decide +kernel
theorem dX3_init_36 : decode cX3_init 36 = .ok (.aload_n 0, 1) := by decide +kernel
theorem dX3_init_37 : decode cX3_init 37 = .ok (.iconst 0, 1) := by decide +kernel
theorem dX3_init_38 : decode cX3_init 38 = .ok (.putfield 32, 3) := by decide +kernel
theorem dX3_init_41 : decode cX3_init 41 = .ok (.aload_n 0, 1) := by decide +kernel
theorem dX3_init_42 : decode cX3_init 42 = .ok (.iconst 0, 1) := by decide +kernel
theorem dX3_init_43 : decode cX3_init 43 = .ok (.putfield 35, 3) := by decide +kernel
theorem dX3_init_46 : decode cX3_init 46 = .ok (.aload_n 0, 1) := by decide +kernel
theorem dX3_init_47 : decode cX3_init 47 = .ok (.iconst 0, 1) := by decide +kernel
theorem dX3_init_48 : decode cX3_init 48 = .ok (.putfield 38, 3) := by decide +kernel
theorem dX3_init_51 : decode cX3_init 51 = .ok (.aload_n 0, 1) := by decide +kernel
theorem dX3_init_52 : decode cX3_init 52 = .ok (.aload_n 1, 1) := by decide +kernel
theorem dX3_init_53 : decode cX3_init 53 = .ok (.putfield 41, 3) := by decide +kernel
theorem dX3_init_56 : decode cX3_init 56 = .ok (.aload_n 0, 1) := by decide +kernel
theorem dX3_init_57 : decode cX3_init 57 = .ok (.aload_n 2, 1) := by decide +kernel
theorem dX3_init_58 : decode cX3_init 58 = .ok (.putfield 45, 3) := by decide +kernel
theorem dX3_init_61 : decode cX3_init 61 = .ok (.return_, 1) := by decide +kernel
theorem dX3_setInterrupt_0 : decode cX3_setInterrupt 0 = .ok (.aload_n 0, 1) := by decide +kernel
theorem dX3_setInterrupt_1 : decode cX3_setInterrupt 1 = .ok (.iload_n 1, 1) := by decide +kernel
theorem dX3_setInterrupt_2 : decode cX3_setInterrupt 2 = .ok (.putfield 25, 3) := by decide +kernel
theorem dX3_setInterrupt_5 : decode cX3_setInterrupt 5 = .ok (.aload_n 0, 1) := by decide +kernel
theorem dX3_setInterrupt_6 : decode cX3_setInterrupt 6 = .ok (.iload_n 2, 1) := by decide +kernel
theorem dX3_setInterrupt_7 : decode cX3_setInterrupt 7 = .ok (.putfield 29, 3) := by decide +kernel
theorem dX3_setInterrupt_10 : decode cX3_setInterrupt 10 = .ok (.return_, 1) := by decide +kernel
set_option maxRecDepth 20000 in
theorem ggX3_tell_X6_answer : GoodIn wsX3_tell wsX6_answer := goodIn_r _ [6, 7, 8, 9, 10, 11, 12, 13, 14, 15, 25, 26, 27, 28, 29, 30, 31, 32] (by decide +kernel) (by decide +kernel)
set_option maxRecDepth 20000 in
theorem gX3_tell_X6_answer : GoodIn wsX3_tell (wsV RX3 49 RX6 yX6_answer wsX6_answer) := goodIn_app (goodIn_of _ (by decide +kernel)) ggX3_tell_X6_answer
theorem dX3_tell_0 : decode cX3_tell 0 = .ok (.aload_n 0, 1) := by decide +kernel
theorem dX3_tell_1 : decode cX3_tell 1 = .ok (.getfield 21, 3) := by decide +kernel
theorem dX3_tell_4 : decode cX3_tell 4 = .ok (.iload_n 1, 1) := by decide +kernel
theorem dX3_tell_5 : decode cX3_tell 5 = .ok (.invokevirtual 49, 3) := by decide +kernel
theorem dX3_tell_8 : decode cX3_tell 8 = .ok (.ireturn, 1) := by decide +kernel
set_option maxRecDepth 20000 in
theorem ggX3_perform_X6_forget : GoodIn wsX3_perform wsX6_forget := goodIn_r _ [13, 14, 15, 16, 17, 18, 19, 20, 21, 285, 286, 287, 288, 289, 290, 291, 292] (by decide +kernel) (by decide +kernel)
set_option maxRecDepth 20000 in
theorem gX3_perform_X6_forget : GoodIn wsX3_perform (wsV RX3 53 RX6 yX6_forget wsX6_forget) := goodIn_app (goodIn_of _ (by decide +kernel)) ggX3_perform_X6_forget
set_option maxRecDepth 20000 in
theorem ggX3_perform_X2_closeAll : GoodIn wsX3_perform wsX2_closeAll := goodIn_r _ [26, 27, 28, 29, 293, 294, 295, 296, 297, 298, 299, 300, 301, 302] (by decide +kernel) (by decide +kernel)
set_option maxRecDepth 20000 in
theorem gX3_perform_X2_closeAll : GoodIn wsX3_perform (wsV RX3 56 RX2 yX2_closeAll wsX2_closeAll) := goodIn_app (goodIn_of _ (by decide +kernel)) ggX3_perform_X2_closeAll
set_option maxRecDepth 20000 in
theorem ggX3_perform_X2_openFrame : GoodIn wsX3_perform wsX2_openFrame := goodIn_r _ [33, 27, 28, 34, 35, 36, 37, 38, 39, 40, 41, 42, 29, 43, 44, 45, 46, 25, 47, 48, 49, 50, 51, 52, 53, 54, 55, 56, 57, 58, 59, 60, 61, 62, 63, 64, 65, 66, 67, 293, 294, 295, 296, 297, 298, 299, 300, 301, 302, 303, 304, 305, 306, 307, 308, 309] (by decide +kernel) (by decide +kernel)
set_option maxRecDepth 20000 in
theorem gX3_perform_X2_openFrame : GoodIn wsX3_perform (wsV RX3 59 RX2 yX2_openFrame wsX2_openFrame) := goodIn_app (goodIn_of _ (by decide +kernel)) ggX3_perform_X2_openFrame
set_option maxRecDepth 20000 in
theorem ggX3_perform_X2_hand : GoodIn wsX3_perform wsX2_hand := goodIn_r _ [71, 40, 27, 41, 72, 73, 36, 74, 43, 75, 65, 66, 67, 293, 294, 295, 296, 297, 298, 299, 300, 301, 302] (by decide +kernel) (by decide +kernel)
set_option maxRecDepth 20000 in
theorem gX3_perform_X2_hand : GoodIn wsX3_perform (wsV RX3 63 RX2 yX2_hand wsX2_hand) := goodIn_app (goodIn_of _ (by decide +kernel)) ggX3_perform_X2_hand
set_option maxRecDepth 20000 in
theorem ggX3_perform_X3_takeTurn : GoodIn wsX3_perform wsX3_takeTurn := goodIn_r _ [80, 1, 81, 4, 2, 6, 82, 83, 84, 25, 85, 39, 27, 86, 87, 88, 79, 89, 90, 91, 92, 93, 94, 95, 96, 97, 98, 38, 99, 100, 101, 102, 103, 104, 105, 106, 8, 107, 108, 109, 110, 5, 111, 112, 113, 51, 114, 115, 54, 55, 56, 57, 58, 116, 117, 118, 119, 120, 121, 122, 123, 124, 125, 126, 127, 128, 129, 130, 131, 132, 133, 134, 29, 135, 136, 137, 138, 139, 140, 141, 142, 143, 41, 144, 145, 146, 147, 43, 148, 149, 150, 151, 152, 153, 154, 155, 156, 42, 157, 158, 159, 160, 161, 162, 163, 164, 165, 166, 167, 168, 169, 170, 171, 172, 173, 174, 175, 176, 177, 178, 179, 180, 181, 182, 183, 184, 185, 186, 187, 188, 189, 190, 191, 192, 193, 194, 195, 196, 45, 46, 47, 197, 198, 199, 200, 30, 31, 32, 33, 28, 34, 35, 36, 37, 40, 44, 48, 49, 50, 52, 53, 59, 60, 61, 62, 63, 64, 65, 66, 67, 201, 202, 203, 204, 205, 69, 70, 71, 72, 73, 74, 75, 206, 207, 208, 209, 210, 211, 212, 213, 214, 215, 216, 217, 218, 219, 220, 221, 222, 223, 224, 225, 226, 227, 228, 229, 230, 231, 232, 233, 234, 235, 236, 237, 238, 239, 240, 241, 242, 243, 244, 245, 246, 247, 248, 249, 250, 251, 252, 253, 254, 255, 256, 257, 258, 259, 260, 261, 262, 263, 264, 265, 266, 267, 268, 3, 269, 270, 271, 276, 277, 278, 279, 280, 281, 282, 283, 284, 285, 286, 287, 288, 289, 290, 291, 292, 293, 294, 295, 296, 297, 298, 299, 300, 301, 302, 303, 304, 305, 306, 307, 308, 309, 310, 311, 312] (by decide +kernel) (by decide +kernel)
set_option maxRecDepth 20000 in
theorem gX3_perform_X3_takeTurn : GoodIn wsX3_perform (wsV RX3 70 RX3 yX3_takeTurn wsX3_takeTurn) := goodIn_app (goodIn_of _ (by decide +kernel)) ggX3_perform_X3_takeTurn
set_option maxRecDepth 20000 in
theorem ggX3_perform_X2_mostOpen : GoodIn wsX3_perform wsX2_mostOpen := goodIn_r _ [275, 28, 293, 294, 295, 296, 297, 298, 299, 300, 301, 302] (by decide +kernel) (by decide +kernel)
set_option maxRecDepth 20000 in
theorem gX3_perform_X2_mostOpen : GoodIn wsX3_perform (wsV RX3 74 RX2 yX2_mostOpen wsX2_mostOpen) := goodIn_app (goodIn_of _ (by decide +kernel)) ggX3_perform_X2_mostOpen
theorem dX3_perform_0 : decode cX3_perform 0 = .ok (.aload_n 0, 1) := by decide +kernel
theorem dX3_perform_1 : decode cX3_perform 1 = .ok (.getfield 21, 3) := by decide +kernel
theorem dX3_perform_4 : decode cX3_perform 4 = .ok (.invokevirtual 53, 3) := by decide +kernel
theorem dX3_perform_7 : decode cX3_perform 7 = .ok (.aload_n 0, 1) := by decide +kernel
theorem dX3_perform_8 : decode cX3_perform 8 = .ok (.iconst 0, 1) := by decide +kernel
theorem dX3_perform_9 : decode cX3_perform 9 = .ok (.putfield 32, 3) := by decide +kernel
theorem dX3_perform_12 : decode cX3_perform 12 = .ok (.aload_n 0, 1) := by decide +kernel
theorem dX3_perform_13 : decode cX3_perform 13 = .ok (.iconst 0, 1) := by decide +kernel
theorem dX3_perform_14 : decode cX3_perform 14 = .ok (.putfield 35, 3) := by decide +kernel
theorem dX3_perform_17 : decode cX3_perform 17 = .ok (.aload_n 0, 1) := by decide +kernel
theorem dX3_perform_18 : decode cX3_perform 18 = .ok (.getfield 12, 3) := by decide +kernel
theorem dX3_perform_21 : decode cX3_perform 21 = .ok (.invokevirtual 56, 3) := by decide +kernel
theorem dX3_perform_24 : decode cX3_perform 24 = .ok (.aload_n 0, 1) := by decide +kernel
theorem dX3_perform_25 : decode cX3_perform 25 = .ok (.getfield 12, 3) := by decide +kernel
theorem dX3_perform_28 : decode cX3_perform 28 = .ok (.aload_n 0, 1) := by decide +kernel
theorem dX3_perform_29 : decode cX3_perform 29 = .ok (.getfield 41, 3) := by decide +kernel
theorem dX3_perform_32 : decode cX3_perform 32 = .ok (.iload_n 1, 1) := by decide +kernel
theorem dX3_perform_33 : decode cX3_perform 33 = .ok (.invokevirtual 59, 3) := by decide +kernel
theorem dX3_perform_36 : decode cX3_perform 36 = .ok (.aload_n 0, 1) := by decide +kernel
theorem dX3_perform_37 : decode cX3_perform 37 = .ok (.getfield 12, 3) := by decide +kernel
theorem dX3_perform_40 : decode cX3_perform 40 = .ok (.aload_n 3, 1) := by decide +kernel
theorem dX3_perform_41 : decode cX3_perform 41 = .ok (.iconst 0, 1) := by decide +kernel
theorem dX3_perform_42 : decode cX3_perform 42 = .ok (.iload 4, 2) := by decide +kernel
theorem dX3_perform_44 : decode cX3_perform 44 = .ok (.invokevirtual 63, 3) := by decide +kernel
theorem dX3_perform_47 : decode cX3_perform 47 = .ok (.iconst 0, 1) := by decide +kernel
theorem dX3_perform_48 : decode cX3_perform 48 = .ok (.istore 5, 2) := by decide +kernel
theorem dX3_perform_50 : decode cX3_perform 50 = .ok (.iload 5, 2) := by decide +kernel
theorem dX3_perform_52 : decode cX3_perform 52 = .ok (.iload_n 2, 1) := by decide +kernel
theorem dX3_perform_53 : decode cX3_perform 53 = .ok (.if_icmp .gt 24, 3) := by decide +kernel
theorem dX3_perform_56 : decode cX3_perform 56 = .ok (.aload_n 0, 1) := by decide +kernel
theorem dX3_perform_57 : decode cX3_perform 57 = .ok (.getfield 21, 3) := by decide +kernel
theorem dX3_perform_60 : decode cX3_perform 60 = .ok (.getfield 67, 3) := by decide +kernel
theorem dX3_perform_63 : decode cX3_perform 63 = .ok (.ifCond .ne 14, 3) := by decide +kernel
theorem dX3_perform_66 : decode cX3_perform 66 = .ok (.aload_n 0, 1) := by decide +kernel
theorem dX3_perform_67 : decode cX3_perform 67 = .ok (.iload_n 2, 1) := by decide +kernel
theorem dX3_perform_68 : decode cX3_perform 68 = .ok (.invokevirtual 70, 3) := by decide +kernel
theorem dX3_perform_71 : decode cX3_perform 71 = .ok (.iinc 5 1, 3) := by decide +kernel
theorem dX3_perform_74 : decode cX3_perform 74 = .ok (.goto (-24), 3) := by decide +kernel
theorem dX3_perform_77 : decode cX3_perform 77 = .ok (.aload_n 0, 1) := by decide +kernel
theorem dX3_perform_78 : decode cX3_perform 78 = .ok (.getfield 21, 3) := by decide +kernel
theorem dX3_perform_81 : decode cX3_perform 81 = .ok (.aload_n 0, 1) := by decide +kernel
theorem dX3_perform_82 : decode cX3_perform 82 = .ok (.getfield 12, 3) := by decide +kernel
theorem dX3_perform_85 : decode cX3_perform 85 = .ok (.invokevirtual 74, 3) := by decide +kernel
theorem dX3_perform_88 : decode cX3_perform 88 = .ok (.putfield 78, 3) := by decide +kernel
theorem dX3_perform_91 : decode cX3_perform 91 = .ok (.aload_n 0, 1) := by decide +kernel
theorem dX3_perform_92 : decode cX3_perform 92 = .ok (.getfield 38, 3) := by decide +kernel
theorem dX3_perform_95 : decode cX3_perform 95 = .ok (.ireturn, 1) := by decide +kernel
set_option maxRecDepth 20000 in
theorem ggX3_takeTurn_X2_place : GoodIn wsX3_takeTurn wsX2_place := goodIn_r _ [10, 11, 12, 266, 267, 268, 269, 270, 271, 272, 273, 274, 275] (by decide +kernel) (by decide +kernel)
set_option maxRecDepth 20000 in
theorem gX3_takeTurn_X2_place : GoodIn wsX3_takeTurn (wsV RX3 86 RX2 yX2_place wsX2_place) := goodIn_app (goodIn_of _ (by decide +kernel)) ggX3_takeTurn_X2_place
set_option maxRecDepth 20000 in
theorem ggX3_takeTurn_X3_fail : GoodIn wsX3_takeTurn wsX3_fail := goodIn_r _ [17, 1, 4, 18, 3, 19, 20, 21, 22, 23, 24, 25, 9, 26, 27, 12, 28, 29, 30, 31, 32, 33, 34, 16, 35, 5, 36, 249, 250, 251, 252, 253, 254, 255, 256, 257, 258, 259, 260, 261, 262, 263, 264, 265, 266, 267, 268, 269, 270, 271, 272, 273, 274, 275] (by decide +kernel) (by decide +kernel)
set_option maxRecDepth 20000 in
theorem gX3_takeTurn_X3_fail : GoodIn wsX3_takeTurn (wsV RX3 89 RX3 yX3_fail wsX3_fail) := goodIn_app (goodIn_of _ (by decide +kernel)) ggX3_takeTurn_X3_fail
set_option maxRecDepth 20000 in
theorem ggX3_takeTurn_X2_routineNumber : GoodIn wsX3_takeTurn wsX2_routineNumber := goodIn_r _ [26, 27, 12, 266, 267, 268, 269, 270, 271, 272, 273, 274, 275] (by decide +kernel) (by decide +kernel)
set_option maxRecDepth 20000 in
theorem gX3_takeTurn_X2_routineNumber : GoodIn wsX3_takeTurn (wsV RX3 93 RX2 yX2_routineNumber wsX2_routineNumber) := goodIn_app (goodIn_of _ (by decide +kernel)) ggX3_takeTurn_X2_routineNumber
set_option maxRecDepth 20000 in
theorem ggX3_takeTurn_X3_operate : GoodIn wsX3_takeTurn wsX3_operate := goodIn_r _ [40, 41, 3, 42, 43, 44, 45, 46, 47, 48, 49, 50, 51, 52, 53, 54, 55, 9, 56, 11, 12, 57, 58, 59, 60, 61, 62, 63, 64, 65, 66, 67, 68, 69, 70, 71, 72, 73, 74, 75, 76, 16, 77, 78, 79, 80, 81, 82, 83, 84, 85, 86, 87, 88, 89, 90, 91, 92, 93, 94, 95, 96, 97, 98, 99, 100, 101, 102, 103, 104, 105, 106, 107, 108, 109, 110, 111, 112, 113, 114, 115, 116, 117, 118, 119, 120, 121, 122, 123, 124, 125, 126, 127, 128, 129, 130, 131, 132, 133, 134, 135, 136, 137, 138, 139, 140, 141, 142, 143, 144, 145, 146, 147, 148, 149, 150, 151, 152, 153, 27, 154, 155, 156, 157, 158, 159, 160, 161, 162, 163, 164, 165, 166, 167, 168, 169, 170, 171, 172, 173, 174, 175, 176, 177, 178, 179, 180, 181, 182, 183, 184, 185, 28, 29, 30, 31, 186, 187, 188, 189, 4, 190, 191, 192, 193, 32, 33, 34, 35, 1, 5, 36, 194, 195, 196, 197, 198, 199, 200, 201, 202, 203, 204, 205, 206, 207, 208, 209, 210, 211, 212, 213, 214, 215, 216, 217, 218, 219, 220, 221, 222, 223, 224, 225, 226, 227, 228, 229, 230, 231, 232, 233, 234, 235, 236, 237, 238, 239, 240, 249, 250, 251, 252, 253, 254, 255, 256, 257, 276, 277, 278, 279, 280, 281, 282, 266, 267, 268, 269, 270, 271, 272, 273, 274, 275, 258, 259, 260, 261, 262, 263, 264, 265, 283, 284, 285] (by decide +kernel) (by decide +kernel)
set_option maxRecDepth 20000 in
theorem gX3_takeTurn_X3_operate : GoodIn wsX3_takeTurn (wsV RX3 96 RX3 yX3_operate wsX3_operate) := goodIn_app (goodIn_of _ (by decide +kernel)) ggX3_takeTurn_X3_operate
set_option maxRecDepth 20000 in
theorem ggX3_takeTurn_X3_countStep : GoodIn wsX3_takeTurn wsX3_countStep := goodIn_r _ [244, 245, 246, 3, 1, 247, 41, 248, 4, 137, 138, 139, 9, 140, 12, 6, 7, 8, 10, 11, 13, 14, 15, 16, 17, 18, 19, 20, 21, 22, 23, 24, 25, 26, 27, 28, 29, 30, 31, 32, 33, 34, 35, 5, 36, 145, 146, 147, 148, 149, 150, 151, 152, 153, 154, 82, 97, 72, 87, 155, 156, 157, 158, 45, 159, 160, 48, 49, 50, 51, 52, 161, 162, 163, 164, 165, 166, 167, 168, 169, 249, 250, 251, 252, 253, 254, 255, 256, 257, 258, 259, 260, 261, 262, 263, 264, 265, 266, 267, 268, 269, 270, 271, 272, 273, 274, 275, 276, 277, 278, 279, 280, 281, 282] (by decide +kernel) (by decide +kernel)
set_option maxRecDepth 20000 in
theorem gX3_takeTurn_X3_countStep : GoodIn wsX3_takeTurn (wsV RX3 100 RX3 yX3_countStep wsX3_countStep) := goodIn_app (goodIn_of _ (by decide +kernel)) ggX3_takeTurn_X3_countStep
theorem dX3_takeTurn_0 : decode cX3_takeTurn 0 = .ok (.aload_n 0, 1) := by decide +kernel
theorem dX3_takeTurn_1 : decode cX3_takeTurn 1 = .ok (.getfield 21, 3) := by decide +kernel
theorem dX3_takeTurn_4 : decode cX3_takeTurn 4 = .ok (.getfield 81, 3) := by decide +kernel
theorem dX3_takeTurn_7 : decode cX3_takeTurn 7 = .ok (.iload_n 1, 1) := by decide +kernel
theorem dX3_takeTurn_8 : decode cX3_takeTurn 8 = .ok (.if_icmp .lt 17, 3) := by decide +kernel
theorem dX3_takeTurn_11 : decode cX3_takeTurn 11 = .ok (.aload_n 0, 1) := by decide +kernel
theorem dX3_takeTurn_12 : decode cX3_takeTurn 12 = .ok (.bipush 9, 2) := by decide +kernel
theorem dX3_takeTurn_14 : decode cX3_takeTurn 14 = .ok (.aload_n 0, 1) := by decide +kernel
theorem dX3_takeTurn_15 : decode cX3_takeTurn 15 = .ok (.getfield 12, 3) := by decide +kernel
theorem dX3_takeTurn_18 : decode cX3_takeTurn 18 = .ok (.invokevirtual 86, 3) := by decide +kernel
theorem dX3_takeTurn_21 : decode cX3_takeTurn 21 = .ok (.invokevirtual 89, 3) := by decide +kernel
theorem dX3_takeTurn_24 : decode cX3_takeTurn 24 = .ok (.return_, 1) := by decide +kernel
theorem dX3_takeTurn_25 : decode cX3_takeTurn 25 = .ok (.aload_n 0, 1) := by decide +kernel
theorem dX3_takeTurn_26 : decode cX3_takeTurn 26 = .ok (.getfield 21, 3) := by decide +kernel
theorem dX3_takeTurn_29 : decode cX3_takeTurn 29 = .ok (.dup, 1) := by decide +kernel
theorem dX3_takeTurn_30 : decode cX3_takeTurn 30 = .ok (.getfield 81, 3) := by decide +kernel
theorem dX3_takeTurn_33 : decode cX3_takeTurn 33 = .ok (.iconst 1, 1) := by decide +kernel
theorem dX3_takeTurn_34 : decode cX3_takeTurn 34 = .ok (.iadd, 1) := by decide +kernel
theorem dX3_takeTurn_35 : decode cX3_takeTurn 35 = .ok (.putfield 81, 3) := by decide +kernel
theorem dX3_takeTurn_38 : decode cX3_takeTurn 38 = .ok (.aload_n 0, 1) := by decide +kernel
theorem dX3_takeTurn_39 : decode cX3_takeTurn 39 = .ok (.getfield 32, 3) := by decide +kernel
theorem dX3_takeTurn_42 : decode cX3_takeTurn 42 = .ok (.ifCond .ne 7, 3) := by decide +kernel
theorem dX3_takeTurn_45 : decode cX3_takeTurn 45 = .ok (.iconst 1, 1) := by decide +kernel
theorem dX3_takeTurn_46 : decode cX3_takeTurn 46 = .ok (.goto 4, 3) := by decide +kernel
theorem dX3_takeTurn_49 : decode cX3_takeTurn 49 = .ok (.iconst 0, 1) := by decide +kernel
theorem dX3_takeTurn_50 : decode cX3_takeTurn 50 = .ok (.istore_n 2, 1) := by decide +kernel
theorem dX3_takeTurn_51 : decode cX3_takeTurn 51 = .ok (.aload_n 0, 1) := by decide +kernel
theorem dX3_takeTurn_52 : decode cX3_takeTurn 52 = .ok (.getfield 12, 3) := by decide +kernel
theorem dX3_takeTurn_55 : decode cX3_takeTurn 55 = .ok (.invokevirtual 86, 3) := by decide +kernel
theorem dX3_takeTurn_58 : decode cX3_takeTurn 58 = .ok (.istore_n 3, 1) := by decide +kernel
theorem dX3_takeTurn_59 : decode cX3_takeTurn 59 = .ok (.aload_n 0, 1) := by decide +kernel
theorem dX3_takeTurn_60 : decode cX3_takeTurn 60 = .ok (.aload_n 0, 1) := by decide +kernel
theorem dX3_takeTurn_61 : decode cX3_takeTurn 61 = .ok (.getfield 12, 3) := by decide +kernel
theorem dX3_takeTurn_64 : decode cX3_takeTurn 64 = .ok (.invokevirtual 93, 3) := by decide +kernel
theorem dX3_takeTurn_67 : decode cX3_takeTurn 67 = .ok (.iload_n 3, 1) := by decide +kernel
theorem dX3_takeTurn_68 : decode cX3_takeTurn 68 = .ok (.invokevirtual 96, 3) := by decide +kernel
theorem dX3_takeTurn_71 : decode cX3_takeTurn 71 = .ok (.istore 4, 2) := by decide +kernel
theorem dX3_takeTurn_73 : decode cX3_takeTurn 73 = .ok (.iload 4, 2) := by decide +kernel
theorem dX3_takeTurn_75 : decode cX3_takeTurn 75 = .ok (.ifCond .eq 13, 3) := by decide +kernel
theorem dX3_takeTurn_78 : decode cX3_takeTurn 78 = .ok (.aload_n 0, 1) := by decide +kernel
theorem dX3_takeTurn_79 : decode cX3_takeTurn 79 = .ok (.iload 4, 2) := by decide +kernel
theorem dX3_takeTurn_81 : decode cX3_takeTurn 81 = .ok (.iload_n 3, 1) := by decide +kernel
theorem dX3_takeTurn_82 : decode cX3_takeTurn 82 = .ok (.invokevirtual 89, 3) := by decide +kernel
theorem dX3_takeTurn_85 : decode cX3_takeTurn 85 = .ok (.goto 21, 3) := by decide +kernel
theorem dX3_takeTurn_88 : decode cX3_takeTurn 88 = .ok (.iload_n 2, 1) := by decide +kernel
theorem dX3_takeTurn_89 : decode cX3_takeTurn 89 = .ok (.ifCond .eq 17, 3) := by decide +kernel
theorem dX3_takeTurn_92 : decode cX3_takeTurn 92 = .ok (.aload_n 0, 1) := by decide +kernel
theorem dX3_takeTurn_93 : decode cX3_takeTurn 93 = .ok (.getfield 21, 3) := by decide +kernel
theorem dX3_takeTurn_96 : decode cX3_takeTurn 96 = .ok (.getfield 67, 3) := by decide +kernel
theorem dX3_takeTurn_99 : decode cX3_takeTurn 99 = .ok (.ifCond .ne 7, 3) := by decide +kernel
theorem dX3_takeTurn_102 : decode cX3_takeTurn 102 = .ok (.aload_n 0, 1) := by decide +kernel
theorem dX3_takeTurn_103 : decode cX3_takeTurn 103 = .ok (.invokevirtual 100, 3) := by decide +kernel
theorem dX3_takeTurn_106 : decode cX3_takeTurn 106 = .ok (.return_, 1) := by decide +kernel
set_option maxRecDepth 20000 in
theorem ggX3_countStep_X2_isDeepest : GoodIn wsX3_countStep wsX2_isDeepest := goodIn_r _ [13, 14, 97, 98, 99, 100, 101, 102, 103, 104, 105, 106] (by decide +kernel) (by decide +kernel)
set_option maxRecDepth 20000 in
theorem gX3_countStep_X2_isDeepest : GoodIn wsX3_countStep (wsV RX3 103 RX2 yX2_isDeepest wsX2_isDeepest) := goodIn_app (goodIn_of _ (by decide +kernel)) ggX3_countStep_X2_isDeepest
set_option maxRecDepth 20000 in
theorem ggX3_countStep_X2_place : GoodIn wsX3_countStep wsX2_place := goodIn_r _ [18, 19, 14, 97, 98, 99, 100, 101, 102, 103, 104, 105, 106] (by decide +kernel) (by decide +kernel)
set_option maxRecDepth 20000 in
theorem gX3_countStep_X2_place : GoodIn wsX3_countStep (wsV RX3 86 RX2 yX2_place wsX2_place) := goodIn_app (goodIn_of _ (by decide +kernel)) ggX3_countStep_X2_place
set_option maxRecDepth 20000 in
theorem ggX3_countStep_X3_fail : GoodIn wsX3_countStep wsX3_fail := goodIn_r _ [24, 4, 8, 25, 3, 26, 27, 28, 29, 30, 31, 32, 12, 33, 34, 14, 35, 36, 37, 38, 39, 40, 41, 23, 42, 43, 44, 80, 81, 82, 83, 84, 85, 86, 87, 88, 89, 90, 91, 92, 93, 94, 95, 96, 97, 98, 99, 100, 101, 102, 103, 104, 105, 106] (by decide +kernel) (by decide +kernel)
set_option maxRecDepth 20000 in
theorem gX3_countStep_X3_fail : GoodIn wsX3_countStep (wsV RX3 89 RX3 yX3_fail wsX3_fail) := goodIn_app (goodIn_of _ (by decide +kernel)) ggX3_countStep_X3_fail
set_option maxRecDepth 20000 in
theorem ggX3_countStep_X2_openFrame : GoodIn wsX3_countStep wsX2_openFrame := goodIn_r _ [48, 14, 49, 50, 51, 52, 53, 34, 19, 54, 55, 56, 57, 58, 59, 10, 11, 12, 13, 60, 61, 62, 63, 64, 65, 66, 67, 68, 69, 70, 71, 72, 73, 74, 75, 76, 77, 78, 79, 97, 98, 99, 100, 101, 102, 103, 104, 105, 106, 107, 108, 109, 110, 111, 112, 113] (by decide +kernel) (by decide +kernel)
set_option maxRecDepth 20000 in
theorem gX3_countStep_X2_openFrame : GoodIn wsX3_countStep (wsV RX3 59 RX2 yX2_openFrame wsX2_openFrame) := goodIn_app (goodIn_of _ (by decide +kernel)) ggX3_countStep_X2_openFrame
set_option maxRecDepth 20000 in
theorem ggX3_countStep_X2_open : GoodIn wsX3_countStep wsX2_open := goodIn_r _ [38, 14, 97, 98, 99, 100, 101, 102, 103, 104, 105, 106] (by decide +kernel) (by decide +kernel)
set_option maxRecDepth 20000 in
theorem gX3_countStep_X2_open : GoodIn wsX3_countStep (wsV RX3 110 RX2 yX2_open wsX2_open) := goodIn_app (goodIn_of _ (by decide +kernel)) ggX3_countStep_X2_open
theorem dX3_countStep_0 : decode cX3_countStep 0 = .ok (.aload_n 0, 1) := by decide +kernel
theorem dX3_countStep_1 : decode cX3_countStep 1 = .ok (.dup, 1) := by decide +kernel
theorem dX3_countStep_2 : decode cX3_countStep 2 = .ok (.getfield 35, 3) := by decide +kernel
theorem dX3_countStep_5 : decode cX3_countStep 5 = .ok (.iconst 1, 1) := by decide +kernel
theorem dX3_countStep_6 : decode cX3_countStep 6 = .ok (.iadd, 1) := by decide +kernel
theorem dX3_countStep_7 : decode cX3_countStep 7 = .ok (.putfield 35, 3) := by decide +kernel
theorem dX3_countStep_10 : decode cX3_countStep 10 = .ok (.aload_n 0, 1) := by decide +kernel
theorem dX3_countStep_11 : decode cX3_countStep 11 = .ok (.getfield 29, 3) := by decide +kernel
theorem dX3_countStep_14 : decode cX3_countStep 14 = .ok (.iconst 1, 1) := by decide +kernel
theorem dX3_countStep_15 : decode cX3_countStep 15 = .ok (.if_icmp .lt 15, 3) := by decide +kernel
theorem dX3_countStep_18 : decode cX3_countStep 18 = .ok (.aload_n 0, 1) := by decide +kernel
theorem dX3_countStep_19 : decode cX3_countStep 19 = .ok (.getfield 35, 3) := by decide +kernel
theorem dX3_countStep_22 : decode cX3_countStep 22 = .ok (.aload_n 0, 1) := by decide +kernel
theorem dX3_countStep_23 : decode cX3_countStep 23 = .ok (.getfield 29, 3) := by decide +kernel
theorem dX3_countStep_26 : decode cX3_countStep 26 = .ok (.irem, 1) := by decide +kernel
theorem dX3_countStep_27 : decode cX3_countStep 27 = .ok (.ifCond .eq 4, 3) := by decide +kernel
theorem dX3_countStep_30 : decode cX3_countStep 30 = .ok (.return_, 1) := by decide +kernel
theorem dX3_countStep_31 : decode cX3_countStep 31 = .ok (.aload_n 0, 1) := by decide +kernel
theorem dX3_countStep_32 : decode cX3_countStep 32 = .ok (.getfield 12, 3) := by decide +kernel
theorem dX3_countStep_35 : decode cX3_countStep 35 = .ok (.invokevirtual 103, 3) := by decide +kernel
theorem dX3_countStep_38 : decode cX3_countStep 38 = .ok (.ifCond .eq 17, 3) := by decide +kernel
theorem dX3_countStep_41 : decode cX3_countStep 41 = .ok (.aload_n 0, 1) := by decide +kernel
theorem dX3_countStep_42 : decode cX3_countStep 42 = .ok (.bipush 11, 2) := by decide +kernel
theorem dX3_countStep_44 : decode cX3_countStep 44 = .ok (.aload_n 0, 1) := by decide +kernel
theorem dX3_countStep_45 : decode cX3_countStep 45 = .ok (.getfield 12, 3) := by decide +kernel
theorem dX3_countStep_48 : decode cX3_countStep 48 = .ok (.invokevirtual 86, 3) := by decide +kernel
theorem dX3_countStep_51 : decode cX3_countStep 51 = .ok (.invokevirtual 89, 3) := by decide +kernel
theorem dX3_countStep_54 : decode cX3_countStep 54 = .ok (.return_, 1) := by decide +kernel
theorem dX3_countStep_55 : decode cX3_countStep 55 = .ok (.aload_n 0, 1) := by decide +kernel
theorem dX3_countStep_56 : decode cX3_countStep 56 = .ok (.getfield 21, 3) := by decide +kernel
theorem dX3_countStep_59 : decode cX3_countStep 59 = .ok (.dup, 1) := by decide +kernel
theorem dX3_countStep_60 : decode cX3_countStep 60 = .ok (.getfield 107, 3) := by decide +kernel
theorem dX3_countStep_63 : decode cX3_countStep 63 = .ok (.iconst 1, 1) := by decide +kernel
theorem dX3_countStep_64 : decode cX3_countStep 64 = .ok (.iadd, 1) := by decide +kernel
theorem dX3_countStep_65 : decode cX3_countStep 65 = .ok (.putfield 107, 3) := by decide +kernel
theorem dX3_countStep_68 : decode cX3_countStep 68 = .ok (.aload_n 0, 1) := by decide +kernel
theorem dX3_countStep_69 : decode cX3_countStep 69 = .ok (.getfield 12, 3) := by decide +kernel
theorem dX3_countStep_72 : decode cX3_countStep 72 = .ok (.aload_n 0, 1) := by decide +kernel
theorem dX3_countStep_73 : decode cX3_countStep 73 = .ok (.getfield 41, 3) := by decide +kernel
theorem dX3_countStep_76 : decode cX3_countStep 76 = .ok (.aload_n 0, 1) := by decide +kernel
theorem dX3_countStep_77 : decode cX3_countStep 77 = .ok (.getfield 25, 3) := by decide +kernel
theorem dX3_countStep_80 : decode cX3_countStep 80 = .ok (.invokevirtual 59, 3) := by decide +kernel
theorem dX3_countStep_83 : decode cX3_countStep 83 = .ok (.aload_n 0, 1) := by decide +kernel
theorem dX3_countStep_84 : decode cX3_countStep 84 = .ok (.aload_n 0, 1) := by decide +kernel
theorem dX3_countStep_85 : decode cX3_countStep 85 = .ok (.getfield 12, 3) := by decide +kernel
theorem dX3_countStep_88 : decode cX3_countStep 88 = .ok (.invokevirtual 110, 3) := by decide +kernel
theorem dX3_countStep_91 : decode cX3_countStep 91 = .ok (.putfield 32, 3) := by decide +kernel
theorem dX3_countStep_94 : decode cX3_countStep 94 = .ok (.return_, 1) := by decide +kernel
set_option maxRecDepth 20000 in
theorem ggX3_fail_X2_routineNumber : GoodIn wsX3_fail wsX2_routineNumber := goodIn_r _ [13, 14, 15, 44, 45, 46, 47, 48, 49, 50, 51, 52, 53] (by decide +kernel) (by decide +kernel)
set_option maxRecDepth 20000 in
theorem gX3_fail_X2_routineNumber : GoodIn wsX3_fail (wsV RX3 93 RX2 yX2_routineNumber wsX2_routineNumber) := goodIn_app (goodIn_of _ (by decide +kernel)) ggX3_fail_X2_routineNumber
set_option maxRecDepth 20000 in
theorem ggX3_fail_X2_open : GoodIn wsX3_fail wsX2_open := goodIn_r _ [19, 15, 44, 45, 46, 47, 48, 49, 50, 51, 52, 53] (by decide +kernel) (by decide +kernel)
set_option maxRecDepth 20000 in
theorem gX3_fail_X2_open : GoodIn wsX3_fail (wsV RX3 110 RX2 yX2_open wsX2_open) := goodIn_app (goodIn_of _ (by decide +kernel)) ggX3_fail_X2_open
set_option maxRecDepth 20000 in
theorem ggX3_fail_X3_end : GoodIn wsX3_fail wsX3_end := goodIn_r _ [24, 1, 25, 26, 27, 28, 29, 30, 31, 32, 33, 34, 35, 36, 37, 38, 39, 40, 41, 42, 43] (by decide +kernel) (by decide +kernel)
set_option maxRecDepth 20000 in
theorem gX3_fail_X3_end : GoodIn wsX3_fail (wsV RX3 126 RX3 yX3_end wsX3_end) := goodIn_app (goodIn_of _ (by decide +kernel)) ggX3_fail_X3_end
theorem dX3_fail_0 : decode cX3_fail 0 = .ok (.aload_n 0, 1) := by decide +kernel
theorem dX3_fail_1 : decode cX3_fail 1 = .ok (.getfield 21, 3) := by decide +kernel
theorem dX3_fail_4 : decode cX3_fail 4 = .ok (.aload_n 0, 1) := by decide +kernel
theorem dX3_fail_5 : decode cX3_fail 5 = .ok (.getfield 32, 3) := by decide +kernel
theorem dX3_fail_8 : decode cX3_fail 8 = .ok (.ifCond .le 8, 3) := by decide +kernel
theorem dX3_fail_11 : decode cX3_fail 11 = .ok (.bipush 11, 2) := by decide +kernel
theorem dX3_fail_13 : decode cX3_fail 13 = .ok (.goto 4, 3) := by decide +kernel
theorem dX3_fail_16 : decode cX3_fail 16 = .ok (.iload_n 1, 1) := by decide +kernel
theorem dX3_fail_17 : decode cX3_fail 17 = .ok (.putfield 113, 3) := by decide +kernel
theorem dX3_fail_20 : decode cX3_fail 20 = .ok (.aload_n 0, 1) := by decide +kernel
theorem dX3_fail_21 : decode cX3_fail 21 = .ok (.getfield 21, 3) := by decide +kernel
theorem dX3_fail_24 : decode cX3_fail 24 = .ok (.aload_n 0, 1) := by decide +kernel
theorem dX3_fail_25 : decode cX3_fail 25 = .ok (.getfield 12, 3) := by decide +kernel
theorem dX3_fail_28 : decode cX3_fail 28 = .ok (.invokevirtual 93, 3) := by decide +kernel
theorem dX3_fail_31 : decode cX3_fail 31 = .ok (.putfield 116, 3) := by decide +kernel
theorem dX3_fail_34 : decode cX3_fail 34 = .ok (.aload_n 0, 1) := by decide +kernel
theorem dX3_fail_35 : decode cX3_fail 35 = .ok (.getfield 21, 3) := by decide +kernel
theorem dX3_fail_38 : decode cX3_fail 38 = .ok (.iload_n 2, 1) := by decide +kernel
theorem dX3_fail_39 : decode cX3_fail 39 = .ok (.putfield 119, 3) := by decide +kernel
theorem dX3_fail_42 : decode cX3_fail 42 = .ok (.aload_n 0, 1) := by decide +kernel
theorem dX3_fail_43 : decode cX3_fail 43 = .ok (.getfield 21, 3) := by decide +kernel
theorem dX3_fail_46 : decode cX3_fail 46 = .ok (.aload_n 0, 1) := by decide +kernel
theorem dX3_fail_47 : decode cX3_fail 47 = .ok (.getfield 12, 3) := by decide +kernel
theorem dX3_fail_50 : decode cX3_fail 50 = .ok (.invokevirtual 110, 3) := by decide +kernel
theorem dX3_fail_53 : decode cX3_fail 53 = .ok (.putfield 121, 3) := by decide +kernel
theorem dX3_fail_56 : decode cX3_fail 56 = .ok (.aload_n 0, 1) := by decide +kernel
theorem dX3_fail_57 : decode cX3_fail 57 = .ok (.iconst 3, 1) := by decide +kernel
theorem dX3_fail_58 : decode cX3_fail 58 = .ok (.ldc 125, 2) := by decide +kernel
theorem dX3_fail_60 : decode cX3_fail 60 = .ok (.aload_n 0, 1) := by decide +kernel
theorem dX3_fail_61 : decode cX3_fail 61 = .ok (.getfield 21, 3) := by decide +kernel
theorem dX3_fail_64 : decode cX3_fail 64 = .ok (.getfield 113, 3) := by decide +kernel
theorem dX3_fail_67 : decode cX3_fail 67 = .ok (.isub, 1) := by decide +kernel
theorem dX3_fail_68 : decode cX3_fail 68 = .ok (.invokevirtual 126, 3) := by decide +kernel
theorem dX3_fail_71 : decode cX3_fail 71 = .ok (.return_, 1) := by decide +kernel
theorem dX3_end_0 : decode cX3_end 0 = .ok (.aload_n 0, 1) := by decide +kernel
theorem dX3_end_1 : decode cX3_end 1 = .ok (.getfield 21, 3) := by decide +kernel
theorem dX3_end_4 : decode cX3_end 4 = .ok (.iload_n 1, 1) := by decide +kernel
theorem dX3_end_5 : decode cX3_end 5 = .ok (.putfield 67, 3) := by decide +kernel
theorem dX3_end_8 : decode cX3_end 8 = .ok (.aload_n 0, 1) := by decide +kernel
theorem dX3_end_9 : decode cX3_end 9 = .ok (.iload_n 2, 1) := by decide +kernel
theorem dX3_end_10 : decode cX3_end 10 = .ok (.putfield 38, 3) := by decide +kernel
theorem dX3_end_13 : decode cX3_end 13 = .ok (.return_, 1) := by decide +kernel
set_option maxRecDepth 20000 in
theorem ggX3_operate_X5_hasPlace : GoodIn wsX3_operate wsX5_hasPlace := goodIn_r _ [7, 8, 9, 10, 11, 6, 12, 13, 228, 229, 230, 231, 232, 233, 234] (by decide +kernel) (by decide +kernel)
set_option maxRecDepth 20000 in
theorem gX3_operate_X5_hasPlace : GoodIn wsX3_operate (wsV RX3 129 RX5 yX5_hasPlace wsX5_hasPlace) := goodIn_app (goodIn_of _ (by decide +kernel)) ggX3_operate_X5_hasPlace
set_option maxRecDepth 20000 in
theorem ggX3_operate_X2_goTo : GoodIn wsX3_operate wsX2_goTo := goodIn_r _ [18, 19, 20, 235, 236, 237, 238, 239, 240, 241, 242, 243, 244] (by decide +kernel) (by decide +kernel)
set_option maxRecDepth 20000 in
theorem gX3_operate_X2_goTo : GoodIn wsX3_operate (wsV RX3 135 RX2 yX2_goTo wsX2_goTo) := goodIn_app (goodIn_of _ (by decide +kernel)) ggX3_operate_X2_goTo
set_option maxRecDepth 20000 in
theorem ggX3_operate_X5_op : GoodIn wsX3_operate wsX5_op := goodIn_r _ [24, 25, 26, 4, 5, 6, 7, 8, 9, 10, 11, 12, 13, 228, 229, 230, 231, 232, 233, 234] (by decide +kernel) (by decide +kernel)
set_option maxRecDepth 20000 in
theorem gX3_operate_X5_op : GoodIn wsX3_operate (wsV RX3 138 RX5 yX5_op wsX5_op) := goodIn_app (goodIn_of _ (by decide +kernel)) ggX3_operate_X5_op
set_option maxRecDepth 20000 in
theorem ggX3_operate_X5_a : GoodIn wsX3_operate wsX5_a := goodIn_r _ [30, 31, 26, 4, 5, 6, 7, 8, 9, 10, 11, 12, 13, 228, 229, 230, 231, 232, 233, 234] (by decide +kernel) (by decide +kernel)
set_option maxRecDepth 20000 in
theorem gX3_operate_X5_a : GoodIn wsX3_operate (wsV RX3 141 RX5 yX5_a wsX5_a) := goodIn_app (goodIn_of _ (by decide +kernel)) ggX3_operate_X5_a
set_option maxRecDepth 20000 in
theorem ggX3_operate_X2_push : GoodIn wsX3_operate wsX2_push := goodIn_r _ [35, 36, 37, 235, 236, 237, 238, 239, 240, 241, 242, 243, 244] (by decide +kernel) (by decide +kernel)
set_option maxRecDepth 20000 in
theorem gX3_operate_X2_push : GoodIn wsX3_operate (wsV RX3 144 RX2 yX2_push wsX2_push) := goodIn_app (goodIn_of _ (by decide +kernel)) ggX3_operate_X2_push
set_option maxRecDepth 20000 in
theorem ggX3_operate_X3_load : GoodIn wsX3_operate wsX3_load := goodIn_r _ [42, 2, 43, 44, 45, 17, 46, 47, 20, 48, 49, 50, 51, 52, 53, 32, 33, 34, 35, 36, 37, 219, 220, 221, 222, 223, 224, 225, 226, 227, 235, 236, 237, 238, 239, 240, 241, 242, 243, 244] (by decide +kernel) (by decide +kernel)
set_option maxRecDepth 20000 in
theorem gX3_operate_X3_load : GoodIn wsX3_operate (wsV RX3 147 RX3 yX3_load wsX3_load) := goodIn_app (goodIn_of _ (by decide +kernel)) ggX3_operate_X3_load
set_option maxRecDepth 20000 in
theorem ggX3_operate_X3_store : GoodIn wsX3_operate wsX3_store := goodIn_r _ [57, 2, 58, 59, 60, 17, 61, 36, 62, 20, 43, 44, 45, 46, 47, 63, 64, 65, 66, 37, 67, 68, 69, 70, 71, 52, 53, 72, 73, 74, 75, 219, 220, 221, 222, 223, 224, 225, 226, 227, 235, 236, 237, 238, 239, 240, 241, 242, 243, 244] (by decide +kernel) (by decide +kernel)
set_option maxRecDepth 20000 in
theorem gX3_operate_X3_store : GoodIn wsX3_operate (wsV RX3 150 RX3 yX3_store wsX3_store) := goodIn_app (goodIn_of _ (by decide +kernel)) ggX3_operate_X3_store
set_option maxRecDepth 20000 in
theorem ggX3_operate_X3_reckon : GoodIn wsX3_operate wsX3_reckon := goodIn_r _ [79, 2, 58, 59, 60, 17, 61, 36, 62, 20, 63, 64, 65, 66, 37, 67, 72, 73, 74, 75, 32, 33, 34, 35, 219, 220, 221, 222, 223, 224, 225, 226, 227, 235, 236, 237, 238, 239, 240, 241, 242, 243, 244] (by decide +kernel) (by decide +kernel)
set_option maxRecDepth 20000 in
theorem gX3_operate_X3_reckon : GoodIn wsX3_operate (wsV RX3 153 RX3 yX3_reckon wsX3_reckon) := goodIn_app (goodIn_of _ (by decide +kernel)) ggX3_operate_X3_reckon
set_option maxRecDepth 20000 in
theorem ggX3_operate_X3_divide : GoodIn wsX3_operate wsX3_divide := goodIn_r _ [83, 2, 58, 59, 60, 17, 61, 36, 62, 20, 63, 64, 65, 66, 37, 67, 72, 73, 74, 75, 32, 33, 34, 35, 219, 220, 221, 222, 223, 224, 225, 226, 227, 235, 236, 237, 238, 239, 240, 241, 242, 243, 244] (by decide +kernel) (by decide +kernel)
set_option maxRecDepth 20000 in
theorem gX3_operate_X3_divide : GoodIn wsX3_operate (wsV RX3 156 RX3 yX3_divide wsX3_divide) := goodIn_app (goodIn_of _ (by decide +kernel)) ggX3_operate_X3_divide
set_option maxRecDepth 20000 in
theorem ggX3_operate_X3_jumpIfZero : GoodIn wsX3_operate wsX3_jumpIfZero := goodIn_r _ [87, 2, 58, 59, 60, 17, 61, 36, 62, 20, 63, 64, 65, 66, 37, 67, 72, 73, 74, 75, 88, 89, 90, 41, 91, 14, 15, 16, 18, 19, 219, 220, 221, 222, 223, 224, 225, 226, 227, 235, 236, 237, 238, 239, 240, 241, 242, 243, 244] (by decide +kernel) (by decide +kernel)
set_option maxRecDepth 20000 in
theorem gX3_operate_X3_jumpIfZero : GoodIn wsX3_operate (wsV RX3 159 RX3 yX3_jumpIfZero wsX3_jumpIfZero) := goodIn_app (goodIn_of _ (by decide +kernel)) ggX3_operate_X3_jumpIfZero
set_option maxRecDepth 20000 in
theorem ggX3_operate_X3_jump : GoodIn wsX3_operate wsX3_jump := goodIn_r _ [91, 2, 14, 15, 16, 17, 18, 19, 20, 219, 220, 221, 222, 223, 224, 225, 226, 227, 235, 236, 237, 238, 239, 240, 241, 242, 243, 244] (by decide +kernel) (by decide +kernel)
set_option maxRecDepth 20000 in
theorem gX3_operate_X3_jump : GoodIn wsX3_operate (wsV RX3 162 RX3 yX3_jump wsX3_jump) := goodIn_app (goodIn_of _ (by decide +kernel)) ggX3_operate_X3_jump
set_option maxRecDepth 20000 in
theorem ggX3_operate_X5_b : GoodIn wsX3_operate wsX5_b := goodIn_r _ [95, 96, 26, 4, 5, 6, 7, 8, 9, 10, 11, 12, 13, 228, 229, 230, 231, 232, 233, 234] (by decide +kernel) (by decide +kernel)
set_option maxRecDepth 20000 in
theorem gX3_operate_X5_b : GoodIn wsX3_operate (wsV RX3 165 RX5 yX5_b wsX5_b) := goodIn_app (goodIn_of _ (by decide +kernel)) ggX3_operate_X5_b
set_option maxRecDepth 20000 in
theorem ggX3_operate_X3_call : GoodIn wsX3_operate wsX3_call := goodIn_r _ [100, 2, 1, 58, 59, 60, 17, 61, 36, 62, 20, 101, 10, 11, 6, 12, 13, 102, 103, 104, 105, 106, 107, 108, 109, 72, 73, 74, 75, 67, 110, 111, 112, 113, 114, 115, 116, 117, 118, 119, 19, 120, 47, 52, 121, 122, 123, 124, 125, 126, 9, 127, 128, 129, 130, 131, 132, 133, 134, 135, 136, 137, 138, 139, 37, 140, 141, 142, 143, 144, 145, 146, 147, 219, 220, 221, 222, 223, 224, 225, 226, 227, 235, 236, 237, 238, 239, 240, 241, 242, 243, 244, 228, 229, 230, 231, 232, 233, 234] (by decide +kernel) (by decide +kernel)
set_option maxRecDepth 20000 in
theorem gX3_operate_X3_call : GoodIn wsX3_operate (wsV RX3 168 RX3 yX3_call wsX3_call) := goodIn_app (goodIn_of _ (by decide +kernel)) ggX3_operate_X3_call
set_option maxRecDepth 20000 in
theorem ggX3_operate_X3_comeToTop : GoodIn wsX3_operate wsX3_comeToTop := goodIn_r _ [151, 2, 58, 59, 60, 17, 61, 36, 62, 20, 152, 153, 154, 155, 63, 64, 65, 66, 37, 67, 156, 157, 158, 41, 159, 160, 161, 162, 163, 164, 165, 166, 167, 168, 169, 170, 171, 32, 33, 34, 35, 219, 220, 221, 222, 223, 224, 225, 226, 227, 235, 236, 237, 238, 239, 240, 241, 242, 243, 244, 245, 246, 247, 248, 249, 250, 251, 252] (by decide +kernel) (by decide +kernel)
set_option maxRecDepth 20000 in
theorem gX3_operate_X3_comeToTop : GoodIn wsX3_operate (wsV RX3 171 RX3 yX3_comeToTop wsX3_comeToTop) := goodIn_app (goodIn_of _ (by decide +kernel)) ggX3_operate_X3_comeToTop
set_option maxRecDepth 20000 in
theorem ggX3_operate_X2_open : GoodIn wsX3_operate wsX2_open := goodIn_r _ [155, 20, 235, 236, 237, 238, 239, 240, 241, 242, 243, 244] (by decide +kernel) (by decide +kernel)
set_option maxRecDepth 20000 in
theorem gX3_operate_X2_open : GoodIn wsX3_operate (wsV RX3 110 RX2 yX2_open wsX2_open) := goodIn_app (goodIn_of _ (by decide +kernel)) ggX3_operate_X2_open
set_option maxRecDepth 20000 in
theorem ggX3_operate_X3_unwind : GoodIn wsX3_operate wsX3_unwind := goodIn_r _ [175, 2, 160, 176, 116, 117, 118, 58, 59, 60, 17, 61, 36, 62, 20, 63, 64, 65, 66, 37, 67, 152, 153, 154, 155, 156, 157, 158, 41, 159, 161, 162, 163, 164, 165, 166, 167, 168, 169, 170, 171, 32, 33, 34, 35, 219, 220, 221, 222, 223, 224, 225, 226, 227, 235, 236, 237, 238, 239, 240, 241, 242, 243, 244, 245, 246, 247, 248, 249, 250, 251, 252] (by decide +kernel) (by decide +kernel)
set_option maxRecDepth 20000 in
theorem gX3_operate_X3_unwind : GoodIn wsX3_operate (wsV RX3 174 RX3 yX3_unwind wsX3_unwind) := goodIn_app (goodIn_of _ (by decide +kernel)) ggX3_operate_X3_unwind
set_option maxRecDepth 20000 in
theorem ggX3_operate_X2_givenCount : GoodIn wsX3_operate wsX2_givenCount := goodIn_r _ [180, 120, 20, 235, 236, 237, 238, 239, 240, 241, 242, 243, 244] (by decide +kernel) (by decide +kernel)
set_option maxRecDepth 20000 in
theorem gX3_operate_X2_givenCount : GoodIn wsX3_operate (wsV RX3 177 RX2 yX2_givenCount wsX2_givenCount) := goodIn_app (goodIn_of _ (by decide +kernel)) ggX3_operate_X2_givenCount
set_option maxRecDepth 20000 in
theorem ggX3_operate_X3_toUserStack : GoodIn wsX3_operate wsX3_toUserStack := goodIn_r _ [184, 2, 185, 58, 59, 60, 17, 61, 36, 62, 20, 186, 187, 188, 189, 190, 63, 64, 65, 66, 37, 67, 191, 192, 193, 194, 195, 196, 197, 198, 72, 73, 74, 75, 32, 33, 34, 35, 219, 220, 221, 222, 223, 224, 225, 226, 227, 235, 236, 237, 238, 239, 240, 241, 242, 243, 244, 253, 254, 255] (by decide +kernel) (by decide +kernel)
set_option maxRecDepth 20000 in
theorem gX3_operate_X3_toUserStack : GoodIn wsX3_operate (wsV RX3 180 RX3 yX3_toUserStack wsX3_toUserStack) := goodIn_app (goodIn_of _ (by decide +kernel)) ggX3_operate_X3_toUserStack
set_option maxRecDepth 20000 in
theorem ggX3_operate_X3_fromUserStack : GoodIn wsX3_operate wsX3_fromUserStack := goodIn_r _ [202, 185, 2, 186, 187, 188, 189, 190, 203, 204, 205, 206, 195, 198, 106, 107, 108, 17, 109, 36, 207, 208, 209, 210, 197, 32, 33, 34, 35, 37, 219, 220, 221, 222, 223, 224, 225, 226, 227, 253, 254, 255, 235, 236, 237, 238, 239, 240, 241, 242, 243, 244] (by decide +kernel) (by decide +kernel)
set_option maxRecDepth 20000 in
theorem gX3_operate_X3_fromUserStack : GoodIn wsX3_operate (wsV RX3 183 RX3 yX3_fromUserStack wsX3_fromUserStack) := goodIn_app (goodIn_of _ (by decide +kernel)) ggX3_operate_X3_fromUserStack
set_option maxRecDepth 20000 in
theorem ggX3_operate_X3_duplicate : GoodIn wsX3_operate wsX3_duplicate := goodIn_r _ [214, 2, 58, 59, 60, 17, 61, 36, 62, 20, 63, 64, 65, 66, 37, 67, 32, 33, 34, 35, 219, 220, 221, 222, 223, 224, 225, 226, 227, 235, 236, 237, 238, 239, 240, 241, 242, 243, 244] (by decide +kernel) (by decide +kernel)
set_option maxRecDepth 20000 in
theorem gX3_operate_X3_duplicate : GoodIn wsX3_operate (wsV RX3 186 RX3 yX3_duplicate wsX3_duplicate) := goodIn_app (goodIn_of _ (by decide +kernel)) ggX3_operate_X3_duplicate
set_option maxRecDepth 20000 in
theorem ggX3_operate_X3_dropTop : GoodIn wsX3_operate wsX3_dropTop := goodIn_r _ [218, 2, 58, 59, 60, 17, 61, 36, 62, 20, 72, 73, 74, 75, 67, 219, 220, 221, 222, 223, 224, 225, 226, 227, 235, 236, 237, 238, 239, 240, 241, 242, 243, 244] (by decide +kernel) (by decide +kernel)
set_option maxRecDepth 20000 in
theorem gX3_operate_X3_dropTop : GoodIn wsX3_operate (wsV RX3 189 RX3 yX3_dropTop wsX3_dropTop) := goodIn_app (goodIn_of _ (by decide +kernel)) ggX3_operate_X3_dropTop
theorem dX3_operate_0 : decode cX3_operate 0 = .ok (.aload_n 0, 1) := by decide +kernel
theorem dX3_operate_1 : decode cX3_operate 1 = .ok (.getfield 41, 3) := by decide +kernel
theorem dX3_operate_4 : decode cX3_operate 4 = .ok (.iload_n 1, 1) := by decide +kernel
theorem dX3_operate_5 : decode cX3_operate 5 = .ok (.iload_n 2, 1) := by decide +kernel
theorem dX3_operate_6 : decode cX3_operate 6 = .ok (.invokevirtual 129, 3) := by decide +kernel
theorem dX3_operate_9 : decode cX3_operate 9 = .ok (.ifCond .ne 6, 3) := by decide +kernel
theorem dX3_operate_12 : decode cX3_operate 12 = .ok (.bipush 7, 2) := by decide +kernel
theorem dX3_operate_14 : decode cX3_operate 14 = .ok (.ireturn, 1) := by decide +kernel
theorem dX3_operate_15 : decode cX3_operate 15 = .ok (.aload_n 0, 1) := by decide +kernel
theorem dX3_operate_16 : decode cX3_operate 16 = .ok (.getfield 12, 3) := by decide +kernel
theorem dX3_operate_19 : decode cX3_operate 19 = .ok (.iload_n 2, 1) := by decide +kernel
theorem dX3_operate_20 : decode cX3_operate 20 = .ok (.iconst 1, 1) := by decide +kernel
theorem dX3_operate_21 : decode cX3_operate 21 = .ok (.iadd, 1) := by decide +kernel
theorem dX3_operate_22 : decode cX3_operate 22 = .ok (.invokevirtual 135, 3) := by decide +kernel
theorem dX3_operate_25 : decode cX3_operate 25 = .ok (.aload_n 0, 1) := by decide +kernel
theorem dX3_operate_26 : decode cX3_operate 26 = .ok (.getfield 41, 3) := by decide +kernel
theorem dX3_operate_29 : decode cX3_operate 29 = .ok (.iload_n 1, 1) := by decide +kernel
theorem dX3_operate_30 : decode cX3_operate 30 = .ok (.iload_n 2, 1) := by decide +kernel
theorem dX3_operate_31 : decode cX3_operate 31 = .ok (.invokevirtual 138, 3) := by decide +kernel
theorem dX3_operate_34 : decode cX3_operate 34 = .ok (.istore_n 3, 1) := by decide +kernel
theorem dX3_operate_35 : decode cX3_operate 35 = .ok (.aload_n 0, 1) := by decide +kernel
theorem dX3_operate_36 : decode cX3_operate 36 = .ok (.getfield 41, 3) := by decide +kernel
theorem dX3_operate_39 : decode cX3_operate 39 = .ok (.iload_n 1, 1) := by decide +kernel
theorem dX3_operate_40 : decode cX3_operate 40 = .ok (.iload_n 2, 1) := by decide +kernel
theorem dX3_operate_41 : decode cX3_operate 41 = .ok (.invokevirtual 141, 3) := by decide +kernel
theorem dX3_operate_44 : decode cX3_operate 44 = .ok (.istore 4, 2) := by decide +kernel
theorem dX3_operate_46 : decode cX3_operate 46 = .ok (.iload_n 3, 1) := by decide +kernel
theorem dX3_operate_47 : decode cX3_operate 47 = .ok (.tableswitch 223 0 19 #[93, 103, 110, 117, 117, 117, 123, 123, 129, 136, 143, 159, 164, 179, 184, 199, 206, 213, 218, 117], 93) := by decide +kernel
theorem dX3_operate_140 : decode cX3_operate 140 = .ok (.aload_n 0, 1) := by decide +kernel
theorem dX3_operate_141 : decode cX3_operate 141 = .ok (.getfield 12, 3) := by decide +kernel
theorem dX3_operate_144 : decode cX3_operate 144 = .ok (.iload 4, 2) := by decide +kernel
theorem dX3_operate_146 : decode cX3_operate 146 = .ok (.invokevirtual 144, 3) := by decide +kernel
theorem dX3_operate_149 : decode cX3_operate 149 = .ok (.ireturn, 1) := by decide +kernel
theorem dX3_operate_150 : decode cX3_operate 150 = .ok (.aload_n 0, 1) := by decide +kernel
theorem dX3_operate_151 : decode cX3_operate 151 = .ok (.iload 4, 2) := by decide +kernel
theorem dX3_operate_153 : decode cX3_operate 153 = .ok (.invokevirtual 147, 3) := by decide +kernel
theorem dX3_operate_156 : decode cX3_operate 156 = .ok (.ireturn, 1) := by decide +kernel
theorem dX3_operate_157 : decode cX3_operate 157 = .ok (.aload_n 0, 1) := by decide +kernel
theorem dX3_operate_158 : decode cX3_operate 158 = .ok (.iload 4, 2) := by decide +kernel
theorem dX3_operate_160 : decode cX3_operate 160 = .ok (.invokevirtual 150, 3) := by decide +kernel
theorem dX3_operate_163 : decode cX3_operate 163 = .ok (.ireturn, 1) := by decide +kernel
theorem dX3_operate_164 : decode cX3_operate 164 = .ok (.aload_n 0, 1) := by decide +kernel
theorem dX3_operate_165 : decode cX3_operate 165 = .ok (.iload_n 3, 1) := by decide +kernel
theorem dX3_operate_166 : decode cX3_operate 166 = .ok (.invokevirtual 153, 3) := by decide +kernel
theorem dX3_operate_169 : decode cX3_operate 169 = .ok (.ireturn, 1) := by decide +kernel
theorem dX3_operate_170 : decode cX3_operate 170 = .ok (.aload_n 0, 1) := by decide +kernel
theorem dX3_operate_171 : decode cX3_operate 171 = .ok (.iload_n 3, 1) := by decide +kernel
theorem dX3_operate_172 : decode cX3_operate 172 = .ok (.invokevirtual 156, 3) := by decide +kernel
theorem dX3_operate_175 : decode cX3_operate 175 = .ok (.ireturn, 1) := by decide +kernel
theorem dX3_operate_176 : decode cX3_operate 176 = .ok (.aload_n 0, 1) := by decide +kernel
theorem dX3_operate_177 : decode cX3_operate 177 = .ok (.iload 4, 2) := by decide +kernel
theorem dX3_operate_179 : decode cX3_operate 179 = .ok (.invokevirtual 159, 3) := by decide +kernel
theorem dX3_operate_182 : decode cX3_operate 182 = .ok (.ireturn, 1) := by decide +kernel
theorem dX3_operate_183 : decode cX3_operate 183 = .ok (.aload_n 0, 1) := by decide +kernel
theorem dX3_operate_184 : decode cX3_operate 184 = .ok (.iload 4, 2) := by decide +kernel
theorem dX3_operate_186 : decode cX3_operate 186 = .ok (.invokevirtual 162, 3) := by decide +kernel
theorem dX3_operate_189 : decode cX3_operate 189 = .ok (.ireturn, 1) := by decide +kernel
theorem dX3_operate_190 : decode cX3_operate 190 = .ok (.aload_n 0, 1) := by decide +kernel
theorem dX3_operate_191 : decode cX3_operate 191 = .ok (.iload 4, 2) := by decide +kernel
theorem dX3_operate_193 : decode cX3_operate 193 = .ok (.aload_n 0, 1) := by decide +kernel
theorem dX3_operate_194 : decode cX3_operate 194 = .ok (.getfield 41, 3) := by decide +kernel
theorem dX3_operate_197 : decode cX3_operate 197 = .ok (.iload_n 1, 1) := by decide +kernel
theorem dX3_operate_198 : decode cX3_operate 198 = .ok (.iload_n 2, 1) := by decide +kernel
theorem dX3_operate_199 : decode cX3_operate 199 = .ok (.invokevirtual 165, 3) := by decide +kernel
theorem dX3_operate_202 : decode cX3_operate 202 = .ok (.invokevirtual 168, 3) := by decide +kernel
theorem dX3_operate_205 : decode cX3_operate 205 = .ok (.ireturn, 1) := by decide +kernel
theorem dX3_operate_206 : decode cX3_operate 206 = .ok (.aload_n 0, 1) := by decide +kernel
theorem dX3_operate_207 : decode cX3_operate 207 = .ok (.invokevirtual 171, 3) := by decide +kernel
theorem dX3_operate_210 : decode cX3_operate 210 = .ok (.ireturn, 1) := by decide +kernel
theorem dX3_operate_211 : decode cX3_operate 211 = .ok (.aload_n 0, 1) := by decide +kernel
theorem dX3_operate_212 : decode cX3_operate 212 = .ok (.getfield 12, 3) := by decide +kernel
theorem dX3_operate_215 : decode cX3_operate 215 = .ok (.aload_n 0, 1) := by decide +kernel
theorem dX3_operate_216 : decode cX3_operate 216 = .ok (.getfield 12, 3) := by decide +kernel
theorem dX3_operate_219 : decode cX3_operate 219 = .ok (.invokevirtual 110, 3) := by decide +kernel
theorem dX3_operate_222 : decode cX3_operate 222 = .ok (.invokevirtual 144, 3) := by decide +kernel
theorem dX3_operate_225 : decode cX3_operate 225 = .ok (.ireturn, 1) := by decide +kernel
theorem dX3_operate_226 : decode cX3_operate 226 = .ok (.aload_n 0, 1) := by decide +kernel
theorem dX3_operate_227 : decode cX3_operate 227 = .ok (.invokevirtual 174, 3) := by decide +kernel
theorem dX3_operate_230 : decode cX3_operate 230 = .ok (.ireturn, 1) := by decide +kernel
theorem dX3_operate_231 : decode cX3_operate 231 = .ok (.aload_n 0, 1) := by decide +kernel
theorem dX3_operate_232 : decode cX3_operate 232 = .ok (.getfield 12, 3) := by decide +kernel
theorem dX3_operate_235 : decode cX3_operate 235 = .ok (.aload_n 0, 1) := by decide +kernel
theorem dX3_operate_236 : decode cX3_operate 236 = .ok (.getfield 12, 3) := by decide +kernel
theorem dX3_operate_239 : decode cX3_operate 239 = .ok (.invokevirtual 177, 3) := by decide +kernel
theorem dX3_operate_242 : decode cX3_operate 242 = .ok (.invokevirtual 144, 3) := by decide +kernel
theorem dX3_operate_245 : decode cX3_operate 245 = .ok (.ireturn, 1) := by decide +kernel
theorem dX3_operate_246 : decode cX3_operate 246 = .ok (.aload_n 0, 1) := by decide +kernel
theorem dX3_operate_247 : decode cX3_operate 247 = .ok (.iload 4, 2) := by decide +kernel
theorem dX3_operate_249 : decode cX3_operate 249 = .ok (.invokevirtual 180, 3) := by decide +kernel
theorem dX3_operate_252 : decode cX3_operate 252 = .ok (.ireturn, 1) := by decide +kernel
theorem dX3_operate_253 : decode cX3_operate 253 = .ok (.aload_n 0, 1) := by decide +kernel
theorem dX3_operate_254 : decode cX3_operate 254 = .ok (.iload 4, 2) := by decide +kernel
theorem dX3_operate_256 : decode cX3_operate 256 = .ok (.invokevirtual 183, 3) := by decide +kernel
theorem dX3_operate_259 : decode cX3_operate 259 = .ok (.ireturn, 1) := by decide +kernel
theorem dX3_operate_260 : decode cX3_operate 260 = .ok (.aload_n 0, 1) := by decide +kernel
theorem dX3_operate_261 : decode cX3_operate 261 = .ok (.invokevirtual 186, 3) := by decide +kernel
theorem dX3_operate_264 : decode cX3_operate 264 = .ok (.ireturn, 1) := by decide +kernel
theorem dX3_operate_265 : decode cX3_operate 265 = .ok (.aload_n 0, 1) := by decide +kernel
theorem dX3_operate_266 : decode cX3_operate 266 = .ok (.invokevirtual 189, 3) := by decide +kernel
theorem dX3_operate_269 : decode cX3_operate 269 = .ok (.ireturn, 1) := by decide +kernel
theorem dX3_operate_270 : decode cX3_operate 270 = .ok (.bipush 7, 2) := by decide +kernel
theorem dX3_operate_272 : decode cX3_operate 272 = .ok (.ireturn, 1) := by decide +kernel
set_option maxRecDepth 20000 in
theorem ggX3_load_X2_hasLocal : GoodIn wsX3_load wsX2_hasLocal := goodIn_r _ [6, 7, 8, 30, 31, 32, 33, 34, 35, 36, 37, 38, 39] (by decide +kernel) (by decide +kernel)
set_option maxRecDepth 20000 in
theorem gX3_load_X2_hasLocal : GoodIn wsX3_load (wsV RX3 192 RX2 yX2_hasLocal wsX2_hasLocal) := goodIn_app (goodIn_of _ (by decide +kernel)) ggX3_load_X2_hasLocal
set_option maxRecDepth 20000 in
theorem ggX3_load_X2_local : GoodIn wsX3_load wsX2_local := goodIn_r _ [12, 13, 8, 14, 3, 4, 5, 6, 7, 30, 31, 32, 33, 34, 35, 36, 37, 38, 39] (by decide +kernel) (by decide +kernel)
set_option maxRecDepth 20000 in
theorem gX3_load_X2_local : GoodIn wsX3_load (wsV RX3 196 RX2 yX2_local wsX2_local) := goodIn_app (goodIn_of _ (by decide +kernel)) ggX3_load_X2_local
set_option maxRecDepth 20000 in
theorem ggX3_load_X2_push : GoodIn wsX3_load wsX2_push := goodIn_r _ [18, 19, 20, 30, 31, 32, 33, 34, 35, 36, 37, 38, 39] (by decide +kernel) (by decide +kernel)
set_option maxRecDepth 20000 in
theorem gX3_load_X2_push : GoodIn wsX3_load (wsV RX3 144 RX2 yX2_push wsX2_push) := goodIn_app (goodIn_of _ (by decide +kernel)) ggX3_load_X2_push
theorem dX3_load_0 : decode cX3_load 0 = .ok (.aload_n 0, 1) := by decide +kernel
theorem dX3_load_1 : decode cX3_load 1 = .ok (.getfield 12, 3) := by decide +kernel
theorem dX3_load_4 : decode cX3_load 4 = .ok (.iload_n 1, 1) := by decide +kernel
theorem dX3_load_5 : decode cX3_load 5 = .ok (.invokevirtual 192, 3) := by decide +kernel
theorem dX3_load_8 : decode cX3_load 8 = .ok (.ifCond .ne 5, 3) := by decide +kernel
theorem dX3_load_11 : decode cX3_load 11 = .ok (.iconst 2, 1) := by decide +kernel
theorem dX3_load_12 : decode cX3_load 12 = .ok (.ireturn, 1) := by decide +kernel
theorem dX3_load_13 : decode cX3_load 13 = .ok (.aload_n 0, 1) := by decide +kernel
theorem dX3_load_14 : decode cX3_load 14 = .ok (.getfield 12, 3) := by decide +kernel
theorem dX3_load_17 : decode cX3_load 17 = .ok (.aload_n 0, 1) := by decide +kernel
theorem dX3_load_18 : decode cX3_load 18 = .ok (.getfield 12, 3) := by decide +kernel
theorem dX3_load_21 : decode cX3_load 21 = .ok (.iload_n 1, 1) := by decide +kernel
theorem dX3_load_22 : decode cX3_load 22 = .ok (.invokevirtual 196, 3) := by decide +kernel
theorem dX3_load_25 : decode cX3_load 25 = .ok (.invokevirtual 144, 3) := by decide +kernel
theorem dX3_load_28 : decode cX3_load 28 = .ok (.ireturn, 1) := by decide +kernel
set_option maxRecDepth 20000 in
theorem ggX3_store_X2_holds : GoodIn wsX3_store wsX2_holds := goodIn_r _ [6, 7, 8, 9, 40, 41, 42, 43, 44, 45, 46, 47, 48, 49] (by decide +kernel) (by decide +kernel)
set_option maxRecDepth 20000 in
theorem gX3_store_X2_holds : GoodIn wsX3_store (wsV RX3 199 RX2 yX2_holds wsX2_holds) := goodIn_app (goodIn_of _ (by decide +kernel)) ggX3_store_X2_holds
set_option maxRecDepth 20000 in
theorem ggX3_store_X2_hasLocal : GoodIn wsX3_store wsX2_hasLocal := goodIn_r _ [13, 14, 9, 40, 41, 42, 43, 44, 45, 46, 47, 48, 49] (by decide +kernel) (by decide +kernel)
set_option maxRecDepth 20000 in
theorem gX3_store_X2_hasLocal : GoodIn wsX3_store (wsV RX3 192 RX2 yX2_hasLocal wsX2_hasLocal) := goodIn_app (goodIn_of _ (by decide +kernel)) ggX3_store_X2_hasLocal
set_option maxRecDepth 20000 in
theorem ggX3_store_X2_fromTop : GoodIn wsX3_store wsX2_fromTop := goodIn_r _ [18, 19, 7, 20, 3, 4, 5, 6, 8, 9, 40, 41, 42, 43, 44, 45, 46, 47, 48, 49] (by decide +kernel) (by decide +kernel)
set_option maxRecDepth 20000 in
theorem gX3_store_X2_fromTop : GoodIn wsX3_store (wsV RX3 202 RX2 yX2_fromTop wsX2_fromTop) := goodIn_app (goodIn_of _ (by decide +kernel)) ggX3_store_X2_fromTop
set_option maxRecDepth 20000 in
theorem ggX3_store_X2_setLocal : GoodIn wsX3_store wsX2_setLocal := goodIn_r _ [24, 25, 9, 26, 11, 12, 5, 13, 14, 40, 41, 42, 43, 44, 45, 46, 47, 48, 49] (by decide +kernel) (by decide +kernel)
set_option maxRecDepth 20000 in
theorem gX3_store_X2_setLocal : GoodIn wsX3_store (wsV RX3 205 RX2 yX2_setLocal wsX2_setLocal) := goodIn_app (goodIn_of _ (by decide +kernel)) ggX3_store_X2_setLocal
set_option maxRecDepth 20000 in
theorem ggX3_store_X2_drop : GoodIn wsX3_store wsX2_drop := goodIn_r _ [30, 7, 20, 3, 4, 5, 6, 8, 9, 40, 41, 42, 43, 44, 45, 46, 47, 48, 49] (by decide +kernel) (by decide +kernel)
set_option maxRecDepth 20000 in
theorem gX3_store_X2_drop : GoodIn wsX3_store (wsV RX3 208 RX2 yX2_drop wsX2_drop) := goodIn_app (goodIn_of _ (by decide +kernel)) ggX3_store_X2_drop
theorem dX3_store_0 : decode cX3_store 0 = .ok (.aload_n 0, 1) := by decide +kernel
theorem dX3_store_1 : decode cX3_store 1 = .ok (.getfield 12, 3) := by decide +kernel
theorem dX3_store_4 : decode cX3_store 4 = .ok (.iconst 1, 1) := by decide +kernel
theorem dX3_store_5 : decode cX3_store 5 = .ok (.invokevirtual 199, 3) := by decide +kernel
theorem dX3_store_8 : decode cX3_store 8 = .ok (.ifCond .ne 5, 3) := by decide +kernel
theorem dX3_store_11 : decode cX3_store 11 = .ok (.iconst 1, 1) := by decide +kernel
theorem dX3_store_12 : decode cX3_store 12 = .ok (.ireturn, 1) := by decide +kernel
theorem dX3_store_13 : decode cX3_store 13 = .ok (.aload_n 0, 1) := by decide +kernel
theorem dX3_store_14 : decode cX3_store 14 = .ok (.getfield 12, 3) := by decide +kernel
theorem dX3_store_17 : decode cX3_store 17 = .ok (.iload_n 1, 1) := by decide +kernel
theorem dX3_store_18 : decode cX3_store 18 = .ok (.invokevirtual 192, 3) := by decide +kernel
theorem dX3_store_21 : decode cX3_store 21 = .ok (.ifCond .ne 5, 3) := by decide +kernel
theorem dX3_store_24 : decode cX3_store 24 = .ok (.iconst 2, 1) := by decide +kernel
theorem dX3_store_25 : decode cX3_store 25 = .ok (.ireturn, 1) := by decide +kernel
theorem dX3_store_26 : decode cX3_store 26 = .ok (.aload_n 0, 1) := by decide +kernel
theorem dX3_store_27 : decode cX3_store 27 = .ok (.getfield 12, 3) := by decide +kernel
theorem dX3_store_30 : decode cX3_store 30 = .ok (.iload_n 1, 1) := by decide +kernel
theorem dX3_store_31 : decode cX3_store 31 = .ok (.aload_n 0, 1) := by decide +kernel
theorem dX3_store_32 : decode cX3_store 32 = .ok (.getfield 12, 3) := by decide +kernel
theorem dX3_store_35 : decode cX3_store 35 = .ok (.iconst 0, 1) := by decide +kernel
theorem dX3_store_36 : decode cX3_store 36 = .ok (.invokevirtual 202, 3) := by decide +kernel
theorem dX3_store_39 : decode cX3_store 39 = .ok (.invokevirtual 205, 3) := by decide +kernel
theorem dX3_store_42 : decode cX3_store 42 = .ok (.aload_n 0, 1) := by decide +kernel
theorem dX3_store_43 : decode cX3_store 43 = .ok (.getfield 12, 3) := by decide +kernel
theorem dX3_store_46 : decode cX3_store 46 = .ok (.iconst 1, 1) := by decide +kernel
theorem dX3_store_47 : decode cX3_store 47 = .ok (.invokevirtual 208, 3) := by decide +kernel
theorem dX3_store_50 : decode cX3_store 50 = .ok (.iconst 0, 1) := by decide +kernel
theorem dX3_store_51 : decode cX3_store 51 = .ok (.ireturn, 1) := by decide +kernel
set_option maxRecDepth 20000 in
theorem ggX3_reckon_X2_holds : GoodIn wsX3_reckon wsX2_holds := goodIn_r _ [6, 7, 8, 9, 33, 34, 35, 36, 37, 38, 39, 40, 41, 42] (by decide +kernel) (by decide +kernel)
set_option maxRecDepth 20000 in
theorem gX3_reckon_X2_holds : GoodIn wsX3_reckon (wsV RX3 199 RX2 yX2_holds wsX2_holds) := goodIn_app (goodIn_of _ (by decide +kernel)) ggX3_reckon_X2_holds
set_option maxRecDepth 20000 in
theorem ggX3_reckon_X2_fromTop : GoodIn wsX3_reckon wsX2_fromTop := goodIn_r _ [13, 14, 7, 15, 3, 4, 5, 6, 8, 9, 33, 34, 35, 36, 37, 38, 39, 40, 41, 42] (by decide +kernel) (by decide +kernel)
set_option maxRecDepth 20000 in
theorem gX3_reckon_X2_fromTop : GoodIn wsX3_reckon (wsV RX3 202 RX2 yX2_fromTop wsX2_fromTop) := goodIn_app (goodIn_of _ (by decide +kernel)) ggX3_reckon_X2_fromTop
set_option maxRecDepth 20000 in
theorem ggX3_reckon_X2_drop : GoodIn wsX3_reckon wsX2_drop := goodIn_r _ [19, 7, 15, 3, 4, 5, 6, 8, 9, 33, 34, 35, 36, 37, 38, 39, 40, 41, 42] (by decide +kernel) (by decide +kernel)
set_option maxRecDepth 20000 in
theorem gX3_reckon_X2_drop : GoodIn wsX3_reckon (wsV RX3 208 RX2 yX2_drop wsX2_drop) := goodIn_app (goodIn_of _ (by decide +kernel)) ggX3_reckon_X2_drop
set_option maxRecDepth 20000 in
theorem ggX3_reckon_X2_push : GoodIn wsX3_reckon wsX2_push := goodIn_r _ [23, 7, 14, 33, 34, 35, 36, 37, 38, 39, 40, 41, 42] (by decide +kernel) (by decide +kernel)
set_option maxRecDepth 20000 in
theorem gX3_reckon_X2_push : GoodIn wsX3_reckon (wsV RX3 144 RX2 yX2_push wsX2_push) := goodIn_app (goodIn_of _ (by decide +kernel)) ggX3_reckon_X2_push
theorem dX3_reckon_0 : decode cX3_reckon 0 = .ok (.aload_n 0, 1) := by decide +kernel
theorem dX3_reckon_1 : decode cX3_reckon 1 = .ok (.getfield 12, 3) := by decide +kernel
theorem dX3_reckon_4 : decode cX3_reckon 4 = .ok (.iconst 2, 1) := by decide +kernel
theorem dX3_reckon_5 : decode cX3_reckon 5 = .ok (.invokevirtual 199, 3) := by decide +kernel
theorem dX3_reckon_8 : decode cX3_reckon 8 = .ok (.ifCond .ne 5, 3) := by decide +kernel
theorem dX3_reckon_11 : decode cX3_reckon 11 = .ok (.iconst 1, 1) := by decide +kernel
theorem dX3_reckon_12 : decode cX3_reckon 12 = .ok (.ireturn, 1) := by decide +kernel
theorem dX3_reckon_13 : decode cX3_reckon 13 = .ok (.aload_n 0, 1) := by decide +kernel
theorem dX3_reckon_14 : decode cX3_reckon 14 = .ok (.getfield 12, 3) := by decide +kernel
theorem dX3_reckon_17 : decode cX3_reckon 17 = .ok (.iconst 0, 1) := by decide +kernel
theorem dX3_reckon_18 : decode cX3_reckon 18 = .ok (.invokevirtual 202, 3) := by decide +kernel
theorem dX3_reckon_21 : decode cX3_reckon 21 = .ok (.istore_n 2, 1) := by decide +kernel
theorem dX3_reckon_22 : decode cX3_reckon 22 = .ok (.aload_n 0, 1) := by decide +kernel
theorem dX3_reckon_23 : decode cX3_reckon 23 = .ok (.getfield 12, 3) := by decide +kernel
theorem dX3_reckon_26 : decode cX3_reckon 26 = .ok (.iconst 1, 1) := by decide +kernel
theorem dX3_reckon_27 : decode cX3_reckon 27 = .ok (.invokevirtual 202, 3) := by decide +kernel
theorem dX3_reckon_30 : decode cX3_reckon 30 = .ok (.istore_n 3, 1) := by decide +kernel
theorem dX3_reckon_31 : decode cX3_reckon 31 = .ok (.aload_n 0, 1) := by decide +kernel
theorem dX3_reckon_32 : decode cX3_reckon 32 = .ok (.getfield 12, 3) := by decide +kernel
theorem dX3_reckon_35 : decode cX3_reckon 35 = .ok (.iconst 2, 1) := by decide +kernel
theorem dX3_reckon_36 : decode cX3_reckon 36 = .ok (.invokevirtual 208, 3) := by decide +kernel
theorem dX3_reckon_39 : decode cX3_reckon 39 = .ok (.iload_n 1, 1) := by decide +kernel
theorem dX3_reckon_40 : decode cX3_reckon 40 = .ok (.tableswitch 61 3 5 #[28, 39, 50], 28) := by decide +kernel
theorem dX3_reckon_68 : decode cX3_reckon 68 = .ok (.aload_n 0, 1) := by decide +kernel
theorem dX3_reckon_69 : decode cX3_reckon 69 = .ok (.getfield 12, 3) := by decide +kernel
theorem dX3_reckon_72 : decode cX3_reckon 72 = .ok (.iload_n 3, 1) := by decide +kernel
theorem dX3_reckon_73 : decode cX3_reckon 73 = .ok (.iload_n 2, 1) := by decide +kernel
theorem dX3_reckon_74 : decode cX3_reckon 74 = .ok (.iadd, 1) := by decide +kernel
theorem dX3_reckon_75 : decode cX3_reckon 75 = .ok (.invokevirtual 144, 3) := by decide +kernel
theorem dX3_reckon_78 : decode cX3_reckon 78 = .ok (.ireturn, 1) := by decide +kernel
theorem dX3_reckon_79 : decode cX3_reckon 79 = .ok (.aload_n 0, 1) := by decide +kernel
theorem dX3_reckon_80 : decode cX3_reckon 80 = .ok (.getfield 12, 3) := by decide +kernel
theorem dX3_reckon_83 : decode cX3_reckon 83 = .ok (.iload_n 3, 1) := by decide +kernel
theorem dX3_reckon_84 : decode cX3_reckon 84 = .ok (.iload_n 2, 1) := by decide +kernel
theorem dX3_reckon_85 : decode cX3_reckon 85 = .ok (.isub, 1) := by decide +kernel
theorem dX3_reckon_86 : decode cX3_reckon 86 = .ok (.invokevirtual 144, 3) := by decide +kernel
theorem dX3_reckon_89 : decode cX3_reckon 89 = .ok (.ireturn, 1) := by decide +kernel
theorem dX3_reckon_90 : decode cX3_reckon 90 = .ok (.aload_n 0, 1) := by decide +kernel
theorem dX3_reckon_91 : decode cX3_reckon 91 = .ok (.getfield 12, 3) := by decide +kernel
theorem dX3_reckon_94 : decode cX3_reckon 94 = .ok (.iload_n 3, 1) := by decide +kernel
theorem dX3_reckon_95 : decode cX3_reckon 95 = .ok (.iload_n 2, 1) := by decide +kernel
theorem dX3_reckon_96 : decode cX3_reckon 96 = .ok (.imul, 1) := by decide +kernel
theorem dX3_reckon_97 : decode cX3_reckon 97 = .ok (.invokevirtual 144, 3) := by decide +kernel
theorem dX3_reckon_100 : decode cX3_reckon 100 = .ok (.ireturn, 1) := by decide +kernel
theorem dX3_reckon_101 : decode cX3_reckon 101 = .ok (.aload_n 0, 1) := by decide +kernel
theorem dX3_reckon_102 : decode cX3_reckon 102 = .ok (.getfield 12, 3) := by decide +kernel
theorem dX3_reckon_105 : decode cX3_reckon 105 = .ok (.iload_n 3, 1) := by decide +kernel
theorem dX3_reckon_106 : decode cX3_reckon 106 = .ok (.iload_n 2, 1) := by decide +kernel
theorem dX3_reckon_107 : decode cX3_reckon 107 = .ok (.if_icmp .ge 7, 3) := by decide +kernel
theorem dX3_reckon_110 : decode cX3_reckon 110 = .ok (.iconst 1, 1) := by decide +kernel
theorem dX3_reckon_111 : decode cX3_reckon 111 = .ok (.goto 4, 3) := by decide +kernel
theorem dX3_reckon_114 : decode cX3_reckon 114 = .ok (.iconst 0, 1) := by decide +kernel
theorem dX3_reckon_115 : decode cX3_reckon 115 = .ok (.invokevirtual 144, 3) := by decide +kernel
theorem dX3_reckon_118 : decode cX3_reckon 118 = .ok (.ireturn, 1) := by decide +kernel
set_option maxRecDepth 20000 in
theorem ggX3_divide_X2_holds : GoodIn wsX3_divide wsX2_holds := goodIn_r _ [6, 7, 8, 9, 33, 34, 35, 36, 37, 38, 39, 40, 41, 42] (by decide +kernel) (by decide +kernel)
set_option maxRecDepth 20000 in
theorem gX3_divide_X2_holds : GoodIn wsX3_divide (wsV RX3 199 RX2 yX2_holds wsX2_holds) := goodIn_app (goodIn_of _ (by decide +kernel)) ggX3_divide_X2_holds
set_option maxRecDepth 20000 in
theorem ggX3_divide_X2_fromTop : GoodIn wsX3_divide wsX2_fromTop := goodIn_r _ [13, 14, 7, 15, 3, 4, 5, 6, 8, 9, 33, 34, 35, 36, 37, 38, 39, 40, 41, 42] (by decide +kernel) (by decide +kernel)
set_option maxRecDepth 20000 in
theorem gX3_divide_X2_fromTop : GoodIn wsX3_divide (wsV RX3 202 RX2 yX2_fromTop wsX2_fromTop) := goodIn_app (goodIn_of _ (by decide +kernel)) ggX3_divide_X2_fromTop
set_option maxRecDepth 20000 in
theorem ggX3_divide_X2_drop : GoodIn wsX3_divide wsX2_drop := goodIn_r _ [19, 7, 15, 3, 4, 5, 6, 8, 9, 33, 34, 35, 36, 37, 38, 39, 40, 41, 42] (by decide +kernel) (by decide +kernel)
set_option maxRecDepth 20000 in
theorem gX3_divide_X2_drop : GoodIn wsX3_divide (wsV RX3 208 RX2 yX2_drop wsX2_drop) := goodIn_app (goodIn_of _ (by decide +kernel)) ggX3_divide_X2_drop
set_option maxRecDepth 20000 in
theorem ggX3_divide_X2_push : GoodIn wsX3_divide wsX2_push := goodIn_r _ [23, 7, 14, 33, 34, 35, 36, 37, 38, 39, 40, 41, 42] (by decide +kernel) (by decide +kernel)
set_option maxRecDepth 20000 in
theorem gX3_divide_X2_push : GoodIn wsX3_divide (wsV RX3 144 RX2 yX2_push wsX2_push) := goodIn_app (goodIn_of _ (by decide +kernel)) ggX3_divide_X2_push
theorem dX3_divide_0 : decode cX3_divide 0 = .ok (.aload_n 0, 1) := by decide +kernel
theorem dX3_divide_1 : decode cX3_divide 1 = .ok (.getfield 12, 3) := by decide +kernel
theorem dX3_divide_4 : decode cX3_divide 4 = .ok (.iconst 2, 1) := by decide +kernel
theorem dX3_divide_5 : decode cX3_divide 5 = .ok (.invokevirtual 199, 3) := by decide +kernel
theorem dX3_divide_8 : decode cX3_divide 8 = .ok (.ifCond .ne 5, 3) := by decide +kernel
theorem dX3_divide_11 : decode cX3_divide 11 = .ok (.iconst 1, 1) := by decide +kernel
theorem dX3_divide_12 : decode cX3_divide 12 = .ok (.ireturn, 1) := by decide +kernel
theorem dX3_divide_13 : decode cX3_divide 13 = .ok (.aload_n 0, 1) := by decide +kernel
theorem dX3_divide_14 : decode cX3_divide 14 = .ok (.getfield 12, 3) := by decide +kernel
theorem dX3_divide_17 : decode cX3_divide 17 = .ok (.iconst 0, 1) := by decide +kernel
theorem dX3_divide_18 : decode cX3_divide 18 = .ok (.invokevirtual 202, 3) := by decide +kernel
theorem dX3_divide_21 : decode cX3_divide 21 = .ok (.istore_n 2, 1) := by decide +kernel
theorem dX3_divide_22 : decode cX3_divide 22 = .ok (.aload_n 0, 1) := by decide +kernel
theorem dX3_divide_23 : decode cX3_divide 23 = .ok (.getfield 12, 3) := by decide +kernel
theorem dX3_divide_26 : decode cX3_divide 26 = .ok (.iconst 1, 1) := by decide +kernel
theorem dX3_divide_27 : decode cX3_divide 27 = .ok (.invokevirtual 202, 3) := by decide +kernel
theorem dX3_divide_30 : decode cX3_divide 30 = .ok (.istore_n 3, 1) := by decide +kernel
theorem dX3_divide_31 : decode cX3_divide 31 = .ok (.iload_n 2, 1) := by decide +kernel
theorem dX3_divide_32 : decode cX3_divide 32 = .ok (.ifCond .ne 5, 3) := by decide +kernel
theorem dX3_divide_35 : decode cX3_divide 35 = .ok (.iconst 3, 1) := by decide +kernel
theorem dX3_divide_36 : decode cX3_divide 36 = .ok (.ireturn, 1) := by decide +kernel
theorem dX3_divide_37 : decode cX3_divide 37 = .ok (.aload_n 0, 1) := by decide +kernel
theorem dX3_divide_38 : decode cX3_divide 38 = .ok (.getfield 12, 3) := by decide +kernel
theorem dX3_divide_41 : decode cX3_divide 41 = .ok (.iconst 2, 1) := by decide +kernel
theorem dX3_divide_42 : decode cX3_divide 42 = .ok (.invokevirtual 208, 3) := by decide +kernel
theorem dX3_divide_45 : decode cX3_divide 45 = .ok (.aload_n 0, 1) := by decide +kernel
theorem dX3_divide_46 : decode cX3_divide 46 = .ok (.getfield 12, 3) := by decide +kernel
theorem dX3_divide_49 : decode cX3_divide 49 = .ok (.iload_n 1, 1) := by decide +kernel
theorem dX3_divide_50 : decode cX3_divide 50 = .ok (.bipush 6, 2) := by decide +kernel
theorem dX3_divide_52 : decode cX3_divide 52 = .ok (.if_icmp .ne 9, 3) := by decide +kernel
theorem dX3_divide_55 : decode cX3_divide 55 = .ok (.iload_n 3, 1) := by decide +kernel
theorem dX3_divide_56 : decode cX3_divide 56 = .ok (.iload_n 2, 1) := by decide +kernel
theorem dX3_divide_57 : decode cX3_divide 57 = .ok (.idiv, 1) := by decide +kernel
theorem dX3_divide_58 : decode cX3_divide 58 = .ok (.goto 6, 3) := by decide +kernel
theorem dX3_divide_61 : decode cX3_divide 61 = .ok (.iload_n 3, 1) := by decide +kernel
theorem dX3_divide_62 : decode cX3_divide 62 = .ok (.iload_n 2, 1) := by decide +kernel
theorem dX3_divide_63 : decode cX3_divide 63 = .ok (.irem, 1) := by decide +kernel
theorem dX3_divide_64 : decode cX3_divide 64 = .ok (.invokevirtual 144, 3) := by decide +kernel
theorem dX3_divide_67 : decode cX3_divide 67 = .ok (.ireturn, 1) := by decide +kernel
set_option maxRecDepth 20000 in
theorem ggX3_jumpIfZero_X2_holds : GoodIn wsX3_jumpIfZero wsX2_holds := goodIn_r _ [6, 7, 8, 9, 39, 40, 41, 42, 43, 44, 45, 46, 47, 48] (by decide +kernel) (by decide +kernel)
set_option maxRecDepth 20000 in
theorem gX3_jumpIfZero_X2_holds : GoodIn wsX3_jumpIfZero (wsV RX3 199 RX2 yX2_holds wsX2_holds) := goodIn_app (goodIn_of _ (by decide +kernel)) ggX3_jumpIfZero_X2_holds
set_option maxRecDepth 20000 in
theorem ggX3_jumpIfZero_X2_fromTop : GoodIn wsX3_jumpIfZero wsX2_fromTop := goodIn_r _ [13, 14, 7, 15, 3, 4, 5, 6, 8, 9, 39, 40, 41, 42, 43, 44, 45, 46, 47, 48] (by decide +kernel) (by decide +kernel)
set_option maxRecDepth 20000 in
theorem gX3_jumpIfZero_X2_fromTop : GoodIn wsX3_jumpIfZero (wsV RX3 202 RX2 yX2_fromTop wsX2_fromTop) := goodIn_app (goodIn_of _ (by decide +kernel)) ggX3_jumpIfZero_X2_fromTop
set_option maxRecDepth 20000 in
theorem ggX3_jumpIfZero_X2_drop : GoodIn wsX3_jumpIfZero wsX2_drop := goodIn_r _ [19, 7, 15, 3, 4, 5, 6, 8, 9, 39, 40, 41, 42, 43, 44, 45, 46, 47, 48] (by decide +kernel) (by decide +kernel)
set_option maxRecDepth 20000 in
theorem gX3_jumpIfZero_X2_drop : GoodIn wsX3_jumpIfZero (wsV RX3 208 RX2 yX2_drop wsX2_drop) := goodIn_app (goodIn_of _ (by decide +kernel)) ggX3_jumpIfZero_X2_drop
set_option maxRecDepth 20000 in
theorem ggX3_jumpIfZero_X3_jump : GoodIn wsX3_jumpIfZero wsX3_jump := goodIn_r _ [24, 1, 25, 26, 27, 5, 28, 29, 9, 30, 31, 32, 33, 34, 35, 36, 37, 38, 39, 40, 41, 42, 43, 44, 45, 46, 47, 48] (by decide +kernel) (by decide +kernel)
set_option maxRecDepth 20000 in
theorem gX3_jumpIfZero_X3_jump : GoodIn wsX3_jumpIfZero (wsV RX3 162 RX3 yX3_jump wsX3_jump) := goodIn_app (goodIn_of _ (by decide +kernel)) ggX3_jumpIfZero_X3_jump
theorem dX3_jumpIfZero_0 : decode cX3_jumpIfZero 0 = .ok (.aload_n 0, 1) := by decide +kernel
theorem dX3_jumpIfZero_1 : decode cX3_jumpIfZero 1 = .ok (.getfield 12, 3) := by decide +kernel
theorem dX3_jumpIfZero_4 : decode cX3_jumpIfZero 4 = .ok (.iconst 1, 1) := by decide +kernel
theorem dX3_jumpIfZero_5 : decode cX3_jumpIfZero 5 = .ok (.invokevirtual 199, 3) := by decide +kernel
theorem dX3_jumpIfZero_8 : decode cX3_jumpIfZero 8 = .ok (.ifCond .ne 5, 3) := by decide +kernel
theorem dX3_jumpIfZero_11 : decode cX3_jumpIfZero 11 = .ok (.iconst 1, 1) := by decide +kernel
theorem dX3_jumpIfZero_12 : decode cX3_jumpIfZero 12 = .ok (.ireturn, 1) := by decide +kernel
theorem dX3_jumpIfZero_13 : decode cX3_jumpIfZero 13 = .ok (.aload_n 0, 1) := by decide +kernel
theorem dX3_jumpIfZero_14 : decode cX3_jumpIfZero 14 = .ok (.getfield 12, 3) := by decide +kernel
theorem dX3_jumpIfZero_17 : decode cX3_jumpIfZero 17 = .ok (.iconst 0, 1) := by decide +kernel
theorem dX3_jumpIfZero_18 : decode cX3_jumpIfZero 18 = .ok (.invokevirtual 202, 3) := by decide +kernel
theorem dX3_jumpIfZero_21 : decode cX3_jumpIfZero 21 = .ok (.istore_n 2, 1) := by decide +kernel
theorem dX3_jumpIfZero_22 : decode cX3_jumpIfZero 22 = .ok (.aload_n 0, 1) := by decide +kernel
theorem dX3_jumpIfZero_23 : decode cX3_jumpIfZero 23 = .ok (.getfield 12, 3) := by decide +kernel
theorem dX3_jumpIfZero_26 : decode cX3_jumpIfZero 26 = .ok (.iconst 1, 1) := by decide +kernel
theorem dX3_jumpIfZero_27 : decode cX3_jumpIfZero 27 = .ok (.invokevirtual 208, 3) := by decide +kernel
theorem dX3_jumpIfZero_30 : decode cX3_jumpIfZero 30 = .ok (.iload_n 2, 1) := by decide +kernel
theorem dX3_jumpIfZero_31 : decode cX3_jumpIfZero 31 = .ok (.ifCond .ne 11, 3) := by decide +kernel
theorem dX3_jumpIfZero_34 : decode cX3_jumpIfZero 34 = .ok (.aload_n 0, 1) := by decide +kernel
theorem dX3_jumpIfZero_35 : decode cX3_jumpIfZero 35 = .ok (.iload_n 1, 1) := by decide +kernel
theorem dX3_jumpIfZero_36 : decode cX3_jumpIfZero 36 = .ok (.invokevirtual 162, 3) := by decide +kernel
theorem dX3_jumpIfZero_39 : decode cX3_jumpIfZero 39 = .ok (.goto 4, 3) := by decide +kernel
theorem dX3_jumpIfZero_42 : decode cX3_jumpIfZero 42 = .ok (.iconst 0, 1) := by decide +kernel
theorem dX3_jumpIfZero_43 : decode cX3_jumpIfZero 43 = .ok (.ireturn, 1) := by decide +kernel
set_option maxRecDepth 20000 in
theorem ggX3_jump_X2_goTo : GoodIn wsX3_jump wsX2_goTo := goodIn_r _ [6, 7, 8, 18, 19, 20, 21, 22, 23, 24, 25, 26, 27] (by decide +kernel) (by decide +kernel)
set_option maxRecDepth 20000 in
theorem gX3_jump_X2_goTo : GoodIn wsX3_jump (wsV RX3 135 RX2 yX2_goTo wsX2_goTo) := goodIn_app (goodIn_of _ (by decide +kernel)) ggX3_jump_X2_goTo
theorem dX3_jump_0 : decode cX3_jump 0 = .ok (.aload_n 0, 1) := by decide +kernel
theorem dX3_jump_1 : decode cX3_jump 1 = .ok (.getfield 12, 3) := by decide +kernel
theorem dX3_jump_4 : decode cX3_jump 4 = .ok (.iload_n 1, 1) := by decide +kernel
theorem dX3_jump_5 : decode cX3_jump 5 = .ok (.invokevirtual 135, 3) := by decide +kernel
theorem dX3_jump_8 : decode cX3_jump 8 = .ok (.iconst 0, 1) := by decide +kernel
theorem dX3_jump_9 : decode cX3_jump 9 = .ok (.ireturn, 1) := by decide +kernel
set_option maxRecDepth 20000 in
theorem ggX3_call_X2_holds : GoodIn wsX3_call wsX2_holds := goodIn_r _ [7, 8, 9, 10, 82, 83, 84, 85, 86, 87, 88, 89, 90, 91] (by decide +kernel) (by decide +kernel)
set_option maxRecDepth 20000 in
theorem gX3_call_X2_holds : GoodIn wsX3_call (wsV RX3 199 RX2 yX2_holds wsX2_holds) := goodIn_app (goodIn_of _ (by decide +kernel)) ggX3_call_X2_holds
set_option maxRecDepth 20000 in
theorem ggX3_call_X5_has : GoodIn wsX3_call wsX5_has := goodIn_r _ [15, 16, 92, 93, 94, 95, 96, 97, 98] (by decide +kernel) (by decide +kernel)
set_option maxRecDepth 20000 in
theorem gX3_call_X5_has : GoodIn wsX3_call (wsV RX3 213 RX5 yX5_has wsX5_has) := goodIn_app (goodIn_of _ (by decide +kernel)) ggX3_call_X5_has
set_option maxRecDepth 20000 in
theorem ggX3_call_X2_isDeepest : GoodIn wsX3_call wsX2_isDeepest := goodIn_r _ [20, 10, 82, 83, 84, 85, 86, 87, 88, 89, 90, 91] (by decide +kernel) (by decide +kernel)
set_option maxRecDepth 20000 in
theorem gX3_call_X2_isDeepest : GoodIn wsX3_call (wsV RX3 103 RX2 yX2_isDeepest wsX2_isDeepest) := goodIn_app (goodIn_of _ (by decide +kernel)) ggX3_call_X2_isDeepest
set_option maxRecDepth 20000 in
theorem ggX3_call_X2_isFullWithout : GoodIn wsX3_call wsX2_isFullWithout := goodIn_r _ [24, 8, 82, 83, 84, 85, 86, 87, 88, 89, 90, 91] (by decide +kernel) (by decide +kernel)
set_option maxRecDepth 20000 in
theorem gX3_call_X2_isFullWithout : GoodIn wsX3_call (wsV RX3 216 RX2 yX2_isFullWithout wsX2_isFullWithout) := goodIn_app (goodIn_of _ (by decide +kernel)) ggX3_call_X2_isFullWithout
set_option maxRecDepth 20000 in
theorem ggX3_call_X2_drop : GoodIn wsX3_call wsX2_drop := goodIn_r _ [28, 8, 29, 4, 5, 6, 7, 9, 10, 82, 83, 84, 85, 86, 87, 88, 89, 90, 91] (by decide +kernel) (by decide +kernel)
set_option maxRecDepth 20000 in
theorem gX3_call_X2_drop : GoodIn wsX3_call (wsV RX3 208 RX2 yX2_drop wsX2_drop) := goodIn_app (goodIn_of _ (by decide +kernel)) ggX3_call_X2_drop
set_option maxRecDepth 20000 in
theorem ggX3_call_X2_openFrame : GoodIn wsX3_call wsX2_openFrame := goodIn_r _ [33, 10, 34, 35, 36, 37, 38, 39, 40, 41, 42, 9, 8, 43, 44, 18, 19, 6, 20, 45, 46, 47, 14, 48, 49, 50, 12, 13, 15, 16, 51, 52, 53, 54, 55, 56, 57, 58, 59, 82, 83, 84, 85, 86, 87, 88, 89, 90, 91, 92, 93, 94, 95, 96, 97, 98] (by decide +kernel) (by decide +kernel)
set_option maxRecDepth 20000 in
theorem gX3_call_X2_openFrame : GoodIn wsX3_call (wsV RX3 59 RX2 yX2_openFrame wsX2_openFrame) := goodIn_app (goodIn_of _ (by decide +kernel)) ggX3_call_X2_openFrame
set_option maxRecDepth 20000 in
theorem ggX3_call_X2_handDropped : GoodIn wsX3_call wsX2_handDropped := goodIn_r _ [63, 64, 8, 65, 66, 67, 6, 68, 41, 10, 42, 69, 70, 37, 71, 43, 72, 57, 58, 59, 82, 83, 84, 85, 86, 87, 88, 89, 90, 91] (by decide +kernel) (by decide +kernel)
set_option maxRecDepth 20000 in
theorem gX3_call_X2_handDropped : GoodIn wsX3_call (wsV RX3 219 RX2 yX2_handDropped wsX2_handDropped) := goodIn_app (goodIn_of _ (by decide +kernel)) ggX3_call_X2_handDropped
theorem dX3_call_0 : decode cX3_call 0 = .ok (.iload_n 2, 1) := by decide +kernel
theorem dX3_call_1 : decode cX3_call 1 = .ok (.ifCond .lt 20, 3) := by decide +kernel
theorem dX3_call_4 : decode cX3_call 4 = .ok (.iload_n 2, 1) := by decide +kernel
theorem dX3_call_5 : decode cX3_call 5 = .ok (.bipush 15, 2) := by decide +kernel
theorem dX3_call_7 : decode cX3_call 7 = .ok (.if_icmp .gt 14, 3) := by decide +kernel
theorem dX3_call_10 : decode cX3_call 10 = .ok (.aload_n 0, 1) := by decide +kernel
theorem dX3_call_11 : decode cX3_call 11 = .ok (.getfield 12, 3) := by decide +kernel
theorem dX3_call_14 : decode cX3_call 14 = .ok (.iload_n 2, 1) := by decide +kernel
theorem dX3_call_15 : decode cX3_call 15 = .ok (.invokevirtual 199, 3) := by decide +kernel
theorem dX3_call_18 : decode cX3_call 18 = .ok (.ifCond .ne 5, 3) := by decide +kernel
theorem dX3_call_21 : decode cX3_call 21 = .ok (.iconst 1, 1) := by decide +kernel
theorem dX3_call_22 : decode cX3_call 22 = .ok (.ireturn, 1) := by decide +kernel
theorem dX3_call_23 : decode cX3_call 23 = .ok (.aload_n 0, 1) := by decide +kernel
theorem dX3_call_24 : decode cX3_call 24 = .ok (.getfield 41, 3) := by decide +kernel
theorem dX3_call_27 : decode cX3_call 27 = .ok (.iload_n 1, 1) := by decide +kernel
theorem dX3_call_28 : decode cX3_call 28 = .ok (.invokevirtual 213, 3) := by decide +kernel
theorem dX3_call_31 : decode cX3_call 31 = .ok (.ifCond .ne 6, 3) := by decide +kernel
theorem dX3_call_34 : decode cX3_call 34 = .ok (.bipush 6, 2) := by decide +kernel
theorem dX3_call_36 : decode cX3_call 36 = .ok (.ireturn, 1) := by decide +kernel
theorem dX3_call_37 : decode cX3_call 37 = .ok (.aload_n 0, 1) := by decide +kernel
theorem dX3_call_38 : decode cX3_call 38 = .ok (.getfield 12, 3) := by decide +kernel
theorem dX3_call_41 : decode cX3_call 41 = .ok (.invokevirtual 103, 3) := by decide +kernel
theorem dX3_call_44 : decode cX3_call 44 = .ok (.ifCond .eq 5, 3) := by decide +kernel
theorem dX3_call_47 : decode cX3_call 47 = .ok (.iconst 4, 1) := by decide +kernel
theorem dX3_call_48 : decode cX3_call 48 = .ok (.ireturn, 1) := by decide +kernel
theorem dX3_call_49 : decode cX3_call 49 = .ok (.aload_n 0, 1) := by decide +kernel
theorem dX3_call_50 : decode cX3_call 50 = .ok (.getfield 12, 3) := by decide +kernel
theorem dX3_call_53 : decode cX3_call 53 = .ok (.iload_n 2, 1) := by decide +kernel
theorem dX3_call_54 : decode cX3_call 54 = .ok (.invokevirtual 216, 3) := by decide +kernel
theorem dX3_call_57 : decode cX3_call 57 = .ok (.ifCond .eq 6, 3) := by decide +kernel
theorem dX3_call_60 : decode cX3_call 60 = .ok (.bipush 8, 2) := by decide +kernel
theorem dX3_call_62 : decode cX3_call 62 = .ok (.ireturn, 1) := by decide +kernel
theorem dX3_call_63 : decode cX3_call 63 = .ok (.aload_n 0, 1) := by decide +kernel
theorem dX3_call_64 : decode cX3_call 64 = .ok (.getfield 12, 3) := by decide +kernel
theorem dX3_call_67 : decode cX3_call 67 = .ok (.iload_n 2, 1) := by decide +kernel
theorem dX3_call_68 : decode cX3_call 68 = .ok (.invokevirtual 208, 3) := by decide +kernel
theorem dX3_call_71 : decode cX3_call 71 = .ok (.aload_n 0, 1) := by decide +kernel
theorem dX3_call_72 : decode cX3_call 72 = .ok (.getfield 12, 3) := by decide +kernel
theorem dX3_call_75 : decode cX3_call 75 = .ok (.aload_n 0, 1) := by decide +kernel
theorem dX3_call_76 : decode cX3_call 76 = .ok (.getfield 41, 3) := by decide +kernel
theorem dX3_call_79 : decode cX3_call 79 = .ok (.iload_n 1, 1) := by decide +kernel
theorem dX3_call_80 : decode cX3_call 80 = .ok (.invokevirtual 59, 3) := by decide +kernel
theorem dX3_call_83 : decode cX3_call 83 = .ok (.aload_n 0, 1) := by decide +kernel
theorem dX3_call_84 : decode cX3_call 84 = .ok (.getfield 12, 3) := by decide +kernel
theorem dX3_call_87 : decode cX3_call 87 = .ok (.iload_n 2, 1) := by decide +kernel
theorem dX3_call_88 : decode cX3_call 88 = .ok (.invokevirtual 219, 3) := by decide +kernel
theorem dX3_call_91 : decode cX3_call 91 = .ok (.iconst 0, 1) := by decide +kernel
theorem dX3_call_92 : decode cX3_call 92 = .ok (.ireturn, 1) := by decide +kernel
set_option maxRecDepth 20000 in
theorem ggX3_comeToTop_X2_holds : GoodIn wsX3_comeToTop wsX2_holds := goodIn_r _ [6, 7, 8, 9, 50, 51, 52, 53, 54, 55, 56, 57, 58, 59] (by decide +kernel) (by decide +kernel)
set_option maxRecDepth 20000 in
theorem gX3_comeToTop_X2_holds : GoodIn wsX3_comeToTop (wsV RX3 199 RX2 yX2_holds wsX2_holds) := goodIn_app (goodIn_of _ (by decide +kernel)) ggX3_comeToTop_X2_holds
set_option maxRecDepth 20000 in
theorem ggX3_comeToTop_X2_open : GoodIn wsX3_comeToTop wsX2_open := goodIn_r _ [13, 9, 50, 51, 52, 53, 54, 55, 56, 57, 58, 59] (by decide +kernel) (by decide +kernel)
set_option maxRecDepth 20000 in
theorem gX3_comeToTop_X2_open : GoodIn wsX3_comeToTop (wsV RX3 110 RX2 yX2_open wsX2_open) := goodIn_app (goodIn_of _ (by decide +kernel)) ggX3_comeToTop_X2_open
set_option maxRecDepth 20000 in
theorem ggX3_comeToTop_X2_fromTop : GoodIn wsX3_comeToTop wsX2_fromTop := goodIn_r _ [17, 18, 7, 19, 3, 4, 5, 6, 8, 9, 50, 51, 52, 53, 54, 55, 56, 57, 58, 59] (by decide +kernel) (by decide +kernel)
set_option maxRecDepth 20000 in
theorem gX3_comeToTop_X2_fromTop : GoodIn wsX3_comeToTop (wsV RX3 202 RX2 yX2_fromTop wsX2_fromTop) := goodIn_app (goodIn_of _ (by decide +kernel)) ggX3_comeToTop_X2_fromTop
set_option maxRecDepth 20000 in
theorem ggX3_comeToTop_X3_closeWith : GoodIn wsX3_comeToTop wsX3_closeWith := goodIn_r _ [24, 1, 25, 26, 27, 28, 5, 29, 9, 8, 7, 30, 31, 32, 23, 33, 34, 35, 36, 37, 38, 39, 40, 18, 41, 42, 43, 44, 45, 46, 47, 48, 49, 50, 51, 52, 53, 54, 55, 56, 57, 58, 59, 60, 61, 62, 63, 64, 65, 66, 67] (by decide +kernel) (by decide +kernel)
set_option maxRecDepth 20000 in
theorem gX3_comeToTop_X3_closeWith : GoodIn wsX3_comeToTop (wsV RX3 222 RX3 yX3_closeWith wsX3_closeWith) := goodIn_app (goodIn_of _ (by decide +kernel)) ggX3_comeToTop_X3_closeWith
theorem dX3_comeToTop_0 : decode cX3_comeToTop 0 = .ok (.aload_n 0, 1) := by decide +kernel
theorem dX3_comeToTop_1 : decode cX3_comeToTop 1 = .ok (.getfield 12, 3) := by decide +kernel
theorem dX3_comeToTop_4 : decode cX3_comeToTop 4 = .ok (.iconst 1, 1) := by decide +kernel
theorem dX3_comeToTop_5 : decode cX3_comeToTop 5 = .ok (.invokevirtual 199, 3) := by decide +kernel
theorem dX3_comeToTop_8 : decode cX3_comeToTop 8 = .ok (.ifCond .ne 5, 3) := by decide +kernel
theorem dX3_comeToTop_11 : decode cX3_comeToTop 11 = .ok (.iconst 1, 1) := by decide +kernel
theorem dX3_comeToTop_12 : decode cX3_comeToTop 12 = .ok (.ireturn, 1) := by decide +kernel
theorem dX3_comeToTop_13 : decode cX3_comeToTop 13 = .ok (.aload_n 0, 1) := by decide +kernel
theorem dX3_comeToTop_14 : decode cX3_comeToTop 14 = .ok (.aload_n 0, 1) := by decide +kernel
theorem dX3_comeToTop_15 : decode cX3_comeToTop 15 = .ok (.getfield 12, 3) := by decide +kernel
theorem dX3_comeToTop_18 : decode cX3_comeToTop 18 = .ok (.invokevirtual 110, 3) := by decide +kernel
theorem dX3_comeToTop_21 : decode cX3_comeToTop 21 = .ok (.aload_n 0, 1) := by decide +kernel
theorem dX3_comeToTop_22 : decode cX3_comeToTop 22 = .ok (.getfield 12, 3) := by decide +kernel
theorem dX3_comeToTop_25 : decode cX3_comeToTop 25 = .ok (.iconst 0, 1) := by decide +kernel
theorem dX3_comeToTop_26 : decode cX3_comeToTop 26 = .ok (.invokevirtual 202, 3) := by decide +kernel
theorem dX3_comeToTop_29 : decode cX3_comeToTop 29 = .ok (.invokevirtual 222, 3) := by decide +kernel
theorem dX3_comeToTop_32 : decode cX3_comeToTop 32 = .ok (.ireturn, 1) := by decide +kernel
set_option maxRecDepth 20000 in
theorem ggX3_unwind_X2_holds : GoodIn wsX3_unwind wsX2_holds := goodIn_r _ [11, 12, 13, 14, 54, 55, 56, 57, 58, 59, 60, 61, 62, 63] (by decide +kernel) (by decide +kernel)
set_option maxRecDepth 20000 in
theorem gX3_unwind_X2_holds : GoodIn wsX3_unwind (wsV RX3 199 RX2 yX2_holds wsX2_holds) := goodIn_app (goodIn_of _ (by decide +kernel)) ggX3_unwind_X2_holds
set_option maxRecDepth 20000 in
theorem ggX3_unwind_X2_fromTop : GoodIn wsX3_unwind wsX2_fromTop := goodIn_r _ [18, 19, 12, 20, 8, 9, 10, 11, 13, 14, 54, 55, 56, 57, 58, 59, 60, 61, 62, 63] (by decide +kernel) (by decide +kernel)
set_option maxRecDepth 20000 in
theorem gX3_unwind_X2_fromTop : GoodIn wsX3_unwind (wsV RX3 202 RX2 yX2_fromTop wsX2_fromTop) := goodIn_app (goodIn_of _ (by decide +kernel)) ggX3_unwind_X2_fromTop
set_option maxRecDepth 20000 in
theorem ggX3_unwind_X2_open : GoodIn wsX3_unwind wsX2_open := goodIn_r _ [24, 14, 54, 55, 56, 57, 58, 59, 60, 61, 62, 63] (by decide +kernel) (by decide +kernel)
set_option maxRecDepth 20000 in
theorem gX3_unwind_X2_open : GoodIn wsX3_unwind (wsV RX3 110 RX2 yX2_open wsX2_open) := goodIn_app (goodIn_of _ (by decide +kernel)) ggX3_unwind_X2_open
set_option maxRecDepth 20000 in
theorem ggX3_unwind_X3_closeWith : GoodIn wsX3_unwind wsX3_closeWith := goodIn_r _ [29, 1, 2, 30, 31, 32, 10, 33, 14, 13, 12, 34, 35, 36, 28, 37, 38, 39, 40, 41, 42, 43, 44, 19, 45, 46, 47, 48, 49, 50, 51, 52, 53, 54, 55, 56, 57, 58, 59, 60, 61, 62, 63, 64, 65, 66, 67, 68, 69, 70, 71] (by decide +kernel) (by decide +kernel)
set_option maxRecDepth 20000 in
theorem gX3_unwind_X3_closeWith : GoodIn wsX3_unwind (wsV RX3 222 RX3 yX3_closeWith wsX3_closeWith) := goodIn_app (goodIn_of _ (by decide +kernel)) ggX3_unwind_X3_closeWith
theorem dX3_unwind_0 : decode cX3_unwind 0 = .ok (.aload_n 0, 1) := by decide +kernel
theorem dX3_unwind_1 : decode cX3_unwind 1 = .ok (.getfield 12, 3) := by decide +kernel
theorem dX3_unwind_4 : decode cX3_unwind 4 = .ok (.iconst 2, 1) := by decide +kernel
theorem dX3_unwind_5 : decode cX3_unwind 5 = .ok (.invokevirtual 199, 3) := by decide +kernel
theorem dX3_unwind_8 : decode cX3_unwind 8 = .ok (.ifCond .ne 5, 3) := by decide +kernel
theorem dX3_unwind_11 : decode cX3_unwind 11 = .ok (.iconst 1, 1) := by decide +kernel
theorem dX3_unwind_12 : decode cX3_unwind 12 = .ok (.ireturn, 1) := by decide +kernel
theorem dX3_unwind_13 : decode cX3_unwind 13 = .ok (.aload_n 0, 1) := by decide +kernel
theorem dX3_unwind_14 : decode cX3_unwind 14 = .ok (.getfield 12, 3) := by decide +kernel
theorem dX3_unwind_17 : decode cX3_unwind 17 = .ok (.iconst 0, 1) := by decide +kernel
theorem dX3_unwind_18 : decode cX3_unwind 18 = .ok (.invokevirtual 202, 3) := by decide +kernel
theorem dX3_unwind_21 : decode cX3_unwind 21 = .ok (.istore_n 1, 1) := by decide +kernel
theorem dX3_unwind_22 : decode cX3_unwind 22 = .ok (.aload_n 0, 1) := by decide +kernel
theorem dX3_unwind_23 : decode cX3_unwind 23 = .ok (.getfield 12, 3) := by decide +kernel
theorem dX3_unwind_26 : decode cX3_unwind 26 = .ok (.iconst 1, 1) := by decide +kernel
theorem dX3_unwind_27 : decode cX3_unwind 27 = .ok (.invokevirtual 202, 3) := by decide +kernel
theorem dX3_unwind_30 : decode cX3_unwind 30 = .ok (.istore_n 2, 1) := by decide +kernel
theorem dX3_unwind_31 : decode cX3_unwind 31 = .ok (.iconst 1, 1) := by decide +kernel
theorem dX3_unwind_32 : decode cX3_unwind 32 = .ok (.aload_n 0, 1) := by decide +kernel
theorem dX3_unwind_33 : decode cX3_unwind 33 = .ok (.getfield 32, 3) := by decide +kernel
theorem dX3_unwind_36 : decode cX3_unwind 36 = .ok (.invokestatic 225, 3) := by decide +kernel
theorem dX3_unwind_39 : decode cX3_unwind 39 = .ok (.istore_n 3, 1) := by decide +kernel
theorem dX3_unwind_40 : decode cX3_unwind 40 = .ok (.iload_n 2, 1) := by decide +kernel
theorem dX3_unwind_41 : decode cX3_unwind 41 = .ok (.iload_n 3, 1) := by decide +kernel
theorem dX3_unwind_42 : decode cX3_unwind 42 = .ok (.if_icmp .lt 14, 3) := by decide +kernel
theorem dX3_unwind_45 : decode cX3_unwind 45 = .ok (.iload_n 2, 1) := by decide +kernel
theorem dX3_unwind_46 : decode cX3_unwind 46 = .ok (.aload_n 0, 1) := by decide +kernel
theorem dX3_unwind_47 : decode cX3_unwind 47 = .ok (.getfield 12, 3) := by decide +kernel
theorem dX3_unwind_50 : decode cX3_unwind 50 = .ok (.invokevirtual 110, 3) := by decide +kernel
theorem dX3_unwind_53 : decode cX3_unwind 53 = .ok (.if_icmp .le 5, 3) := by decide +kernel
theorem dX3_unwind_56 : decode cX3_unwind 56 = .ok (.iconst 5, 1) := by decide +kernel
theorem dX3_unwind_57 : decode cX3_unwind 57 = .ok (.ireturn, 1) := by decide +kernel
theorem dX3_unwind_58 : decode cX3_unwind 58 = .ok (.aload_n 0, 1) := by decide +kernel
theorem dX3_unwind_59 : decode cX3_unwind 59 = .ok (.iload_n 2, 1) := by decide +kernel
theorem dX3_unwind_60 : decode cX3_unwind 60 = .ok (.iload_n 1, 1) := by decide +kernel
theorem dX3_unwind_61 : decode cX3_unwind 61 = .ok (.invokevirtual 222, 3) := by decide +kernel
theorem dX3_unwind_64 : decode cX3_unwind 64 = .ok (.ireturn, 1) := by decide +kernel
set_option maxRecDepth 20000 in
theorem ggX3_closeWith_X2_closeFrom : GoodIn wsX3_closeWith wsX2_closeFrom := goodIn_r _ [7, 8, 9, 10, 33, 34, 35, 36, 37, 38, 39, 40, 41, 42] (by decide +kernel) (by decide +kernel)
set_option maxRecDepth 20000 in
theorem gX3_closeWith_X2_closeFrom : GoodIn wsX3_closeWith (wsV RX3 230 RX2 yX2_closeFrom wsX2_closeFrom) := goodIn_app (goodIn_of _ (by decide +kernel)) ggX3_closeWith_X2_closeFrom
set_option maxRecDepth 20000 in
theorem ggX3_closeWith_X3_end : GoodIn wsX3_closeWith wsX3_end := goodIn_r _ [15, 16, 17, 18, 24, 25, 26, 27, 28, 29, 30, 31, 32, 43, 44, 45, 46, 47, 48, 49, 50] (by decide +kernel) (by decide +kernel)
set_option maxRecDepth 20000 in
theorem gX3_closeWith_X3_end : GoodIn wsX3_closeWith (wsV RX3 126 RX3 yX3_end wsX3_end) := goodIn_app (goodIn_of _ (by decide +kernel)) ggX3_closeWith_X3_end
set_option maxRecDepth 20000 in
theorem ggX3_closeWith_X2_push : GoodIn wsX3_closeWith wsX2_push := goodIn_r _ [22, 10, 23, 33, 34, 35, 36, 37, 38, 39, 40, 41, 42] (by decide +kernel) (by decide +kernel)
set_option maxRecDepth 20000 in
theorem gX3_closeWith_X2_push : GoodIn wsX3_closeWith (wsV RX3 144 RX2 yX2_push wsX2_push) := goodIn_app (goodIn_of _ (by decide +kernel)) ggX3_closeWith_X2_push
theorem dX3_closeWith_0 : decode cX3_closeWith 0 = .ok (.aload_n 0, 1) := by decide +kernel
theorem dX3_closeWith_1 : decode cX3_closeWith 1 = .ok (.getfield 12, 3) := by decide +kernel
theorem dX3_closeWith_4 : decode cX3_closeWith 4 = .ok (.iload_n 1, 1) := by decide +kernel
theorem dX3_closeWith_5 : decode cX3_closeWith 5 = .ok (.invokevirtual 230, 3) := by decide +kernel
theorem dX3_closeWith_8 : decode cX3_closeWith 8 = .ok (.iload_n 1, 1) := by decide +kernel
theorem dX3_closeWith_9 : decode cX3_closeWith 9 = .ok (.iconst 1, 1) := by decide +kernel
theorem dX3_closeWith_10 : decode cX3_closeWith 10 = .ok (.if_icmp .ne 11, 3) := by decide +kernel
theorem dX3_closeWith_13 : decode cX3_closeWith 13 = .ok (.aload_n 0, 1) := by decide +kernel
theorem dX3_closeWith_14 : decode cX3_closeWith 14 = .ok (.iconst 1, 1) := by decide +kernel
theorem dX3_closeWith_15 : decode cX3_closeWith 15 = .ok (.iload_n 2, 1) := by decide +kernel
theorem dX3_closeWith_16 : decode cX3_closeWith 16 = .ok (.invokevirtual 126, 3) := by decide +kernel
theorem dX3_closeWith_19 : decode cX3_closeWith 19 = .ok (.iconst 0, 1) := by decide +kernel
theorem dX3_closeWith_20 : decode cX3_closeWith 20 = .ok (.ireturn, 1) := by decide +kernel
theorem dX3_closeWith_21 : decode cX3_closeWith 21 = .ok (.iload_n 1, 1) := by decide +kernel
theorem dX3_closeWith_22 : decode cX3_closeWith 22 = .ok (.aload_n 0, 1) := by decide +kernel
theorem dX3_closeWith_23 : decode cX3_closeWith 23 = .ok (.getfield 32, 3) := by decide +kernel
theorem dX3_closeWith_26 : decode cX3_closeWith 26 = .ok (.if_icmp .eq 12, 3) := by decide +kernel
theorem dX3_closeWith_29 : decode cX3_closeWith 29 = .ok (.aload_n 0, 1) := by decide +kernel
theorem dX3_closeWith_30 : decode cX3_closeWith 30 = .ok (.getfield 12, 3) := by decide +kernel
theorem dX3_closeWith_33 : decode cX3_closeWith 33 = .ok (.iload_n 2, 1) := by decide +kernel
theorem dX3_closeWith_34 : decode cX3_closeWith 34 = .ok (.invokevirtual 144, 3) := by decide +kernel
theorem dX3_closeWith_37 : decode cX3_closeWith 37 = .ok (.ireturn, 1) := by decide +kernel
theorem dX3_closeWith_38 : decode cX3_closeWith 38 = .ok (.aload_n 0, 1) := by decide +kernel
theorem dX3_closeWith_39 : decode cX3_closeWith 39 = .ok (.iconst 0, 1) := by decide +kernel
theorem dX3_closeWith_40 : decode cX3_closeWith 40 = .ok (.putfield 32, 3) := by decide +kernel
theorem dX3_closeWith_43 : decode cX3_closeWith 43 = .ok (.iload_n 2, 1) := by decide +kernel
theorem dX3_closeWith_44 : decode cX3_closeWith 44 = .ok (.ifCond .eq 9, 3) := by decide +kernel
theorem dX3_closeWith_47 : decode cX3_closeWith 47 = .ok (.aload_n 0, 1) := by decide +kernel
theorem dX3_closeWith_48 : decode cX3_closeWith 48 = .ok (.iconst 2, 1) := by decide +kernel
theorem dX3_closeWith_49 : decode cX3_closeWith 49 = .ok (.iload_n 2, 1) := by decide +kernel
theorem dX3_closeWith_50 : decode cX3_closeWith 50 = .ok (.invokevirtual 126, 3) := by decide +kernel
theorem dX3_closeWith_53 : decode cX3_closeWith 53 = .ok (.iconst 0, 1) := by decide +kernel
theorem dX3_closeWith_54 : decode cX3_closeWith 54 = .ok (.ireturn, 1) := by decide +kernel
set_option maxRecDepth 20000 in
theorem ggX3_toUserStack_X2_holds : GoodIn wsX3_toUserStack wsX2_holds := goodIn_r _ [7, 8, 9, 10, 47, 48, 49, 50, 51, 52, 53, 54, 55, 56] (by decide +kernel) (by decide +kernel)
set_option maxRecDepth 20000 in
theorem gX3_toUserStack_X2_holds : GoodIn wsX3_toUserStack (wsV RX3 199 RX2 yX2_holds wsX2_holds) := goodIn_app (goodIn_of _ (by decide +kernel)) ggX3_toUserStack_X2_holds
set_option maxRecDepth 20000 in
theorem ggX3_toUserStack_X7_has : GoodIn wsX3_toUserStack wsX7_has := goodIn_r _ [15] (by decide +kernel) (by decide +kernel)
set_option maxRecDepth 20000 in
theorem gX3_toUserStack_X7_has : GoodIn wsX3_toUserStack (wsV RX3 233 RX7 yX7_has wsX7_has) := goodIn_app (goodIn_of _ (by decide +kernel)) ggX3_toUserStack_X7_has
set_option maxRecDepth 20000 in
theorem ggX3_toUserStack_X2_fromTop : GoodIn wsX3_toUserStack wsX2_fromTop := goodIn_r _ [19, 20, 8, 21, 4, 5, 6, 7, 9, 10, 47, 48, 49, 50, 51, 52, 53, 54, 55, 56] (by decide +kernel) (by decide +kernel)
set_option maxRecDepth 20000 in
theorem gX3_toUserStack_X2_fromTop : GoodIn wsX3_toUserStack (wsV RX3 202 RX2 yX2_fromTop wsX2_fromTop) := goodIn_app (goodIn_of _ (by decide +kernel)) ggX3_toUserStack_X2_fromTop
set_option maxRecDepth 20000 in
theorem ggX3_toUserStack_X7_put : GoodIn wsX3_toUserStack wsX7_put := goodIn_r _ [25, 26, 27, 28, 29, 12, 13, 14, 15, 57, 58, 59] (by decide +kernel) (by decide +kernel)
set_option maxRecDepth 20000 in
theorem gX3_toUserStack_X7_put : GoodIn wsX3_toUserStack (wsV RX3 236 RX7 yX7_put wsX7_put) := goodIn_app (goodIn_of _ (by decide +kernel)) ggX3_toUserStack_X7_put
set_option maxRecDepth 20000 in
theorem ggX3_toUserStack_X2_drop : GoodIn wsX3_toUserStack wsX2_drop := goodIn_r _ [33, 8, 21, 4, 5, 6, 7, 9, 10, 47, 48, 49, 50, 51, 52, 53, 54, 55, 56] (by decide +kernel) (by decide +kernel)
set_option maxRecDepth 20000 in
theorem gX3_toUserStack_X2_drop : GoodIn wsX3_toUserStack (wsV RX3 208 RX2 yX2_drop wsX2_drop) := goodIn_app (goodIn_of _ (by decide +kernel)) ggX3_toUserStack_X2_drop
set_option maxRecDepth 20000 in
theorem ggX3_toUserStack_X2_push : GoodIn wsX3_toUserStack wsX2_push := goodIn_r _ [37, 8, 20, 47, 48, 49, 50, 51, 52, 53, 54, 55, 56] (by decide +kernel) (by decide +kernel)
set_option maxRecDepth 20000 in
theorem gX3_toUserStack_X2_push : GoodIn wsX3_toUserStack (wsV RX3 144 RX2 yX2_push wsX2_push) := goodIn_app (goodIn_of _ (by decide +kernel)) ggX3_toUserStack_X2_push
theorem dX3_toUserStack_0 : decode cX3_toUserStack 0 = .ok (.aload_n 0, 1) := by decide +kernel
theorem dX3_toUserStack_1 : decode cX3_toUserStack 1 = .ok (.getfield 12, 3) := by decide +kernel
theorem dX3_toUserStack_4 : decode cX3_toUserStack 4 = .ok (.iconst 1, 1) := by decide +kernel
theorem dX3_toUserStack_5 : decode cX3_toUserStack 5 = .ok (.invokevirtual 199, 3) := by decide +kernel
theorem dX3_toUserStack_8 : decode cX3_toUserStack 8 = .ok (.ifCond .ne 5, 3) := by decide +kernel
theorem dX3_toUserStack_11 : decode cX3_toUserStack 11 = .ok (.iconst 1, 1) := by decide +kernel
theorem dX3_toUserStack_12 : decode cX3_toUserStack 12 = .ok (.ireturn, 1) := by decide +kernel
theorem dX3_toUserStack_13 : decode cX3_toUserStack 13 = .ok (.aload_n 0, 1) := by decide +kernel
theorem dX3_toUserStack_14 : decode cX3_toUserStack 14 = .ok (.getfield 45, 3) := by decide +kernel
theorem dX3_toUserStack_17 : decode cX3_toUserStack 17 = .ok (.iload_n 1, 1) := by decide +kernel
theorem dX3_toUserStack_18 : decode cX3_toUserStack 18 = .ok (.invokevirtual 233, 3) := by decide +kernel
theorem dX3_toUserStack_21 : decode cX3_toUserStack 21 = .ok (.ifCond .ne 6, 3) := by decide +kernel
theorem dX3_toUserStack_24 : decode cX3_toUserStack 24 = .ok (.bipush 10, 2) := by decide +kernel
theorem dX3_toUserStack_26 : decode cX3_toUserStack 26 = .ok (.ireturn, 1) := by decide +kernel
theorem dX3_toUserStack_27 : decode cX3_toUserStack 27 = .ok (.aload_n 0, 1) := by decide +kernel
theorem dX3_toUserStack_28 : decode cX3_toUserStack 28 = .ok (.getfield 45, 3) := by decide +kernel
theorem dX3_toUserStack_31 : decode cX3_toUserStack 31 = .ok (.iload_n 1, 1) := by decide +kernel
theorem dX3_toUserStack_32 : decode cX3_toUserStack 32 = .ok (.aload_n 0, 1) := by decide +kernel
theorem dX3_toUserStack_33 : decode cX3_toUserStack 33 = .ok (.getfield 12, 3) := by decide +kernel
theorem dX3_toUserStack_36 : decode cX3_toUserStack 36 = .ok (.iconst 0, 1) := by decide +kernel
theorem dX3_toUserStack_37 : decode cX3_toUserStack 37 = .ok (.invokevirtual 202, 3) := by decide +kernel
theorem dX3_toUserStack_40 : decode cX3_toUserStack 40 = .ok (.invokevirtual 236, 3) := by decide +kernel
theorem dX3_toUserStack_43 : decode cX3_toUserStack 43 = .ok (.istore_n 2, 1) := by decide +kernel
theorem dX3_toUserStack_44 : decode cX3_toUserStack 44 = .ok (.aload_n 0, 1) := by decide +kernel
theorem dX3_toUserStack_45 : decode cX3_toUserStack 45 = .ok (.getfield 12, 3) := by decide +kernel
theorem dX3_toUserStack_48 : decode cX3_toUserStack 48 = .ok (.iconst 1, 1) := by decide +kernel
theorem dX3_toUserStack_49 : decode cX3_toUserStack 49 = .ok (.invokevirtual 208, 3) := by decide +kernel
theorem dX3_toUserStack_52 : decode cX3_toUserStack 52 = .ok (.aload_n 0, 1) := by decide +kernel
theorem dX3_toUserStack_53 : decode cX3_toUserStack 53 = .ok (.getfield 12, 3) := by decide +kernel
theorem dX3_toUserStack_56 : decode cX3_toUserStack 56 = .ok (.iload_n 2, 1) := by decide +kernel
theorem dX3_toUserStack_57 : decode cX3_toUserStack 57 = .ok (.ifCond .eq 7, 3) := by decide +kernel
theorem dX3_toUserStack_60 : decode cX3_toUserStack 60 = .ok (.iconst 1, 1) := by decide +kernel
theorem dX3_toUserStack_61 : decode cX3_toUserStack 61 = .ok (.goto 4, 3) := by decide +kernel
theorem dX3_toUserStack_64 : decode cX3_toUserStack 64 = .ok (.iconst 0, 1) := by decide +kernel
theorem dX3_toUserStack_65 : decode cX3_toUserStack 65 = .ok (.invokevirtual 144, 3) := by decide +kernel
theorem dX3_toUserStack_68 : decode cX3_toUserStack 68 = .ok (.ireturn, 1) := by decide +kernel
set_option maxRecDepth 20000 in
theorem ggX3_fromUserStack_X7_has : GoodIn wsX3_fromUserStack wsX7_has := goodIn_r _ [7] (by decide +kernel) (by decide +kernel)
set_option maxRecDepth 20000 in
theorem gX3_fromUserStack_X7_has : GoodIn wsX3_fromUserStack (wsV RX3 233 RX7 yX7_has wsX7_has) := goodIn_app (goodIn_of _ (by decide +kernel)) ggX3_fromUserStack_X7_has
set_option maxRecDepth 20000 in
theorem ggX3_fromUserStack_X7_hasNumber : GoodIn wsX3_fromUserStack wsX7_hasNumber := goodIn_r _ [11, 12, 13, 4, 5, 6, 7, 39, 40, 41] (by decide +kernel) (by decide +kernel)
set_option maxRecDepth 20000 in
theorem gX3_fromUserStack_X7_hasNumber : GoodIn wsX3_fromUserStack (wsV RX3 239 RX7 yX7_hasNumber wsX7_hasNumber) := goodIn_app (goodIn_of _ (by decide +kernel)) ggX3_fromUserStack_X7_hasNumber
set_option maxRecDepth 20000 in
theorem ggX3_fromUserStack_X2_isFullWithout : GoodIn wsX3_fromUserStack wsX2_isFullWithout := goodIn_r _ [18, 19, 42, 43, 44, 45, 46, 47, 48, 49, 50, 51] (by decide +kernel) (by decide +kernel)
set_option maxRecDepth 20000 in
theorem gX3_fromUserStack_X2_isFullWithout : GoodIn wsX3_fromUserStack (wsV RX3 216 RX2 yX2_isFullWithout wsX2_isFullWithout) := goodIn_app (goodIn_of _ (by decide +kernel)) ggX3_fromUserStack_X2_isFullWithout
set_option maxRecDepth 20000 in
theorem ggX3_fromUserStack_X7_take : GoodIn wsX3_fromUserStack wsX7_take := goodIn_r _ [23, 12, 24, 13, 4, 5, 6, 7, 39, 40, 41] (by decide +kernel) (by decide +kernel)
set_option maxRecDepth 20000 in
theorem gX3_fromUserStack_X7_take : GoodIn wsX3_fromUserStack (wsV RX3 242 RX7 yX7_take wsX7_take) := goodIn_app (goodIn_of _ (by decide +kernel)) ggX3_fromUserStack_X7_take
set_option maxRecDepth 20000 in
theorem ggX3_fromUserStack_X2_push : GoodIn wsX3_fromUserStack wsX2_push := goodIn_r _ [28, 19, 29, 42, 43, 44, 45, 46, 47, 48, 49, 50, 51] (by decide +kernel) (by decide +kernel)
set_option maxRecDepth 20000 in
theorem gX3_fromUserStack_X2_push : GoodIn wsX3_fromUserStack (wsV RX3 144 RX2 yX2_push wsX2_push) := goodIn_app (goodIn_of _ (by decide +kernel)) ggX3_fromUserStack_X2_push
theorem dX3_fromUserStack_0 : decode cX3_fromUserStack 0 = .ok (.aload_n 0, 1) := by decide +kernel
theorem dX3_fromUserStack_1 : decode cX3_fromUserStack 1 = .ok (.getfield 45, 3) := by decide +kernel
theorem dX3_fromUserStack_4 : decode cX3_fromUserStack 4 = .ok (.iload_n 1, 1) := by decide +kernel
theorem dX3_fromUserStack_5 : decode cX3_fromUserStack 5 = .ok (.invokevirtual 233, 3) := by decide +kernel
theorem dX3_fromUserStack_8 : decode cX3_fromUserStack 8 = .ok (.ifCond .ne 6, 3) := by decide +kernel
theorem dX3_fromUserStack_11 : decode cX3_fromUserStack 11 = .ok (.bipush 10, 2) := by decide +kernel
theorem dX3_fromUserStack_13 : decode cX3_fromUserStack 13 = .ok (.ireturn, 1) := by decide +kernel
theorem dX3_fromUserStack_14 : decode cX3_fromUserStack 14 = .ok (.aload_n 0, 1) := by decide +kernel
theorem dX3_fromUserStack_15 : decode cX3_fromUserStack 15 = .ok (.getfield 45, 3) := by decide +kernel
theorem dX3_fromUserStack_18 : decode cX3_fromUserStack 18 = .ok (.iload_n 1, 1) := by decide +kernel
theorem dX3_fromUserStack_19 : decode cX3_fromUserStack 19 = .ok (.iconst 0, 1) := by decide +kernel
theorem dX3_fromUserStack_20 : decode cX3_fromUserStack 20 = .ok (.invokevirtual 239, 3) := by decide +kernel
theorem dX3_fromUserStack_23 : decode cX3_fromUserStack 23 = .ok (.ifCond .ne 5, 3) := by decide +kernel
theorem dX3_fromUserStack_26 : decode cX3_fromUserStack 26 = .ok (.iconst 1, 1) := by decide +kernel
theorem dX3_fromUserStack_27 : decode cX3_fromUserStack 27 = .ok (.ireturn, 1) := by decide +kernel
theorem dX3_fromUserStack_28 : decode cX3_fromUserStack 28 = .ok (.aload_n 0, 1) := by decide +kernel
theorem dX3_fromUserStack_29 : decode cX3_fromUserStack 29 = .ok (.getfield 12, 3) := by decide +kernel
theorem dX3_fromUserStack_32 : decode cX3_fromUserStack 32 = .ok (.iconst 0, 1) := by decide +kernel
theorem dX3_fromUserStack_33 : decode cX3_fromUserStack 33 = .ok (.invokevirtual 216, 3) := by decide +kernel
theorem dX3_fromUserStack_36 : decode cX3_fromUserStack 36 = .ok (.ifCond .eq 6, 3) := by decide +kernel
theorem dX3_fromUserStack_39 : decode cX3_fromUserStack 39 = .ok (.bipush 8, 2) := by decide +kernel
theorem dX3_fromUserStack_41 : decode cX3_fromUserStack 41 = .ok (.ireturn, 1) := by decide +kernel
theorem dX3_fromUserStack_42 : decode cX3_fromUserStack 42 = .ok (.aload_n 0, 1) := by decide +kernel
theorem dX3_fromUserStack_43 : decode cX3_fromUserStack 43 = .ok (.getfield 12, 3) := by decide +kernel
theorem dX3_fromUserStack_46 : decode cX3_fromUserStack 46 = .ok (.aload_n 0, 1) := by decide +kernel
theorem dX3_fromUserStack_47 : decode cX3_fromUserStack 47 = .ok (.getfield 45, 3) := by decide +kernel
theorem dX3_fromUserStack_50 : decode cX3_fromUserStack 50 = .ok (.iload_n 1, 1) := by decide +kernel
theorem dX3_fromUserStack_51 : decode cX3_fromUserStack 51 = .ok (.invokevirtual 242, 3) := by decide +kernel
theorem dX3_fromUserStack_54 : decode cX3_fromUserStack 54 = .ok (.invokevirtual 144, 3) := by decide +kernel
theorem dX3_fromUserStack_57 : decode cX3_fromUserStack 57 = .ok (.ireturn, 1) := by decide +kernel
set_option maxRecDepth 20000 in
theorem ggX3_duplicate_X2_holds : GoodIn wsX3_duplicate wsX2_holds := goodIn_r _ [6, 7, 8, 9, 29, 30, 31, 32, 33, 34, 35, 36, 37, 38] (by decide +kernel) (by decide +kernel)
set_option maxRecDepth 20000 in
theorem gX3_duplicate_X2_holds : GoodIn wsX3_duplicate (wsV RX3 199 RX2 yX2_holds wsX2_holds) := goodIn_app (goodIn_of _ (by decide +kernel)) ggX3_duplicate_X2_holds
set_option maxRecDepth 20000 in
theorem ggX3_duplicate_X2_fromTop : GoodIn wsX3_duplicate wsX2_fromTop := goodIn_r _ [13, 14, 7, 15, 3, 4, 5, 6, 8, 9, 29, 30, 31, 32, 33, 34, 35, 36, 37, 38] (by decide +kernel) (by decide +kernel)
set_option maxRecDepth 20000 in
theorem gX3_duplicate_X2_fromTop : GoodIn wsX3_duplicate (wsV RX3 202 RX2 yX2_fromTop wsX2_fromTop) := goodIn_app (goodIn_of _ (by decide +kernel)) ggX3_duplicate_X2_fromTop
set_option maxRecDepth 20000 in
theorem ggX3_duplicate_X2_push : GoodIn wsX3_duplicate wsX2_push := goodIn_r _ [19, 7, 14, 29, 30, 31, 32, 33, 34, 35, 36, 37, 38] (by decide +kernel) (by decide +kernel)
set_option maxRecDepth 20000 in
theorem gX3_duplicate_X2_push : GoodIn wsX3_duplicate (wsV RX3 144 RX2 yX2_push wsX2_push) := goodIn_app (goodIn_of _ (by decide +kernel)) ggX3_duplicate_X2_push
theorem dX3_duplicate_0 : decode cX3_duplicate 0 = .ok (.aload_n 0, 1) := by decide +kernel
theorem dX3_duplicate_1 : decode cX3_duplicate 1 = .ok (.getfield 12, 3) := by decide +kernel
theorem dX3_duplicate_4 : decode cX3_duplicate 4 = .ok (.iconst 1, 1) := by decide +kernel
theorem dX3_duplicate_5 : decode cX3_duplicate 5 = .ok (.invokevirtual 199, 3) := by decide +kernel
theorem dX3_duplicate_8 : decode cX3_duplicate 8 = .ok (.ifCond .eq 21, 3) := by decide +kernel
theorem dX3_duplicate_11 : decode cX3_duplicate 11 = .ok (.aload_n 0, 1) := by decide +kernel
theorem dX3_duplicate_12 : decode cX3_duplicate 12 = .ok (.getfield 12, 3) := by decide +kernel
theorem dX3_duplicate_15 : decode cX3_duplicate 15 = .ok (.aload_n 0, 1) := by decide +kernel
theorem dX3_duplicate_16 : decode cX3_duplicate 16 = .ok (.getfield 12, 3) := by decide +kernel
theorem dX3_duplicate_19 : decode cX3_duplicate 19 = .ok (.iconst 0, 1) := by decide +kernel
theorem dX3_duplicate_20 : decode cX3_duplicate 20 = .ok (.invokevirtual 202, 3) := by decide +kernel
theorem dX3_duplicate_23 : decode cX3_duplicate 23 = .ok (.invokevirtual 144, 3) := by decide +kernel
theorem dX3_duplicate_26 : decode cX3_duplicate 26 = .ok (.goto 4, 3) := by decide +kernel
theorem dX3_duplicate_29 : decode cX3_duplicate 29 = .ok (.iconst 1, 1) := by decide +kernel
theorem dX3_duplicate_30 : decode cX3_duplicate 30 = .ok (.ireturn, 1) := by decide +kernel
set_option maxRecDepth 20000 in
theorem ggX3_dropTop_X2_holds : GoodIn wsX3_dropTop wsX2_holds := goodIn_r _ [6, 7, 8, 9, 24, 25, 26, 27, 28, 29, 30, 31, 32, 33] (by decide +kernel) (by decide +kernel)
set_option maxRecDepth 20000 in
theorem gX3_dropTop_X2_holds : GoodIn wsX3_dropTop (wsV RX3 199 RX2 yX2_holds wsX2_holds) := goodIn_app (goodIn_of _ (by decide +kernel)) ggX3_dropTop_X2_holds
set_option maxRecDepth 20000 in
theorem ggX3_dropTop_X2_drop : GoodIn wsX3_dropTop wsX2_drop := goodIn_r _ [13, 7, 14, 3, 4, 5, 6, 8, 9, 24, 25, 26, 27, 28, 29, 30, 31, 32, 33] (by decide +kernel) (by decide +kernel)
set_option maxRecDepth 20000 in
theorem gX3_dropTop_X2_drop : GoodIn wsX3_dropTop (wsV RX3 208 RX2 yX2_drop wsX2_drop) := goodIn_app (goodIn_of _ (by decide +kernel)) ggX3_dropTop_X2_drop
theorem dX3_dropTop_0 : decode cX3_dropTop 0 = .ok (.aload_n 0, 1) := by decide +kernel
theorem dX3_dropTop_1 : decode cX3_dropTop 1 = .ok (.getfield 12, 3) := by decide +kernel
theorem dX3_dropTop_4 : decode cX3_dropTop 4 = .ok (.iconst 1, 1) := by decide +kernel
theorem dX3_dropTop_5 : decode cX3_dropTop 5 = .ok (.invokevirtual 199, 3) := by decide +kernel
theorem dX3_dropTop_8 : decode cX3_dropTop 8 = .ok (.ifCond .ne 5, 3) := by decide +kernel
theorem dX3_dropTop_11 : decode cX3_dropTop 11 = .ok (.iconst 1, 1) := by decide +kernel
theorem dX3_dropTop_12 : decode cX3_dropTop 12 = .ok (.ireturn, 1) := by decide +kernel
theorem dX3_dropTop_13 : decode cX3_dropTop 13 = .ok (.aload_n 0, 1) := by decide +kernel
theorem dX3_dropTop_14 : decode cX3_dropTop 14 = .ok (.getfield 12, 3) := by decide +kernel
theorem dX3_dropTop_17 : decode cX3_dropTop 17 = .ok (.iconst 1, 1) := by decide +kernel
theorem dX3_dropTop_18 : decode cX3_dropTop 18 = .ok (.invokevirtual 208, 3) := by decide +kernel
theorem dX3_dropTop_21 : decode cX3_dropTop 21 = .ok (.iconst 0, 1) := by decide +kernel
theorem dX3_dropTop_22 : decode cX3_dropTop 22 = .ok (.ireturn, 1) := by decide +kernel
