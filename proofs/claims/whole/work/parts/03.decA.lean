theorem dX2_init_0 : decode cX2_init 0 = .ok (.aload_n 0, 1) := by decide +kernel
theorem dX2_init_1 : decode cX2_init 1 = .ok (.invokespecial 3, 3) := by decide +kernel
theorem dX2_init_4 : decode cX2_init 4 = .ok (.aload_n 0, 1) := by decide +kernel
theorem dX2_init_5 : decode cX2_init 5 = .ok (.bipush 26, 2) := by decide +kernel
theorem dX2_init_7 : decode cX2_init 7 = .ok (.newarray .int, 2) := by decide +kernel
theorem dX2_init_9 : decode cX2_init 9 = .ok (.putfield 9, 3) := by decide +kernel
theorem dX2_init_12 : decode cX2_init 12 = .ok (.aload_n 0, 1) := by decide +kernel
theorem dX2_init_13 : decode cX2_init 13 = .ok (.bipush 26, 2) := by decide +kernel
theorem dX2_init_15 : decode cX2_init 15 = .ok (.newarray .int, 2) := by decide +kernel
theorem dX2_init_17 : decode cX2_init 17 = .ok (.putfield 15, 3) := by decide +kernel
theorem dX2_init_20 : decode cX2_init 20 = .ok (.aload_n 0, 1) := by decide +kernel
theorem dX2_init_21 : decode cX2_init 21 = .ok (.bipush 26, 2) := by decide +kernel
theorem dX2_init_23 : decode cX2_init 23 = .ok (.newarray .int, 2) := by decide +kernel
theorem dX2_init_25 : decode cX2_init 25 = .ok (.putfield 18, 3) := by decide +kernel
theorem dX2_init_28 : decode cX2_init 28 = .ok (.aload_n 0, 1) := by decide +kernel
theorem dX2_init_29 : decode cX2_init 29 = .ok (.bipush 26, 2) := by decide +kernel
theorem dX2_init_31 : decode cX2_init 31 = .ok (.newarray .int, 2) := by decide +kernel
theorem dX2_init_33 : decode cX2_init 33 = .ok (.putfield 21, 3) := by decide +kernel
theorem dX2_init_36 : decode cX2_init 36 = .ok (.aload_n 0, 1) := by decide +kernel
theorem dX2_init_37 : decode cX2_init 37 = .ok (.bipush 26, 2) := by decide +kernel
theorem dX2_init_39 : decode cX2_init 39 = .ok (.newarray .int, 2) := by decide +kernel
theorem dX2_init_41 : decode cX2_init 41 = .ok (.putfield 24, 3) := by decide +kernel
theorem dX2_init_44 : decode cX2_init 44 = .ok (.aload_n 0, 1) := by decide +kernel
theorem dX2_init_45 : decode cX2_init 45 = .ok (.sipush 390, 3) := by decide +kernel
theorem dX2_init_48 : decode cX2_init 48 = .ok (.newarray .int, 2) := by decide +kernel
theorem dX2_init_50 : decode cX2_init 50 = .ok (.putfield 27, 3) := by decide +kernel
theorem dX2_init_53 : decode cX2_init 53 = .ok (.aload_n 0, 1) := by decide +kernel
theorem dX2_init_54 : decode cX2_init 54 = .ok (.bipush 60, 2) := by decide +kernel
theorem dX2_init_56 : decode cX2_init 56 = .ok (.newarray .int, 2) := by decide +kernel
theorem dX2_init_58 : decode cX2_init 58 = .ok (.putfield 30, 3) := by decide +kernel
theorem dX2_init_61 : decode cX2_init 61 = .ok (.aload_n 0, 1) := by decide +kernel
theorem dX2_init_62 : decode cX2_init 62 = .ok (.iconst 0, 1) := by decide +kernel
theorem dX2_init_63 : decode cX2_init 63 = .ok (.putfield 33, 3) := by decide +kernel
theorem dX2_init_66 : decode cX2_init 66 = .ok (.aload_n 0, 1) := by decide +kernel
theorem dX2_init_67 : decode cX2_init 67 = .ok (.iconst 0, 1) := by decide +kernel
theorem dX2_init_68 : decode cX2_init 68 = .ok (.putfield 37, 3) := by decide +kernel
theorem dX2_init_71 : decode cX2_init 71 = .ok (.aload_n 0, 1) := by decide +kernel
theorem dX2_init_72 : decode cX2_init 72 = .ok (.iconst 0, 1) := by decide +kernel
theorem dX2_init_73 : decode cX2_init 73 = .ok (.putfield 40, 3) := by decide +kernel
theorem dX2_init_76 : decode cX2_init 76 = .ok (.return_, 1) := by decide +kernel
theorem dX2_closeAll_0 : decode cX2_closeAll 0 = .ok (.aload_n 0, 1) := by decide +kernel
theorem dX2_closeAll_1 : decode cX2_closeAll 1 = .ok (.iconst 0, 1) := by decide +kernel
theorem dX2_closeAll_2 : decode cX2_closeAll 2 = .ok (.putfield 33, 3) := by decide +kernel
theorem dX2_closeAll_5 : decode cX2_closeAll 5 = .ok (.aload_n 0, 1) := by decide +kernel
theorem dX2_closeAll_6 : decode cX2_closeAll 6 = .ok (.iconst 0, 1) := by decide +kernel
theorem dX2_closeAll_7 : decode cX2_closeAll 7 = .ok (.putfield 37, 3) := by decide +kernel
theorem dX2_closeAll_10 : decode cX2_closeAll 10 = .ok (.aload_n 0, 1) := by decide +kernel
theorem dX2_closeAll_11 : decode cX2_closeAll 11 = .ok (.iconst 0, 1) := by decide +kernel
theorem dX2_closeAll_12 : decode cX2_closeAll 12 = .ok (.putfield 40, 3) := by decide +kernel
theorem dX2_closeAll_15 : decode cX2_closeAll 15 = .ok (.return_, 1) := by decide +kernel
theorem dX2_open_0 : decode cX2_open 0 = .ok (.aload_n 0, 1) := by decide +kernel
theorem dX2_open_1 : decode cX2_open 1 = .ok (.getfield 33, 3) := by decide +kernel
theorem dX2_open_4 : decode cX2_open 4 = .ok (.ireturn, 1) := by decide +kernel
theorem dX2_mostOpen_0 : decode cX2_mostOpen 0 = .ok (.aload_n 0, 1) := by decide +kernel
theorem dX2_mostOpen_1 : decode cX2_mostOpen 1 = .ok (.getfield 37, 3) := by decide +kernel
theorem dX2_mostOpen_4 : decode cX2_mostOpen 4 = .ok (.ireturn, 1) := by decide +kernel
theorem dX2_isDeepest_0 : decode cX2_isDeepest 0 = .ok (.aload_n 0, 1) := by decide +kernel
theorem dX2_isDeepest_1 : decode cX2_isDeepest 1 = .ok (.getfield 33, 3) := by decide +kernel
theorem dX2_isDeepest_4 : decode cX2_isDeepest 4 = .ok (.bipush 25, 2) := by decide +kernel
theorem dX2_isDeepest_6 : decode cX2_isDeepest 6 = .ok (.if_icmp .lt 7, 3) := by decide +kernel
theorem dX2_isDeepest_9 : decode cX2_isDeepest 9 = .ok (.iconst 1, 1) := by decide +kernel
theorem dX2_isDeepest_10 : decode cX2_isDeepest 10 = .ok (.goto 4, 3) := by decide +kernel
theorem dX2_isDeepest_13 : decode cX2_isDeepest 13 = .ok (.iconst 0, 1) := by decide +kernel
theorem dX2_isDeepest_14 : decode cX2_isDeepest 14 = .ok (.ireturn, 1) := by decide +kernel
set_option maxRecDepth 20000 in
theorem ggX2_openFrame_X2_isDeepest : GoodIn wsX2_openFrame wsX2_isDeepest := goodIn_r _ [18, 1, 39, 40, 41, 42, 43, 44, 45, 46, 47, 48] (by decide +kernel) (by decide +kernel)
set_option maxRecDepth 20000 in
theorem gX2_openFrame_X2_isDeepest : GoodIn wsX2_openFrame (wsV RX2 43 RX2 yX2_isDeepest wsX2_isDeepest) := goodIn_app (goodIn_of _ (by decide +kernel)) ggX2_openFrame_X2_isDeepest
set_option maxRecDepth 20000 in
theorem ggX2_openFrame_X5_localCount : GoodIn wsX2_openFrame wsX5_localCount := goodIn_r _ [23, 24, 25, 26, 27, 22, 28, 29, 49, 50, 51, 52, 53, 54, 55] (by decide +kernel) (by decide +kernel)
set_option maxRecDepth 20000 in
theorem gX2_openFrame_X5_localCount : GoodIn wsX2_openFrame (wsV RX2 53 RX5 yX5_localCount wsX5_localCount) := goodIn_app (goodIn_of _ (by decide +kernel)) ggX2_openFrame_X5_localCount
set_option maxRecDepth 20000 in
theorem ggX2_openFrame_X5_copyFirstValues : GoodIn wsX2_openFrame wsX5_copyFirstValues := goodIn_r _ [33, 34, 24, 35, 36, 37, 38, 25, 26, 27, 22, 28, 29, 49, 50, 51, 52, 53, 54, 55] (by decide +kernel) (by decide +kernel)
set_option maxRecDepth 20000 in
theorem gX2_openFrame_X5_copyFirstValues : GoodIn wsX2_openFrame (wsV RX2 59 RX5 yX5_copyFirstValues wsX5_copyFirstValues) := goodIn_app (goodIn_of _ (by decide +kernel)) ggX2_openFrame_X5_copyFirstValues
theorem dX2_openFrame_0 : decode cX2_openFrame 0 = .ok (.aload_n 0, 1) := by decide +kernel
theorem dX2_openFrame_1 : decode cX2_openFrame 1 = .ok (.invokevirtual 43, 3) := by decide +kernel
theorem dX2_openFrame_4 : decode cX2_openFrame 4 = .ok (.ifCond .eq 4, 3) := by decide +kernel
theorem dX2_openFrame_7 : decode cX2_openFrame 7 = .ok (.return_, 1) := by decide +kernel
theorem dX2_openFrame_8 : decode cX2_openFrame 8 = .ok (.aload_n 0, 1) := by decide +kernel
theorem dX2_openFrame_9 : decode cX2_openFrame 9 = .ok (.dup, 1) := by decide +kernel
theorem dX2_openFrame_10 : decode cX2_openFrame 10 = .ok (.getfield 33, 3) := by decide +kernel
theorem dX2_openFrame_13 : decode cX2_openFrame 13 = .ok (.iconst 1, 1) := by decide +kernel
theorem dX2_openFrame_14 : decode cX2_openFrame 14 = .ok (.iadd, 1) := by decide +kernel
theorem dX2_openFrame_15 : decode cX2_openFrame 15 = .ok (.putfield 33, 3) := by decide +kernel
theorem dX2_openFrame_18 : decode cX2_openFrame 18 = .ok (.aload_n 0, 1) := by decide +kernel
theorem dX2_openFrame_19 : decode cX2_openFrame 19 = .ok (.aload_n 0, 1) := by decide +kernel
theorem dX2_openFrame_20 : decode cX2_openFrame 20 = .ok (.getfield 37, 3) := by decide +kernel
theorem dX2_openFrame_23 : decode cX2_openFrame 23 = .ok (.aload_n 0, 1) := by decide +kernel
theorem dX2_openFrame_24 : decode cX2_openFrame 24 = .ok (.getfield 33, 3) := by decide +kernel
theorem dX2_openFrame_27 : decode cX2_openFrame 27 = .ok (.invokestatic 47, 3) := by decide +kernel
theorem dX2_openFrame_30 : decode cX2_openFrame 30 = .ok (.putfield 37, 3) := by decide +kernel
theorem dX2_openFrame_33 : decode cX2_openFrame 33 = .ok (.aload_n 0, 1) := by decide +kernel
theorem dX2_openFrame_34 : decode cX2_openFrame 34 = .ok (.getfield 9, 3) := by decide +kernel
theorem dX2_openFrame_37 : decode cX2_openFrame 37 = .ok (.aload_n 0, 1) := by decide +kernel
theorem dX2_openFrame_38 : decode cX2_openFrame 38 = .ok (.getfield 33, 3) := by decide +kernel
theorem dX2_openFrame_41 : decode cX2_openFrame 41 = .ok (.iload_n 2, 1) := by decide +kernel
theorem dX2_openFrame_42 : decode cX2_openFrame 42 = .ok (.iastore, 1) := by decide +kernel
theorem dX2_openFrame_43 : decode cX2_openFrame 43 = .ok (.aload_n 0, 1) := by decide +kernel
theorem dX2_openFrame_44 : decode cX2_openFrame 44 = .ok (.getfield 15, 3) := by decide +kernel
theorem dX2_openFrame_47 : decode cX2_openFrame 47 = .ok (.aload_n 0, 1) := by decide +kernel
theorem dX2_openFrame_48 : decode cX2_openFrame 48 = .ok (.getfield 33, 3) := by decide +kernel
theorem dX2_openFrame_51 : decode cX2_openFrame 51 = .ok (.iconst 0, 1) := by decide +kernel
theorem dX2_openFrame_52 : decode cX2_openFrame 52 = .ok (.iastore, 1) := by decide +kernel
theorem dX2_openFrame_53 : decode cX2_openFrame 53 = .ok (.aload_n 0, 1) := by decide +kernel
theorem dX2_openFrame_54 : decode cX2_openFrame 54 = .ok (.getfield 18, 3) := by decide +kernel
theorem dX2_openFrame_57 : decode cX2_openFrame 57 = .ok (.aload_n 0, 1) := by decide +kernel
theorem dX2_openFrame_58 : decode cX2_openFrame 58 = .ok (.getfield 33, 3) := by decide +kernel
theorem dX2_openFrame_61 : decode cX2_openFrame 61 = .ok (.iconst 0, 1) := by decide +kernel
theorem dX2_openFrame_62 : decode cX2_openFrame 62 = .ok (.iastore, 1) := by decide +kernel
theorem dX2_openFrame_63 : decode cX2_openFrame 63 = .ok (.aload_n 0, 1) := by decide +kernel
theorem dX2_openFrame_64 : decode cX2_openFrame 64 = .ok (.getfield 21, 3) := by decide +kernel
theorem dX2_openFrame_67 : decode cX2_openFrame 67 = .ok (.aload_n 0, 1) := by decide +kernel
theorem dX2_openFrame_68 : decode cX2_openFrame 68 = .ok (.getfield 33, 3) := by decide +kernel
theorem dX2_openFrame_71 : decode cX2_openFrame 71 = .ok (.aload_n 1, 1) := by decide +kernel
theorem dX2_openFrame_72 : decode cX2_openFrame 72 = .ok (.iload_n 2, 1) := by decide +kernel
theorem dX2_openFrame_73 : decode cX2_openFrame 73 = .ok (.invokevirtual 53, 3) := by decide +kernel
theorem dX2_openFrame_76 : decode cX2_openFrame 76 = .ok (.iastore, 1) := by decide +kernel
theorem dX2_openFrame_77 : decode cX2_openFrame 77 = .ok (.aload_n 0, 1) := by decide +kernel
theorem dX2_openFrame_78 : decode cX2_openFrame 78 = .ok (.getfield 24, 3) := by decide +kernel
theorem dX2_openFrame_81 : decode cX2_openFrame 81 = .ok (.aload_n 0, 1) := by decide +kernel
theorem dX2_openFrame_82 : decode cX2_openFrame 82 = .ok (.getfield 33, 3) := by decide +kernel
theorem dX2_openFrame_85 : decode cX2_openFrame 85 = .ok (.aload_n 0, 1) := by decide +kernel
theorem dX2_openFrame_86 : decode cX2_openFrame 86 = .ok (.getfield 40, 3) := by decide +kernel
theorem dX2_openFrame_89 : decode cX2_openFrame 89 = .ok (.iastore, 1) := by decide +kernel
theorem dX2_openFrame_90 : decode cX2_openFrame 90 = .ok (.aload_n 1, 1) := by decide +kernel
theorem dX2_openFrame_91 : decode cX2_openFrame 91 = .ok (.iload_n 2, 1) := by decide +kernel
theorem dX2_openFrame_92 : decode cX2_openFrame 92 = .ok (.aload_n 0, 1) := by decide +kernel
theorem dX2_openFrame_93 : decode cX2_openFrame 93 = .ok (.getfield 27, 3) := by decide +kernel
theorem dX2_openFrame_96 : decode cX2_openFrame 96 = .ok (.aload_n 0, 1) := by decide +kernel
theorem dX2_openFrame_97 : decode cX2_openFrame 97 = .ok (.getfield 33, 3) := by decide +kernel
theorem dX2_openFrame_100 : decode cX2_openFrame 100 = .ok (.bipush 15, 2) := by decide +kernel
theorem dX2_openFrame_102 : decode cX2_openFrame 102 = .ok (.imul, 1) := by decide +kernel
theorem dX2_openFrame_103 : decode cX2_openFrame 103 = .ok (.invokevirtual 59, 3) := by decide +kernel
theorem dX2_openFrame_106 : decode cX2_openFrame 106 = .ok (.return_, 1) := by decide +kernel
theorem dX2_hand_0 : decode cX2_hand 0 = .ok (.aload_n 0, 1) := by decide +kernel
theorem dX2_hand_1 : decode cX2_hand 1 = .ok (.getfield 18, 3) := by decide +kernel
theorem dX2_hand_4 : decode cX2_hand 4 = .ok (.aload_n 0, 1) := by decide +kernel
theorem dX2_hand_5 : decode cX2_hand 5 = .ok (.getfield 33, 3) := by decide +kernel
theorem dX2_hand_8 : decode cX2_hand 8 = .ok (.iload_n 3, 1) := by decide +kernel
theorem dX2_hand_9 : decode cX2_hand 9 = .ok (.iastore, 1) := by decide +kernel
theorem dX2_hand_10 : decode cX2_hand 10 = .ok (.iload_n 3, 1) := by decide +kernel
theorem dX2_hand_11 : decode cX2_hand 11 = .ok (.aload_n 0, 1) := by decide +kernel
theorem dX2_hand_12 : decode cX2_hand 12 = .ok (.getfield 21, 3) := by decide +kernel
theorem dX2_hand_15 : decode cX2_hand 15 = .ok (.aload_n 0, 1) := by decide +kernel
theorem dX2_hand_16 : decode cX2_hand 16 = .ok (.getfield 33, 3) := by decide +kernel
theorem dX2_hand_19 : decode cX2_hand 19 = .ok (.iaload, 1) := by decide +kernel
theorem dX2_hand_20 : decode cX2_hand 20 = .ok (.invokestatic 63, 3) := by decide +kernel
theorem dX2_hand_23 : decode cX2_hand 23 = .ok (.istore 4, 2) := by decide +kernel
theorem dX2_hand_25 : decode cX2_hand 25 = .ok (.iload 4, 2) := by decide +kernel
theorem dX2_hand_27 : decode cX2_hand 27 = .ok (.ifCond .le 34, 3) := by decide +kernel
theorem dX2_hand_30 : decode cX2_hand 30 = .ok (.iload_n 2, 1) := by decide +kernel
theorem dX2_hand_31 : decode cX2_hand 31 = .ok (.ifCond .lt 30, 3) := by decide +kernel
theorem dX2_hand_34 : decode cX2_hand 34 = .ok (.iload_n 2, 1) := by decide +kernel
theorem dX2_hand_35 : decode cX2_hand 35 = .ok (.aload_n 1, 1) := by decide +kernel
theorem dX2_hand_36 : decode cX2_hand 36 = .ok (.arraylength, 1) := by decide +kernel
theorem dX2_hand_37 : decode cX2_hand 37 = .ok (.iload 4, 2) := by decide +kernel
theorem dX2_hand_39 : decode cX2_hand 39 = .ok (.isub, 1) := by decide +kernel
theorem dX2_hand_40 : decode cX2_hand 40 = .ok (.if_icmp .gt 21, 3) := by decide +kernel
theorem dX2_hand_43 : decode cX2_hand 43 = .ok (.aload_n 1, 1) := by decide +kernel
theorem dX2_hand_44 : decode cX2_hand 44 = .ok (.iload_n 2, 1) := by decide +kernel
theorem dX2_hand_45 : decode cX2_hand 45 = .ok (.aload_n 0, 1) := by decide +kernel
theorem dX2_hand_46 : decode cX2_hand 46 = .ok (.getfield 27, 3) := by decide +kernel
theorem dX2_hand_49 : decode cX2_hand 49 = .ok (.aload_n 0, 1) := by decide +kernel
theorem dX2_hand_50 : decode cX2_hand 50 = .ok (.getfield 33, 3) := by decide +kernel
theorem dX2_hand_53 : decode cX2_hand 53 = .ok (.bipush 15, 2) := by decide +kernel
theorem dX2_hand_55 : decode cX2_hand 55 = .ok (.imul, 1) := by decide +kernel
theorem dX2_hand_56 : decode cX2_hand 56 = .ok (.iload 4, 2) := by decide +kernel
theorem dX2_hand_58 : decode cX2_hand 58 = .ok (.invokestatic 66, 3) := by decide +kernel
theorem dX2_hand_61 : decode cX2_hand 61 = .ok (.return_, 1) := by decide +kernel
set_option maxRecDepth 20000 in
theorem ggX2_handDropped_X2_hand : GoodIn wsX2_handDropped wsX2_hand := goodIn_r _ [7, 8, 9, 10, 11, 12, 13, 14, 15, 16, 17, 18, 19, 20, 21, 22, 23, 24, 25, 26, 27, 28, 29] (by decide +kernel) (by decide +kernel)
set_option maxRecDepth 20000 in
theorem gX2_handDropped_X2_hand : GoodIn wsX2_handDropped (wsV RX2 72 RX2 yX2_hand wsX2_hand) := goodIn_app (goodIn_of _ (by decide +kernel)) ggX2_handDropped_X2_hand
theorem dX2_handDropped_0 : decode cX2_handDropped 0 = .ok (.aload_n 0, 1) := by decide +kernel
theorem dX2_handDropped_1 : decode cX2_handDropped 1 = .ok (.aload_n 0, 1) := by decide +kernel
theorem dX2_handDropped_2 : decode cX2_handDropped 2 = .ok (.getfield 30, 3) := by decide +kernel
theorem dX2_handDropped_5 : decode cX2_handDropped 5 = .ok (.aload_n 0, 1) := by decide +kernel
theorem dX2_handDropped_6 : decode cX2_handDropped 6 = .ok (.getfield 40, 3) := by decide +kernel
theorem dX2_handDropped_9 : decode cX2_handDropped 9 = .ok (.iload_n 1, 1) := by decide +kernel
theorem dX2_handDropped_10 : decode cX2_handDropped 10 = .ok (.invokevirtual 72, 3) := by decide +kernel
theorem dX2_handDropped_13 : decode cX2_handDropped 13 = .ok (.return_, 1) := by decide +kernel
theorem dX2_closeFrom_0 : decode cX2_closeFrom 0 = .ok (.iload_n 1, 1) := by decide +kernel
theorem dX2_closeFrom_1 : decode cX2_closeFrom 1 = .ok (.iconst 1, 1) := by decide +kernel
theorem dX2_closeFrom_2 : decode cX2_closeFrom 2 = .ok (.if_icmp .lt 28, 3) := by decide +kernel
theorem dX2_closeFrom_5 : decode cX2_closeFrom 5 = .ok (.iload_n 1, 1) := by decide +kernel
theorem dX2_closeFrom_6 : decode cX2_closeFrom 6 = .ok (.aload_n 0, 1) := by decide +kernel
theorem dX2_closeFrom_7 : decode cX2_closeFrom 7 = .ok (.getfield 33, 3) := by decide +kernel
theorem dX2_closeFrom_10 : decode cX2_closeFrom 10 = .ok (.if_icmp .gt 20, 3) := by decide +kernel
theorem dX2_closeFrom_13 : decode cX2_closeFrom 13 = .ok (.aload_n 0, 1) := by decide +kernel
theorem dX2_closeFrom_14 : decode cX2_closeFrom 14 = .ok (.aload_n 0, 1) := by decide +kernel
theorem dX2_closeFrom_15 : decode cX2_closeFrom 15 = .ok (.getfield 24, 3) := by decide +kernel
theorem dX2_closeFrom_18 : decode cX2_closeFrom 18 = .ok (.iload_n 1, 1) := by decide +kernel
theorem dX2_closeFrom_19 : decode cX2_closeFrom 19 = .ok (.iaload, 1) := by decide +kernel
theorem dX2_closeFrom_20 : decode cX2_closeFrom 20 = .ok (.putfield 40, 3) := by decide +kernel
theorem dX2_closeFrom_23 : decode cX2_closeFrom 23 = .ok (.aload_n 0, 1) := by decide +kernel
theorem dX2_closeFrom_24 : decode cX2_closeFrom 24 = .ok (.iload_n 1, 1) := by decide +kernel
theorem dX2_closeFrom_25 : decode cX2_closeFrom 25 = .ok (.iconst 1, 1) := by decide +kernel
theorem dX2_closeFrom_26 : decode cX2_closeFrom 26 = .ok (.isub, 1) := by decide +kernel
theorem dX2_closeFrom_27 : decode cX2_closeFrom 27 = .ok (.putfield 33, 3) := by decide +kernel
theorem dX2_closeFrom_30 : decode cX2_closeFrom 30 = .ok (.return_, 1) := by decide +kernel
theorem dX2_routineNumber_0 : decode cX2_routineNumber 0 = .ok (.aload_n 0, 1) := by decide +kernel
theorem dX2_routineNumber_1 : decode cX2_routineNumber 1 = .ok (.getfield 9, 3) := by decide +kernel
theorem dX2_routineNumber_4 : decode cX2_routineNumber 4 = .ok (.aload_n 0, 1) := by decide +kernel
theorem dX2_routineNumber_5 : decode cX2_routineNumber 5 = .ok (.getfield 33, 3) := by decide +kernel
theorem dX2_routineNumber_8 : decode cX2_routineNumber 8 = .ok (.iaload, 1) := by decide +kernel
theorem dX2_routineNumber_9 : decode cX2_routineNumber 9 = .ok (.ireturn, 1) := by decide +kernel
theorem dX2_place_0 : decode cX2_place 0 = .ok (.aload_n 0, 1) := by decide +kernel
theorem dX2_place_1 : decode cX2_place 1 = .ok (.getfield 15, 3) := by decide +kernel
theorem dX2_place_4 : decode cX2_place 4 = .ok (.aload_n 0, 1) := by decide +kernel
theorem dX2_place_5 : decode cX2_place 5 = .ok (.getfield 33, 3) := by decide +kernel
theorem dX2_place_8 : decode cX2_place 8 = .ok (.iaload, 1) := by decide +kernel
theorem dX2_place_9 : decode cX2_place 9 = .ok (.ireturn, 1) := by decide +kernel
theorem dX2_goTo_0 : decode cX2_goTo 0 = .ok (.aload_n 0, 1) := by decide +kernel
theorem dX2_goTo_1 : decode cX2_goTo 1 = .ok (.getfield 15, 3) := by decide +kernel
theorem dX2_goTo_4 : decode cX2_goTo 4 = .ok (.aload_n 0, 1) := by decide +kernel
theorem dX2_goTo_5 : decode cX2_goTo 5 = .ok (.getfield 33, 3) := by decide +kernel
theorem dX2_goTo_8 : decode cX2_goTo 8 = .ok (.iload_n 1, 1) := by decide +kernel
theorem dX2_goTo_9 : decode cX2_goTo 9 = .ok (.iastore, 1) := by decide +kernel
theorem dX2_goTo_10 : decode cX2_goTo 10 = .ok (.return_, 1) := by decide +kernel
theorem dX2_givenCount_0 : decode cX2_givenCount 0 = .ok (.aload_n 0, 1) := by decide +kernel
theorem dX2_givenCount_1 : decode cX2_givenCount 1 = .ok (.getfield 18, 3) := by decide +kernel
theorem dX2_givenCount_4 : decode cX2_givenCount 4 = .ok (.aload_n 0, 1) := by decide +kernel
theorem dX2_givenCount_5 : decode cX2_givenCount 5 = .ok (.getfield 33, 3) := by decide +kernel
theorem dX2_givenCount_8 : decode cX2_givenCount 8 = .ok (.iaload, 1) := by decide +kernel
theorem dX2_givenCount_9 : decode cX2_givenCount 9 = .ok (.ireturn, 1) := by decide +kernel
theorem dX2_hasLocal_0 : decode cX2_hasLocal 0 = .ok (.iload_n 1, 1) := by decide +kernel
theorem dX2_hasLocal_1 : decode cX2_hasLocal 1 = .ok (.ifCond .lt 20, 3) := by decide +kernel
theorem dX2_hasLocal_4 : decode cX2_hasLocal 4 = .ok (.iload_n 1, 1) := by decide +kernel
theorem dX2_hasLocal_5 : decode cX2_hasLocal 5 = .ok (.aload_n 0, 1) := by decide +kernel
theorem dX2_hasLocal_6 : decode cX2_hasLocal 6 = .ok (.getfield 21, 3) := by decide +kernel
theorem dX2_hasLocal_9 : decode cX2_hasLocal 9 = .ok (.aload_n 0, 1) := by decide +kernel
theorem dX2_hasLocal_10 : decode cX2_hasLocal 10 = .ok (.getfield 33, 3) := by decide +kernel
theorem dX2_hasLocal_13 : decode cX2_hasLocal 13 = .ok (.iaload, 1) := by decide +kernel
theorem dX2_hasLocal_14 : decode cX2_hasLocal 14 = .ok (.if_icmp .ge 7, 3) := by decide +kernel
theorem dX2_hasLocal_17 : decode cX2_hasLocal 17 = .ok (.iconst 1, 1) := by decide +kernel
theorem dX2_hasLocal_18 : decode cX2_hasLocal 18 = .ok (.goto 4, 3) := by decide +kernel
theorem dX2_hasLocal_21 : decode cX2_hasLocal 21 = .ok (.iconst 0, 1) := by decide +kernel
theorem dX2_hasLocal_22 : decode cX2_hasLocal 22 = .ok (.ireturn, 1) := by decide +kernel
set_option maxRecDepth 20000 in
theorem ggX2_local_X2_hasLocal : GoodIn wsX2_local wsX2_hasLocal := goodIn_r _ [7, 8, 2, 9, 10, 11, 12, 13, 14, 15, 16, 17, 18] (by decide +kernel) (by decide +kernel)
set_option maxRecDepth 20000 in
theorem gX2_local_X2_hasLocal : GoodIn wsX2_local (wsV RX2 76 RX2 yX2_hasLocal wsX2_hasLocal) := goodIn_app (goodIn_of _ (by decide +kernel)) ggX2_local_X2_hasLocal
theorem dX2_local_0 : decode cX2_local 0 = .ok (.aload_n 0, 1) := by decide +kernel
theorem dX2_local_1 : decode cX2_local 1 = .ok (.iload_n 1, 1) := by decide +kernel
theorem dX2_local_2 : decode cX2_local 2 = .ok (.invokevirtual 76, 3) := by decide +kernel
theorem dX2_local_5 : decode cX2_local 5 = .ok (.ifCond .eq 20, 3) := by decide +kernel
theorem dX2_local_8 : decode cX2_local 8 = .ok (.aload_n 0, 1) := by decide +kernel
theorem dX2_local_9 : decode cX2_local 9 = .ok (.getfield 27, 3) := by decide +kernel
theorem dX2_local_12 : decode cX2_local 12 = .ok (.aload_n 0, 1) := by decide +kernel
theorem dX2_local_13 : decode cX2_local 13 = .ok (.getfield 33, 3) := by decide +kernel
theorem dX2_local_16 : decode cX2_local 16 = .ok (.bipush 15, 2) := by decide +kernel
theorem dX2_local_18 : decode cX2_local 18 = .ok (.imul, 1) := by decide +kernel
theorem dX2_local_19 : decode cX2_local 19 = .ok (.iload_n 1, 1) := by decide +kernel
theorem dX2_local_20 : decode cX2_local 20 = .ok (.iadd, 1) := by decide +kernel
theorem dX2_local_21 : decode cX2_local 21 = .ok (.iaload, 1) := by decide +kernel
theorem dX2_local_22 : decode cX2_local 22 = .ok (.goto 4, 3) := by decide +kernel
theorem dX2_local_25 : decode cX2_local 25 = .ok (.iconst 0, 1) := by decide +kernel
theorem dX2_local_26 : decode cX2_local 26 = .ok (.ireturn, 1) := by decide +kernel
set_option maxRecDepth 20000 in
theorem ggX2_setLocal_X2_hasLocal : GoodIn wsX2_setLocal wsX2_hasLocal := goodIn_r _ [7, 8, 2, 9, 10, 11, 12, 13, 14, 15, 16, 17, 18] (by decide +kernel) (by decide +kernel)
set_option maxRecDepth 20000 in
theorem gX2_setLocal_X2_hasLocal : GoodIn wsX2_setLocal (wsV RX2 76 RX2 yX2_hasLocal wsX2_hasLocal) := goodIn_app (goodIn_of _ (by decide +kernel)) ggX2_setLocal_X2_hasLocal
theorem dX2_setLocal_0 : decode cX2_setLocal 0 = .ok (.aload_n 0, 1) := by decide +kernel
theorem dX2_setLocal_1 : decode cX2_setLocal 1 = .ok (.iload_n 1, 1) := by decide +kernel
theorem dX2_setLocal_2 : decode cX2_setLocal 2 = .ok (.invokevirtual 76, 3) := by decide +kernel
theorem dX2_setLocal_5 : decode cX2_setLocal 5 = .ok (.ifCond .eq 18, 3) := by decide +kernel
theorem dX2_setLocal_8 : decode cX2_setLocal 8 = .ok (.aload_n 0, 1) := by decide +kernel
theorem dX2_setLocal_9 : decode cX2_setLocal 9 = .ok (.getfield 27, 3) := by decide +kernel
theorem dX2_setLocal_12 : decode cX2_setLocal 12 = .ok (.aload_n 0, 1) := by decide +kernel
theorem dX2_setLocal_13 : decode cX2_setLocal 13 = .ok (.getfield 33, 3) := by decide +kernel
theorem dX2_setLocal_16 : decode cX2_setLocal 16 = .ok (.bipush 15, 2) := by decide +kernel
theorem dX2_setLocal_18 : decode cX2_setLocal 18 = .ok (.imul, 1) := by decide +kernel
theorem dX2_setLocal_19 : decode cX2_setLocal 19 = .ok (.iload_n 1, 1) := by decide +kernel
theorem dX2_setLocal_20 : decode cX2_setLocal 20 = .ok (.iadd, 1) := by decide +kernel
theorem dX2_setLocal_21 : decode cX2_setLocal 21 = .ok (.iload_n 2, 1) := by decide +kernel
theorem dX2_setLocal_22 : decode cX2_setLocal 22 = .ok (.iastore, 1) := by decide +kernel
theorem dX2_setLocal_23 : decode cX2_setLocal 23 = .ok (.return_, 1) := by decide +kernel
theorem dX2_holds_0 : decode cX2_holds 0 = .ok (.aload_n 0, 1) := by decide +kernel
theorem dX2_holds_1 : decode cX2_holds 1 = .ok (.getfield 40, 3) := by decide +kernel
theorem dX2_holds_4 : decode cX2_holds 4 = .ok (.aload_n 0, 1) := by decide +kernel
theorem dX2_holds_5 : decode cX2_holds 5 = .ok (.getfield 24, 3) := by decide +kernel
theorem dX2_holds_8 : decode cX2_holds 8 = .ok (.aload_n 0, 1) := by decide +kernel
theorem dX2_holds_9 : decode cX2_holds 9 = .ok (.getfield 33, 3) := by decide +kernel
theorem dX2_holds_12 : decode cX2_holds 12 = .ok (.iaload, 1) := by decide +kernel
theorem dX2_holds_13 : decode cX2_holds 13 = .ok (.isub, 1) := by decide +kernel
theorem dX2_holds_14 : decode cX2_holds 14 = .ok (.iload_n 1, 1) := by decide +kernel
theorem dX2_holds_15 : decode cX2_holds 15 = .ok (.if_icmp .lt 7, 3) := by decide +kernel
theorem dX2_holds_18 : decode cX2_holds 18 = .ok (.iconst 1, 1) := by decide +kernel
theorem dX2_holds_19 : decode cX2_holds 19 = .ok (.goto 4, 3) := by decide +kernel
theorem dX2_holds_22 : decode cX2_holds 22 = .ok (.iconst 0, 1) := by decide +kernel
theorem dX2_holds_23 : decode cX2_holds 23 = .ok (.ireturn, 1) := by decide +kernel
theorem dX2_isFullWithout_0 : decode cX2_isFullWithout 0 = .ok (.aload_n 0, 1) := by decide +kernel
theorem dX2_isFullWithout_1 : decode cX2_isFullWithout 1 = .ok (.getfield 40, 3) := by decide +kernel
theorem dX2_isFullWithout_4 : decode cX2_isFullWithout 4 = .ok (.iload_n 1, 1) := by decide +kernel
theorem dX2_isFullWithout_5 : decode cX2_isFullWithout 5 = .ok (.isub, 1) := by decide +kernel
theorem dX2_isFullWithout_6 : decode cX2_isFullWithout 6 = .ok (.bipush 60, 2) := by decide +kernel
theorem dX2_isFullWithout_8 : decode cX2_isFullWithout 8 = .ok (.if_icmp .lt 7, 3) := by decide +kernel
theorem dX2_isFullWithout_11 : decode cX2_isFullWithout 11 = .ok (.iconst 1, 1) := by decide +kernel
theorem dX2_isFullWithout_12 : decode cX2_isFullWithout 12 = .ok (.goto 4, 3) := by decide +kernel
theorem dX2_isFullWithout_15 : decode cX2_isFullWithout 15 = .ok (.iconst 0, 1) := by decide +kernel
theorem dX2_isFullWithout_16 : decode cX2_isFullWithout 16 = .ok (.ireturn, 1) := by decide +kernel
theorem dX2_push_0 : decode cX2_push 0 = .ok (.aload_n 0, 1) := by decide +kernel
theorem dX2_push_1 : decode cX2_push 1 = .ok (.getfield 40, 3) := by decide +kernel
theorem dX2_push_4 : decode cX2_push 4 = .ok (.ifCond .lt 12, 3) := by decide +kernel
theorem dX2_push_7 : decode cX2_push 7 = .ok (.aload_n 0, 1) := by decide +kernel
theorem dX2_push_8 : decode cX2_push 8 = .ok (.getfield 40, 3) := by decide +kernel
theorem dX2_push_11 : decode cX2_push 11 = .ok (.bipush 60, 2) := by decide +kernel
theorem dX2_push_13 : decode cX2_push 13 = .ok (.if_icmp .lt 6, 3) := by decide +kernel
theorem dX2_push_16 : decode cX2_push 16 = .ok (.bipush 8, 2) := by decide +kernel
theorem dX2_push_18 : decode cX2_push 18 = .ok (.ireturn, 1) := by decide +kernel
theorem dX2_push_19 : decode cX2_push 19 = .ok (.aload_n 0, 1) := by decide +kernel
theorem dX2_push_20 : decode cX2_push 20 = .ok (.getfield 30, 3) := by decide +kernel
theorem dX2_push_23 : decode cX2_push 23 = .ok (.aload_n 0, 1) := by decide +kernel
theorem dX2_push_24 : decode cX2_push 24 = .ok (.getfield 40, 3) := by decide +kernel
theorem dX2_push_27 : decode cX2_push 27 = .ok (.iload_n 1, 1) := by decide +kernel
theorem dX2_push_28 : decode cX2_push 28 = .ok (.i2s, 1) := by decide +kernel
theorem dX2_push_29 : decode cX2_push 29 = .ok (.iastore, 1) := by decide +kernel
theorem dX2_push_30 : decode cX2_push 30 = .ok (.aload_n 0, 1) := by decide +kernel
theorem dX2_push_31 : decode cX2_push 31 = .ok (.dup, 1) := by decide +kernel
theorem dX2_push_32 : decode cX2_push 32 = .ok (.getfield 40, 3) := by decide +kernel
theorem dX2_push_35 : decode cX2_push 35 = .ok (.iconst 1, 1) := by decide +kernel
theorem dX2_push_36 : decode cX2_push 36 = .ok (.iadd, 1) := by decide +kernel
theorem dX2_push_37 : decode cX2_push 37 = .ok (.putfield 40, 3) := by decide +kernel
theorem dX2_push_40 : decode cX2_push 40 = .ok (.iconst 0, 1) := by decide +kernel
theorem dX2_push_41 : decode cX2_push 41 = .ok (.ireturn, 1) := by decide +kernel
set_option maxRecDepth 20000 in
theorem ggX2_fromTop_X2_holds : GoodIn wsX2_fromTop wsX2_holds := goodIn_r _ [7, 2, 8, 9, 10, 11, 12, 13, 14, 15, 16, 17, 18, 19] (by decide +kernel) (by decide +kernel)
set_option maxRecDepth 20000 in
theorem gX2_fromTop_X2_holds : GoodIn wsX2_fromTop (wsV RX2 82 RX2 yX2_holds wsX2_holds) := goodIn_app (goodIn_of _ (by decide +kernel)) ggX2_fromTop_X2_holds
theorem dX2_fromTop_0 : decode cX2_fromTop 0 = .ok (.iload_n 1, 1) := by decide +kernel
theorem dX2_fromTop_1 : decode cX2_fromTop 1 = .ok (.ifCond .lt 29, 3) := by decide +kernel
theorem dX2_fromTop_4 : decode cX2_fromTop 4 = .ok (.aload_n 0, 1) := by decide +kernel
theorem dX2_fromTop_5 : decode cX2_fromTop 5 = .ok (.iload_n 1, 1) := by decide +kernel
theorem dX2_fromTop_6 : decode cX2_fromTop 6 = .ok (.iconst 1, 1) := by decide +kernel
theorem dX2_fromTop_7 : decode cX2_fromTop 7 = .ok (.iadd, 1) := by decide +kernel
theorem dX2_fromTop_8 : decode cX2_fromTop 8 = .ok (.invokevirtual 82, 3) := by decide +kernel
theorem dX2_fromTop_11 : decode cX2_fromTop 11 = .ok (.ifCond .eq 19, 3) := by decide +kernel
theorem dX2_fromTop_14 : decode cX2_fromTop 14 = .ok (.aload_n 0, 1) := by decide +kernel
theorem dX2_fromTop_15 : decode cX2_fromTop 15 = .ok (.getfield 30, 3) := by decide +kernel
theorem dX2_fromTop_18 : decode cX2_fromTop 18 = .ok (.aload_n 0, 1) := by decide +kernel
theorem dX2_fromTop_19 : decode cX2_fromTop 19 = .ok (.getfield 40, 3) := by decide +kernel
theorem dX2_fromTop_22 : decode cX2_fromTop 22 = .ok (.iconst 1, 1) := by decide +kernel
theorem dX2_fromTop_23 : decode cX2_fromTop 23 = .ok (.isub, 1) := by decide +kernel
theorem dX2_fromTop_24 : decode cX2_fromTop 24 = .ok (.iload_n 1, 1) := by decide +kernel
theorem dX2_fromTop_25 : decode cX2_fromTop 25 = .ok (.isub, 1) := by decide +kernel
theorem dX2_fromTop_26 : decode cX2_fromTop 26 = .ok (.iaload, 1) := by decide +kernel
theorem dX2_fromTop_27 : decode cX2_fromTop 27 = .ok (.goto 4, 3) := by decide +kernel
theorem dX2_fromTop_30 : decode cX2_fromTop 30 = .ok (.iconst 0, 1) := by decide +kernel
theorem dX2_fromTop_31 : decode cX2_fromTop 31 = .ok (.ireturn, 1) := by decide +kernel
set_option maxRecDepth 20000 in
theorem ggX2_drop_X2_holds : GoodIn wsX2_drop wsX2_holds := goodIn_r _ [6, 1, 7, 8, 9, 10, 11, 12, 13, 14, 15, 16, 17, 18] (by decide +kernel) (by decide +kernel)
set_option maxRecDepth 20000 in
theorem gX2_drop_X2_holds : GoodIn wsX2_drop (wsV RX2 82 RX2 yX2_holds wsX2_holds) := goodIn_app (goodIn_of _ (by decide +kernel)) ggX2_drop_X2_holds
theorem dX2_drop_0 : decode cX2_drop 0 = .ok (.iload_n 1, 1) := by decide +kernel
theorem dX2_drop_1 : decode cX2_drop 1 = .ok (.ifCond .lt 21, 3) := by decide +kernel
theorem dX2_drop_4 : decode cX2_drop 4 = .ok (.aload_n 0, 1) := by decide +kernel
theorem dX2_drop_5 : decode cX2_drop 5 = .ok (.iload_n 1, 1) := by decide +kernel
theorem dX2_drop_6 : decode cX2_drop 6 = .ok (.invokevirtual 82, 3) := by decide +kernel
theorem dX2_drop_9 : decode cX2_drop 9 = .ok (.ifCond .eq 13, 3) := by decide +kernel
theorem dX2_drop_12 : decode cX2_drop 12 = .ok (.aload_n 0, 1) := by decide +kernel
theorem dX2_drop_13 : decode cX2_drop 13 = .ok (.dup, 1) := by decide +kernel
theorem dX2_drop_14 : decode cX2_drop 14 = .ok (.getfield 40, 3) := by decide +kernel
theorem dX2_drop_17 : decode cX2_drop 17 = .ok (.iload_n 1, 1) := by decide +kernel
theorem dX2_drop_18 : decode cX2_drop 18 = .ok (.isub, 1) := by decide +kernel
theorem dX2_drop_19 : decode cX2_drop 19 = .ok (.putfield 40, 3) := by decide +kernel
theorem dX2_drop_22 : decode cX2_drop 22 = .ok (.return_, 1) := by decide +kernel
theorem dX5_init_0 : decode cX5_init 0 = .ok (.aload_n 0, 1) := by decide +kernel
theorem dX5_init_1 : decode cX5_init 1 = .ok (.invokespecial 3, 3) := by decide +kernel
theorem dX5_init_4 : decode cX5_init 4 = .ok (.aload_n 0, 1) := by decide +kernel
theorem dX5_init_5 : decode cX5_init 5 = .ok (.bipush 20, 2) := by decide +kernel
theorem dX5_init_7 : decode cX5_init 7 = .ok (.newarray .int, 2) := by decide +kernel
theorem dX5_init_9 : decode cX5_init 9 = .ok (.putfield 9, 3) := by decide +kernel
theorem dX5_init_12 : decode cX5_init 12 = .ok (.aload_n 0, 1) := by decide +kernel
theorem dX5_init_13 : decode cX5_init 13 = .ok (.bipush 20, 2) := by decide +kernel
theorem dX5_init_15 : decode cX5_init 15 = .ok (.newarray .int, 2) := by decide +kernel
theorem dX5_init_17 : decode cX5_init 17 = .ok (.putfield 15, 3) := by decide +kernel
theorem dX5_init_20 : decode cX5_init 20 = .ok (.aload_n 0, 1) := by decide +kernel
theorem dX5_init_21 : decode cX5_init 21 = .ok (.sipush 300, 3) := by decide +kernel
theorem dX5_init_24 : decode cX5_init 24 = .ok (.newarray .int, 2) := by decide +kernel
theorem dX5_init_26 : decode cX5_init 26 = .ok (.putfield 18, 3) := by decide +kernel
theorem dX5_init_29 : decode cX5_init 29 = .ok (.aload_n 0, 1) := by decide +kernel
theorem dX5_init_30 : decode cX5_init 30 = .ok (.sipush 480, 3) := by decide +kernel
theorem dX5_init_33 : decode cX5_init 33 = .ok (.newarray .int, 2) := by decide +kernel
theorem dX5_init_35 : decode cX5_init 35 = .ok (.putfield 21, 3) := by decide +kernel
theorem dX5_init_38 : decode cX5_init 38 = .ok (.aload_n 0, 1) := by decide +kernel
theorem dX5_init_39 : decode cX5_init 39 = .ok (.sipush 480, 3) := by decide +kernel
theorem dX5_init_42 : decode cX5_init 42 = .ok (.newarray .int, 2) := by decide +kernel
theorem dX5_init_44 : decode cX5_init 44 = .ok (.putfield 24, 3) := by decide +kernel
theorem dX5_init_47 : decode cX5_init 47 = .ok (.aload_n 0, 1) := by decide +kernel
theorem dX5_init_48 : decode cX5_init 48 = .ok (.sipush 480, 3) := by decide +kernel
theorem dX5_init_51 : decode cX5_init 51 = .ok (.newarray .int, 2) := by decide +kernel
theorem dX5_init_53 : decode cX5_init 53 = .ok (.putfield 27, 3) := by decide +kernel
theorem dX5_init_56 : decode cX5_init 56 = .ok (.aload_n 0, 1) := by decide +kernel
theorem dX5_init_57 : decode cX5_init 57 = .ok (.iconst 0, 1) := by decide +kernel
theorem dX5_init_58 : decode cX5_init 58 = .ok (.putfield 30, 3) := by decide +kernel
theorem dX5_init_61 : decode cX5_init 61 = .ok (.return_, 1) := by decide +kernel
theorem dX5_count_0 : decode cX5_count 0 = .ok (.aload_n 0, 1) := by decide +kernel
theorem dX5_count_1 : decode cX5_count 1 = .ok (.getfield 30, 3) := by decide +kernel
theorem dX5_count_4 : decode cX5_count 4 = .ok (.ireturn, 1) := by decide +kernel
theorem dX5_isFull_0 : decode cX5_isFull 0 = .ok (.aload_n 0, 1) := by decide +kernel
theorem dX5_isFull_1 : decode cX5_isFull 1 = .ok (.getfield 30, 3) := by decide +kernel
theorem dX5_isFull_4 : decode cX5_isFull 4 = .ok (.bipush 20, 2) := by decide +kernel
theorem dX5_isFull_6 : decode cX5_isFull 6 = .ok (.if_icmp .lt 7, 3) := by decide +kernel
theorem dX5_isFull_9 : decode cX5_isFull 9 = .ok (.iconst 1, 1) := by decide +kernel
theorem dX5_isFull_10 : decode cX5_isFull 10 = .ok (.goto 4, 3) := by decide +kernel
theorem dX5_isFull_13 : decode cX5_isFull 13 = .ok (.iconst 0, 1) := by decide +kernel
theorem dX5_isFull_14 : decode cX5_isFull 14 = .ok (.ireturn, 1) := by decide +kernel
set_option maxRecDepth 20000 in
theorem ggX5_append_X5_isFull : GoodIn wsX5_append wsX5_isFull := goodIn_r _ [8, 3, 9, 10, 11, 12, 13, 14, 15] (by decide +kernel) (by decide +kernel)
set_option maxRecDepth 20000 in
theorem gX5_append_X5_isFull : GoodIn wsX5_append (wsV RX5 34 RX5 yX5_isFull wsX5_isFull) := goodIn_app (goodIn_of _ (by decide +kernel)) ggX5_append_X5_isFull
theorem dX5_append_0 : decode cX5_append 0 = .ok (.aload_n 0, 1) := by decide +kernel
theorem dX5_append_1 : decode cX5_append 1 = .ok (.invokevirtual 34, 3) := by decide +kernel
theorem dX5_append_4 : decode cX5_append 4 = .ok (.ifCond .eq 6, 3) := by decide +kernel
theorem dX5_append_7 : decode cX5_append 7 = .ok (.ldc 38, 2) := by decide +kernel
theorem dX5_append_9 : decode cX5_append 9 = .ok (.ireturn, 1) := by decide +kernel
theorem dX5_append_10 : decode cX5_append 10 = .ok (.aload_n 0, 1) := by decide +kernel
theorem dX5_append_11 : decode cX5_append 11 = .ok (.getfield 9, 3) := by decide +kernel
theorem dX5_append_14 : decode cX5_append 14 = .ok (.aload_n 0, 1) := by decide +kernel
theorem dX5_append_15 : decode cX5_append 15 = .ok (.getfield 30, 3) := by decide +kernel
theorem dX5_append_18 : decode cX5_append 18 = .ok (.iload_n 1, 1) := by decide +kernel
theorem dX5_append_19 : decode cX5_append 19 = .ok (.iastore, 1) := by decide +kernel
theorem dX5_append_20 : decode cX5_append 20 = .ok (.aload_n 0, 1) := by decide +kernel
theorem dX5_append_21 : decode cX5_append 21 = .ok (.dup, 1) := by decide +kernel
theorem dX5_append_22 : decode cX5_append 22 = .ok (.getfield 30, 3) := by decide +kernel
theorem dX5_append_25 : decode cX5_append 25 = .ok (.iconst 1, 1) := by decide +kernel
theorem dX5_append_26 : decode cX5_append 26 = .ok (.iadd, 1) := by decide +kernel
theorem dX5_append_27 : decode cX5_append 27 = .ok (.putfield 30, 3) := by decide +kernel
theorem dX5_append_30 : decode cX5_append 30 = .ok (.aload_n 0, 1) := by decide +kernel
theorem dX5_append_31 : decode cX5_append 31 = .ok (.getfield 30, 3) := by decide +kernel
theorem dX5_append_34 : decode cX5_append 34 = .ok (.iconst 1, 1) := by decide +kernel
theorem dX5_append_35 : decode cX5_append 35 = .ok (.isub, 1) := by decide +kernel
theorem dX5_append_36 : decode cX5_append 36 = .ok (.ireturn, 1) := by decide +kernel
theorem dX5_has_0 : decode cX5_has 0 = .ok (.iload_n 1, 1) := by decide +kernel
theorem dX5_has_1 : decode cX5_has 1 = .ok (.ifCond .lt 15, 3) := by decide +kernel
theorem dX5_has_4 : decode cX5_has 4 = .ok (.iload_n 1, 1) := by decide +kernel
theorem dX5_has_5 : decode cX5_has 5 = .ok (.aload_n 0, 1) := by decide +kernel
theorem dX5_has_6 : decode cX5_has 6 = .ok (.getfield 30, 3) := by decide +kernel
theorem dX5_has_9 : decode cX5_has 9 = .ok (.if_icmp .ge 7, 3) := by decide +kernel
theorem dX5_has_12 : decode cX5_has 12 = .ok (.iconst 1, 1) := by decide +kernel
theorem dX5_has_13 : decode cX5_has 13 = .ok (.goto 4, 3) := by decide +kernel
theorem dX5_has_16 : decode cX5_has 16 = .ok (.iconst 0, 1) := by decide +kernel
theorem dX5_has_17 : decode cX5_has 17 = .ok (.ireturn, 1) := by decide +kernel
set_option maxRecDepth 20000 in
theorem ggX5_hasLocal_X5_has : GoodIn wsX5_hasLocal wsX5_has := goodIn_r _ [6, 7, 8, 9, 10, 11, 12, 13, 14] (by decide +kernel) (by decide +kernel)
set_option maxRecDepth 20000 in
theorem gX5_hasLocal_X5_has : GoodIn wsX5_hasLocal (wsV RX5 39 RX5 yX5_has wsX5_has) := goodIn_app (goodIn_of _ (by decide +kernel)) ggX5_hasLocal_X5_has
theorem dX5_hasLocal_0 : decode cX5_hasLocal 0 = .ok (.aload_n 0, 1) := by decide +kernel
theorem dX5_hasLocal_1 : decode cX5_hasLocal 1 = .ok (.iload_n 1, 1) := by decide +kernel
theorem dX5_hasLocal_2 : decode cX5_hasLocal 2 = .ok (.invokevirtual 39, 3) := by decide +kernel
theorem dX5_hasLocal_5 : decode cX5_hasLocal 5 = .ok (.ifCond .eq 21, 3) := by decide +kernel
theorem dX5_hasLocal_8 : decode cX5_hasLocal 8 = .ok (.iload_n 2, 1) := by decide +kernel
theorem dX5_hasLocal_9 : decode cX5_hasLocal 9 = .ok (.ifCond .lt 17, 3) := by decide +kernel
theorem dX5_hasLocal_12 : decode cX5_hasLocal 12 = .ok (.iload_n 2, 1) := by decide +kernel
theorem dX5_hasLocal_13 : decode cX5_hasLocal 13 = .ok (.aload_n 0, 1) := by decide +kernel
theorem dX5_hasLocal_14 : decode cX5_hasLocal 14 = .ok (.getfield 9, 3) := by decide +kernel
theorem dX5_hasLocal_17 : decode cX5_hasLocal 17 = .ok (.iload_n 1, 1) := by decide +kernel
theorem dX5_hasLocal_18 : decode cX5_hasLocal 18 = .ok (.iaload, 1) := by decide +kernel
theorem dX5_hasLocal_19 : decode cX5_hasLocal 19 = .ok (.if_icmp .ge 7, 3) := by decide +kernel
theorem dX5_hasLocal_22 : decode cX5_hasLocal 22 = .ok (.iconst 1, 1) := by decide +kernel
theorem dX5_hasLocal_23 : decode cX5_hasLocal 23 = .ok (.goto 4, 3) := by decide +kernel
theorem dX5_hasLocal_26 : decode cX5_hasLocal 26 = .ok (.iconst 0, 1) := by decide +kernel
theorem dX5_hasLocal_27 : decode cX5_hasLocal 27 = .ok (.ireturn, 1) := by decide +kernel
set_option maxRecDepth 20000 in
theorem ggX5_localCount_X5_has : GoodIn wsX5_localCount wsX5_has := goodIn_r _ [6, 7, 8, 9, 10, 11, 12, 13, 14] (by decide +kernel) (by decide +kernel)
set_option maxRecDepth 20000 in
theorem gX5_localCount_X5_has : GoodIn wsX5_localCount (wsV RX5 39 RX5 yX5_has wsX5_has) := goodIn_app (goodIn_of _ (by decide +kernel)) ggX5_localCount_X5_has
theorem dX5_localCount_0 : decode cX5_localCount 0 = .ok (.aload_n 0, 1) := by decide +kernel
theorem dX5_localCount_1 : decode cX5_localCount 1 = .ok (.iload_n 1, 1) := by decide +kernel
theorem dX5_localCount_2 : decode cX5_localCount 2 = .ok (.invokevirtual 39, 3) := by decide +kernel
theorem dX5_localCount_5 : decode cX5_localCount 5 = .ok (.ifCond .eq 12, 3) := by decide +kernel
theorem dX5_localCount_8 : decode cX5_localCount 8 = .ok (.aload_n 0, 1) := by decide +kernel
theorem dX5_localCount_9 : decode cX5_localCount 9 = .ok (.getfield 9, 3) := by decide +kernel
theorem dX5_localCount_12 : decode cX5_localCount 12 = .ok (.iload_n 1, 1) := by decide +kernel
theorem dX5_localCount_13 : decode cX5_localCount 13 = .ok (.iaload, 1) := by decide +kernel
theorem dX5_localCount_14 : decode cX5_localCount 14 = .ok (.goto 4, 3) := by decide +kernel
theorem dX5_localCount_17 : decode cX5_localCount 17 = .ok (.iconst 0, 1) := by decide +kernel
theorem dX5_localCount_18 : decode cX5_localCount 18 = .ok (.ireturn, 1) := by decide +kernel
set_option maxRecDepth 20000 in
theorem ggX5_setFirstValue_X5_hasLocal : GoodIn wsX5_setFirstValue wsX5_hasLocal := goodIn_r _ [6, 7, 8, 9, 10, 5, 11, 12, 13, 14, 15, 16, 17, 18, 19] (by decide +kernel) (by decide +kernel)
set_option maxRecDepth 20000 in
theorem gX5_setFirstValue_X5_hasLocal : GoodIn wsX5_setFirstValue (wsV RX5 43 RX5 yX5_hasLocal wsX5_hasLocal) := goodIn_app (goodIn_of _ (by decide +kernel)) ggX5_setFirstValue_X5_hasLocal
theorem dX5_setFirstValue_0 : decode cX5_setFirstValue 0 = .ok (.aload_n 0, 1) := by decide +kernel
theorem dX5_setFirstValue_1 : decode cX5_setFirstValue 1 = .ok (.iload_n 1, 1) := by decide +kernel
theorem dX5_setFirstValue_2 : decode cX5_setFirstValue 2 = .ok (.iload_n 2, 1) := by decide +kernel
theorem dX5_setFirstValue_3 : decode cX5_setFirstValue 3 = .ok (.invokevirtual 43, 3) := by decide +kernel
theorem dX5_setFirstValue_6 : decode cX5_setFirstValue 6 = .ok (.ifCond .eq 16, 3) := by decide +kernel
theorem dX5_setFirstValue_9 : decode cX5_setFirstValue 9 = .ok (.aload_n 0, 1) := by decide +kernel
theorem dX5_setFirstValue_10 : decode cX5_setFirstValue 10 = .ok (.getfield 18, 3) := by decide +kernel
theorem dX5_setFirstValue_13 : decode cX5_setFirstValue 13 = .ok (.iload_n 1, 1) := by decide +kernel
theorem dX5_setFirstValue_14 : decode cX5_setFirstValue 14 = .ok (.bipush 15, 2) := by decide +kernel
theorem dX5_setFirstValue_16 : decode cX5_setFirstValue 16 = .ok (.imul, 1) := by decide +kernel
theorem dX5_setFirstValue_17 : decode cX5_setFirstValue 17 = .ok (.iload_n 2, 1) := by decide +kernel
theorem dX5_setFirstValue_18 : decode cX5_setFirstValue 18 = .ok (.iadd, 1) := by decide +kernel
theorem dX5_setFirstValue_19 : decode cX5_setFirstValue 19 = .ok (.iload_n 3, 1) := by decide +kernel
theorem dX5_setFirstValue_20 : decode cX5_setFirstValue 20 = .ok (.i2s, 1) := by decide +kernel
theorem dX5_setFirstValue_21 : decode cX5_setFirstValue 21 = .ok (.iastore, 1) := by decide +kernel
theorem dX5_setFirstValue_22 : decode cX5_setFirstValue 22 = .ok (.return_, 1) := by decide +kernel
set_option maxRecDepth 20000 in
theorem ggX5_copyFirstValues_X5_has : GoodIn wsX5_copyFirstValues wsX5_has := goodIn_r _ [11, 12, 13, 14, 15, 16, 17, 18, 19] (by decide +kernel) (by decide +kernel)
set_option maxRecDepth 20000 in
theorem gX5_copyFirstValues_X5_has : GoodIn wsX5_copyFirstValues (wsV RX5 39 RX5 yX5_has wsX5_has) := goodIn_app (goodIn_of _ (by decide +kernel)) ggX5_copyFirstValues_X5_has
theorem dX5_copyFirstValues_0 : decode cX5_copyFirstValues 0 = .ok (.iload_n 3, 1) := by decide +kernel
theorem dX5_copyFirstValues_1 : decode cX5_copyFirstValues 1 = .ok (.ifCond .lt 16, 3) := by decide +kernel
theorem dX5_copyFirstValues_4 : decode cX5_copyFirstValues 4 = .ok (.iload_n 3, 1) := by decide +kernel
theorem dX5_copyFirstValues_5 : decode cX5_copyFirstValues 5 = .ok (.aload_n 2, 1) := by decide +kernel
theorem dX5_copyFirstValues_6 : decode cX5_copyFirstValues 6 = .ok (.arraylength, 1) := by decide +kernel
theorem dX5_copyFirstValues_7 : decode cX5_copyFirstValues 7 = .ok (.bipush 15, 2) := by decide +kernel
theorem dX5_copyFirstValues_9 : decode cX5_copyFirstValues 9 = .ok (.isub, 1) := by decide +kernel
theorem dX5_copyFirstValues_10 : decode cX5_copyFirstValues 10 = .ok (.if_icmp .gt 7, 3) := by decide +kernel
theorem dX5_copyFirstValues_13 : decode cX5_copyFirstValues 13 = .ok (.iconst 1, 1) := by decide +kernel
theorem dX5_copyFirstValues_14 : decode cX5_copyFirstValues 14 = .ok (.goto 4, 3) := by decide +kernel
theorem dX5_copyFirstValues_17 : decode cX5_copyFirstValues 17 = .ok (.iconst 0, 1) := by decide +kernel
theorem dX5_copyFirstValues_18 : decode cX5_copyFirstValues 18 = .ok (.istore 4, 2) := by decide +kernel
theorem dX5_copyFirstValues_20 : decode cX5_copyFirstValues 20 = .ok (.iload 4, 2) := by decide +kernel
theorem dX5_copyFirstValues_22 : decode cX5_copyFirstValues 22 = .ok (.ifCond .eq 30, 3) := by decide +kernel
theorem dX5_copyFirstValues_25 : decode cX5_copyFirstValues 25 = .ok (.aload_n 0, 1) := by decide +kernel
theorem dX5_copyFirstValues_26 : decode cX5_copyFirstValues 26 = .ok (.iload_n 1, 1) := by decide +kernel
theorem dX5_copyFirstValues_27 : decode cX5_copyFirstValues 27 = .ok (.invokevirtual 39, 3) := by decide +kernel
theorem dX5_copyFirstValues_30 : decode cX5_copyFirstValues 30 = .ok (.ifCond .eq 22, 3) := by decide +kernel
theorem dX5_copyFirstValues_33 : decode cX5_copyFirstValues 33 = .ok (.aload_n 0, 1) := by decide +kernel
theorem dX5_copyFirstValues_34 : decode cX5_copyFirstValues 34 = .ok (.getfield 18, 3) := by decide +kernel
theorem dX5_copyFirstValues_37 : decode cX5_copyFirstValues 37 = .ok (.iload_n 1, 1) := by decide +kernel
theorem dX5_copyFirstValues_38 : decode cX5_copyFirstValues 38 = .ok (.bipush 15, 2) := by decide +kernel
theorem dX5_copyFirstValues_40 : decode cX5_copyFirstValues 40 = .ok (.imul, 1) := by decide +kernel
theorem dX5_copyFirstValues_41 : decode cX5_copyFirstValues 41 = .ok (.aload_n 2, 1) := by decide +kernel
theorem dX5_copyFirstValues_42 : decode cX5_copyFirstValues 42 = .ok (.iload_n 3, 1) := by decide +kernel
theorem dX5_copyFirstValues_43 : decode cX5_copyFirstValues 43 = .ok (.aload_n 0, 1) := by decide +kernel
theorem dX5_copyFirstValues_44 : decode cX5_copyFirstValues 44 = .ok (.getfield 9, 3) := by decide +kernel
theorem dX5_copyFirstValues_47 : decode cX5_copyFirstValues 47 = .ok (.iload_n 1, 1) := by decide +kernel
theorem dX5_copyFirstValues_48 : decode cX5_copyFirstValues 48 = .ok (.iaload, 1) := by decide +kernel
theorem dX5_copyFirstValues_49 : decode cX5_copyFirstValues 49 = .ok (.invokestatic 47, 3) := by decide +kernel
theorem dX5_copyFirstValues_52 : decode cX5_copyFirstValues 52 = .ok (.return_, 1) := by decide +kernel
set_option maxRecDepth 20000 in
theorem ggX5_length_X5_has : GoodIn wsX5_length wsX5_has := goodIn_r _ [6, 7, 8, 9, 10, 11, 12, 13, 14] (by decide +kernel) (by decide +kernel)
set_option maxRecDepth 20000 in
theorem gX5_length_X5_has : GoodIn wsX5_length (wsV RX5 39 RX5 yX5_has wsX5_has) := goodIn_app (goodIn_of _ (by decide +kernel)) ggX5_length_X5_has
theorem dX5_length_0 : decode cX5_length 0 = .ok (.aload_n 0, 1) := by decide +kernel
theorem dX5_length_1 : decode cX5_length 1 = .ok (.iload_n 1, 1) := by decide +kernel
theorem dX5_length_2 : decode cX5_length 2 = .ok (.invokevirtual 39, 3) := by decide +kernel
theorem dX5_length_5 : decode cX5_length 5 = .ok (.ifCond .eq 12, 3) := by decide +kernel
theorem dX5_length_8 : decode cX5_length 8 = .ok (.aload_n 0, 1) := by decide +kernel
theorem dX5_length_9 : decode cX5_length 9 = .ok (.getfield 15, 3) := by decide +kernel
theorem dX5_length_12 : decode cX5_length 12 = .ok (.iload_n 1, 1) := by decide +kernel
theorem dX5_length_13 : decode cX5_length 13 = .ok (.iaload, 1) := by decide +kernel
theorem dX5_length_14 : decode cX5_length 14 = .ok (.goto 4, 3) := by decide +kernel
theorem dX5_length_17 : decode cX5_length 17 = .ok (.iconst 0, 1) := by decide +kernel
theorem dX5_length_18 : decode cX5_length 18 = .ok (.ireturn, 1) := by decide +kernel
set_option maxRecDepth 20000 in
theorem ggX5_isBodyFull_X5_length : GoodIn wsX5_isBodyFull wsX5_length := goodIn_r _ [5, 6, 7, 8, 9, 4, 10, 11, 12, 13, 14, 15, 16, 17, 18] (by decide +kernel) (by decide +kernel)
set_option maxRecDepth 20000 in
theorem gX5_isBodyFull_X5_length : GoodIn wsX5_isBodyFull (wsV RX5 53 RX5 yX5_length wsX5_length) := goodIn_app (goodIn_of _ (by decide +kernel)) ggX5_isBodyFull_X5_length
theorem dX5_isBodyFull_0 : decode cX5_isBodyFull 0 = .ok (.aload_n 0, 1) := by decide +kernel
theorem dX5_isBodyFull_1 : decode cX5_isBodyFull 1 = .ok (.iload_n 1, 1) := by decide +kernel
theorem dX5_isBodyFull_2 : decode cX5_isBodyFull 2 = .ok (.invokevirtual 53, 3) := by decide +kernel
theorem dX5_isBodyFull_5 : decode cX5_isBodyFull 5 = .ok (.bipush 24, 2) := by decide +kernel
theorem dX5_isBodyFull_7 : decode cX5_isBodyFull 7 = .ok (.if_icmp .lt 7, 3) := by decide +kernel
theorem dX5_isBodyFull_10 : decode cX5_isBodyFull 10 = .ok (.iconst 1, 1) := by decide +kernel
theorem dX5_isBodyFull_11 : decode cX5_isBodyFull 11 = .ok (.goto 4, 3) := by decide +kernel
theorem dX5_isBodyFull_14 : decode cX5_isBodyFull 14 = .ok (.iconst 0, 1) := by decide +kernel
theorem dX5_isBodyFull_15 : decode cX5_isBodyFull 15 = .ok (.ireturn, 1) := by decide +kernel
set_option maxRecDepth 20000 in
theorem ggX5_appendInstruction_X5_has : GoodIn wsX5_appendInstruction wsX5_has := goodIn_r _ [10, 11, 20, 21, 22, 23, 24, 25, 26] (by decide +kernel) (by decide +kernel)
set_option maxRecDepth 20000 in
theorem gX5_appendInstruction_X5_has : GoodIn wsX5_appendInstruction (wsV RX5 39 RX5 yX5_has wsX5_has) := goodIn_app (goodIn_of _ (by decide +kernel)) ggX5_appendInstruction_X5_has
set_option maxRecDepth 20000 in
theorem ggX5_appendInstruction_X5_isBodyFull : GoodIn wsX5_appendInstruction wsX5_isBodyFull := goodIn_r _ [15, 16, 17, 18, 9, 19, 2, 6, 7, 8, 10, 11, 20, 21, 22, 23, 24, 25, 26] (by decide +kernel) (by decide +kernel)
set_option maxRecDepth 20000 in
theorem gX5_appendInstruction_X5_isBodyFull : GoodIn wsX5_appendInstruction (wsV RX5 57 RX5 yX5_isBodyFull wsX5_isBodyFull) := goodIn_app (goodIn_of _ (by decide +kernel)) ggX5_appendInstruction_X5_isBodyFull
theorem dX5_appendInstruction_0 : decode cX5_appendInstruction 0 = .ok (.aload_n 0, 1) := by decide +kernel
theorem dX5_appendInstruction_1 : decode cX5_appendInstruction 1 = .ok (.iload_n 1, 1) := by decide +kernel
theorem dX5_appendInstruction_2 : decode cX5_appendInstruction 2 = .ok (.invokevirtual 39, 3) := by decide +kernel
theorem dX5_appendInstruction_5 : decode cX5_appendInstruction 5 = .ok (.ifCond .eq 11, 3) := by decide +kernel
theorem dX5_appendInstruction_8 : decode cX5_appendInstruction 8 = .ok (.aload_n 0, 1) := by decide +kernel
theorem dX5_appendInstruction_9 : decode cX5_appendInstruction 9 = .ok (.iload_n 1, 1) := by decide +kernel
theorem dX5_appendInstruction_10 : decode cX5_appendInstruction 10 = .ok (.invokevirtual 57, 3) := by decide +kernel
theorem dX5_appendInstruction_13 : decode cX5_appendInstruction 13 = .ok (.ifCond .eq 6, 3) := by decide +kernel
theorem dX5_appendInstruction_16 : decode cX5_appendInstruction 16 = .ok (.ldc 38, 2) := by decide +kernel
theorem dX5_appendInstruction_18 : decode cX5_appendInstruction 18 = .ok (.ireturn, 1) := by decide +kernel
theorem dX5_appendInstruction_19 : decode cX5_appendInstruction 19 = .ok (.iload_n 1, 1) := by decide +kernel
theorem dX5_appendInstruction_20 : decode cX5_appendInstruction 20 = .ok (.bipush 24, 2) := by decide +kernel
theorem dX5_appendInstruction_22 : decode cX5_appendInstruction 22 = .ok (.imul, 1) := by decide +kernel
theorem dX5_appendInstruction_23 : decode cX5_appendInstruction 23 = .ok (.aload_n 0, 1) := by decide +kernel
theorem dX5_appendInstruction_24 : decode cX5_appendInstruction 24 = .ok (.getfield 15, 3) := by decide +kernel
theorem dX5_appendInstruction_27 : decode cX5_appendInstruction 27 = .ok (.iload_n 1, 1) := by decide +kernel
theorem dX5_appendInstruction_28 : decode cX5_appendInstruction 28 = .ok (.iaload, 1) := by decide +kernel
theorem dX5_appendInstruction_29 : decode cX5_appendInstruction 29 = .ok (.iadd, 1) := by decide +kernel
theorem dX5_appendInstruction_30 : decode cX5_appendInstruction 30 = .ok (.istore 5, 2) := by decide +kernel
theorem dX5_appendInstruction_32 : decode cX5_appendInstruction 32 = .ok (.aload_n 0, 1) := by decide +kernel
theorem dX5_appendInstruction_33 : decode cX5_appendInstruction 33 = .ok (.getfield 21, 3) := by decide +kernel
theorem dX5_appendInstruction_36 : decode cX5_appendInstruction 36 = .ok (.iload 5, 2) := by decide +kernel
theorem dX5_appendInstruction_38 : decode cX5_appendInstruction 38 = .ok (.iload_n 2, 1) := by decide +kernel
theorem dX5_appendInstruction_39 : decode cX5_appendInstruction 39 = .ok (.iastore, 1) := by decide +kernel
theorem dX5_appendInstruction_40 : decode cX5_appendInstruction 40 = .ok (.aload_n 0, 1) := by decide +kernel
theorem dX5_appendInstruction_41 : decode cX5_appendInstruction 41 = .ok (.getfield 24, 3) := by decide +kernel
theorem dX5_appendInstruction_44 : decode cX5_appendInstruction 44 = .ok (.iload 5, 2) := by decide +kernel
theorem dX5_appendInstruction_46 : decode cX5_appendInstruction 46 = .ok (.iload_n 3, 1) := by decide +kernel
theorem dX5_appendInstruction_47 : decode cX5_appendInstruction 47 = .ok (.iastore, 1) := by decide +kernel
theorem dX5_appendInstruction_48 : decode cX5_appendInstruction 48 = .ok (.aload_n 0, 1) := by decide +kernel
theorem dX5_appendInstruction_49 : decode cX5_appendInstruction 49 = .ok (.getfield 27, 3) := by decide +kernel
theorem dX5_appendInstruction_52 : decode cX5_appendInstruction 52 = .ok (.iload 5, 2) := by decide +kernel
theorem dX5_appendInstruction_54 : decode cX5_appendInstruction 54 = .ok (.iload 4, 2) := by decide +kernel
theorem dX5_appendInstruction_56 : decode cX5_appendInstruction 56 = .ok (.iastore, 1) := by decide +kernel
theorem dX5_appendInstruction_57 : decode cX5_appendInstruction 57 = .ok (.aload_n 0, 1) := by decide +kernel
theorem dX5_appendInstruction_58 : decode cX5_appendInstruction 58 = .ok (.getfield 15, 3) := by decide +kernel
theorem dX5_appendInstruction_61 : decode cX5_appendInstruction 61 = .ok (.iload_n 1, 1) := by decide +kernel
theorem dX5_appendInstruction_62 : decode cX5_appendInstruction 62 = .ok (.dup2, 1) := by decide +kernel
theorem dX5_appendInstruction_63 : decode cX5_appendInstruction 63 = .ok (.iaload, 1) := by decide +kernel
theorem dX5_appendInstruction_64 : decode cX5_appendInstruction 64 = .ok (.iconst 1, 1) := by decide +kernel
theorem dX5_appendInstruction_65 : decode cX5_appendInstruction 65 = .ok (.iadd, 1) := by decide +kernel
theorem dX5_appendInstruction_66 : decode cX5_appendInstruction 66 = .ok (.iastore, 1) := by decide +kernel
theorem dX5_appendInstruction_67 : decode cX5_appendInstruction 67 = .ok (.aload_n 0, 1) := by decide +kernel
theorem dX5_appendInstruction_68 : decode cX5_appendInstruction 68 = .ok (.getfield 15, 3) := by decide +kernel
theorem dX5_appendInstruction_71 : decode cX5_appendInstruction 71 = .ok (.iload_n 1, 1) := by decide +kernel
theorem dX5_appendInstruction_72 : decode cX5_appendInstruction 72 = .ok (.iaload, 1) := by decide +kernel
theorem dX5_appendInstruction_73 : decode cX5_appendInstruction 73 = .ok (.ireturn, 1) := by decide +kernel
set_option maxRecDepth 20000 in
theorem ggX5_emptyBody_X5_has : GoodIn wsX5_emptyBody wsX5_has := goodIn_r _ [6, 7, 8, 9, 10, 11, 12, 13, 14] (by decide +kernel) (by decide +kernel)
set_option maxRecDepth 20000 in
theorem gX5_emptyBody_X5_has : GoodIn wsX5_emptyBody (wsV RX5 39 RX5 yX5_has wsX5_has) := goodIn_app (goodIn_of _ (by decide +kernel)) ggX5_emptyBody_X5_has
theorem dX5_emptyBody_0 : decode cX5_emptyBody 0 = .ok (.aload_n 0, 1) := by decide +kernel
theorem dX5_emptyBody_1 : decode cX5_emptyBody 1 = .ok (.iload_n 1, 1) := by decide +kernel
theorem dX5_emptyBody_2 : decode cX5_emptyBody 2 = .ok (.invokevirtual 39, 3) := by decide +kernel
theorem dX5_emptyBody_5 : decode cX5_emptyBody 5 = .ok (.ifCond .ne 5, 3) := by decide +kernel
theorem dX5_emptyBody_8 : decode cX5_emptyBody 8 = .ok (.iconst 0, 1) := by decide +kernel
theorem dX5_emptyBody_9 : decode cX5_emptyBody 9 = .ok (.ireturn, 1) := by decide +kernel
theorem dX5_emptyBody_10 : decode cX5_emptyBody 10 = .ok (.aload_n 0, 1) := by decide +kernel
theorem dX5_emptyBody_11 : decode cX5_emptyBody 11 = .ok (.getfield 15, 3) := by decide +kernel
theorem dX5_emptyBody_14 : decode cX5_emptyBody 14 = .ok (.iload_n 1, 1) := by decide +kernel
theorem dX5_emptyBody_15 : decode cX5_emptyBody 15 = .ok (.iaload, 1) := by decide +kernel
theorem dX5_emptyBody_16 : decode cX5_emptyBody 16 = .ok (.istore_n 2, 1) := by decide +kernel
theorem dX5_emptyBody_17 : decode cX5_emptyBody 17 = .ok (.aload_n 0, 1) := by decide +kernel
theorem dX5_emptyBody_18 : decode cX5_emptyBody 18 = .ok (.getfield 15, 3) := by decide +kernel
theorem dX5_emptyBody_21 : decode cX5_emptyBody 21 = .ok (.iload_n 1, 1) := by decide +kernel
theorem dX5_emptyBody_22 : decode cX5_emptyBody 22 = .ok (.iconst 0, 1) := by decide +kernel
theorem dX5_emptyBody_23 : decode cX5_emptyBody 23 = .ok (.iastore, 1) := by decide +kernel
theorem dX5_emptyBody_24 : decode cX5_emptyBody 24 = .ok (.iload_n 2, 1) := by decide +kernel
theorem dX5_emptyBody_25 : decode cX5_emptyBody 25 = .ok (.ireturn, 1) := by decide +kernel
set_option maxRecDepth 20000 in
theorem ggX5_hasPlace_X5_has : GoodIn wsX5_hasPlace wsX5_has := goodIn_r _ [6, 7, 8, 9, 10, 11, 12, 13, 14] (by decide +kernel) (by decide +kernel)
set_option maxRecDepth 20000 in
theorem gX5_hasPlace_X5_has : GoodIn wsX5_hasPlace (wsV RX5 39 RX5 yX5_has wsX5_has) := goodIn_app (goodIn_of _ (by decide +kernel)) ggX5_hasPlace_X5_has
theorem dX5_hasPlace_0 : decode cX5_hasPlace 0 = .ok (.aload_n 0, 1) := by decide +kernel
theorem dX5_hasPlace_1 : decode cX5_hasPlace 1 = .ok (.iload_n 1, 1) := by decide +kernel
theorem dX5_hasPlace_2 : decode cX5_hasPlace 2 = .ok (.invokevirtual 39, 3) := by decide +kernel
theorem dX5_hasPlace_5 : decode cX5_hasPlace 5 = .ok (.ifCond .eq 21, 3) := by decide +kernel
theorem dX5_hasPlace_8 : decode cX5_hasPlace 8 = .ok (.iload_n 2, 1) := by decide +kernel
theorem dX5_hasPlace_9 : decode cX5_hasPlace 9 = .ok (.ifCond .lt 17, 3) := by decide +kernel
theorem dX5_hasPlace_12 : decode cX5_hasPlace 12 = .ok (.iload_n 2, 1) := by decide +kernel
theorem dX5_hasPlace_13 : decode cX5_hasPlace 13 = .ok (.aload_n 0, 1) := by decide +kernel
theorem dX5_hasPlace_14 : decode cX5_hasPlace 14 = .ok (.getfield 15, 3) := by decide +kernel
theorem dX5_hasPlace_17 : decode cX5_hasPlace 17 = .ok (.iload_n 1, 1) := by decide +kernel
theorem dX5_hasPlace_18 : decode cX5_hasPlace 18 = .ok (.iaload, 1) := by decide +kernel
theorem dX5_hasPlace_19 : decode cX5_hasPlace 19 = .ok (.if_icmp .ge 7, 3) := by decide +kernel
theorem dX5_hasPlace_22 : decode cX5_hasPlace 22 = .ok (.iconst 1, 1) := by decide +kernel
theorem dX5_hasPlace_23 : decode cX5_hasPlace 23 = .ok (.goto 4, 3) := by decide +kernel
theorem dX5_hasPlace_26 : decode cX5_hasPlace 26 = .ok (.iconst 0, 1) := by decide +kernel
theorem dX5_hasPlace_27 : decode cX5_hasPlace 27 = .ok (.ireturn, 1) := by decide +kernel
set_option maxRecDepth 20000 in
theorem ggX5_op_X5_hasPlace : GoodIn wsX5_op wsX5_hasPlace := goodIn_r _ [6, 7, 8, 9, 10, 5, 11, 12, 13, 14, 15, 16, 17, 18, 19] (by decide +kernel) (by decide +kernel)
set_option maxRecDepth 20000 in
theorem gX5_op_X5_hasPlace : GoodIn wsX5_op (wsV RX5 60 RX5 yX5_hasPlace wsX5_hasPlace) := goodIn_app (goodIn_of _ (by decide +kernel)) ggX5_op_X5_hasPlace
theorem dX5_op_0 : decode cX5_op 0 = .ok (.aload_n 0, 1) := by decide +kernel
theorem dX5_op_1 : decode cX5_op 1 = .ok (.iload_n 1, 1) := by decide +kernel
theorem dX5_op_2 : decode cX5_op 2 = .ok (.iload_n 2, 1) := by decide +kernel
theorem dX5_op_3 : decode cX5_op 3 = .ok (.invokevirtual 60, 3) := by decide +kernel
theorem dX5_op_6 : decode cX5_op 6 = .ok (.ifCond .eq 17, 3) := by decide +kernel
theorem dX5_op_9 : decode cX5_op 9 = .ok (.aload_n 0, 1) := by decide +kernel
theorem dX5_op_10 : decode cX5_op 10 = .ok (.getfield 21, 3) := by decide +kernel
theorem dX5_op_13 : decode cX5_op 13 = .ok (.iload_n 1, 1) := by decide +kernel
theorem dX5_op_14 : decode cX5_op 14 = .ok (.bipush 24, 2) := by decide +kernel
theorem dX5_op_16 : decode cX5_op 16 = .ok (.imul, 1) := by decide +kernel
theorem dX5_op_17 : decode cX5_op 17 = .ok (.iload_n 2, 1) := by decide +kernel
theorem dX5_op_18 : decode cX5_op 18 = .ok (.iadd, 1) := by decide +kernel
theorem dX5_op_19 : decode cX5_op 19 = .ok (.iaload, 1) := by decide +kernel
theorem dX5_op_20 : decode cX5_op 20 = .ok (.goto 4, 3) := by decide +kernel
theorem dX5_op_23 : decode cX5_op 23 = .ok (.iconst (-1), 1) := by decide +kernel
theorem dX5_op_24 : decode cX5_op 24 = .ok (.ireturn, 1) := by decide +kernel
set_option maxRecDepth 20000 in
theorem ggX5_a_X5_hasPlace : GoodIn wsX5_a wsX5_hasPlace := goodIn_r _ [6, 7, 8, 9, 10, 5, 11, 12, 13, 14, 15, 16, 17, 18, 19] (by decide +kernel) (by decide +kernel)
set_option maxRecDepth 20000 in
theorem gX5_a_X5_hasPlace : GoodIn wsX5_a (wsV RX5 60 RX5 yX5_hasPlace wsX5_hasPlace) := goodIn_app (goodIn_of _ (by decide +kernel)) ggX5_a_X5_hasPlace
theorem dX5_a_0 : decode cX5_a 0 = .ok (.aload_n 0, 1) := by decide +kernel
theorem dX5_a_1 : decode cX5_a 1 = .ok (.iload_n 1, 1) := by decide +kernel
theorem dX5_a_2 : decode cX5_a 2 = .ok (.iload_n 2, 1) := by decide +kernel
theorem dX5_a_3 : decode cX5_a 3 = .ok (.invokevirtual 60, 3) := by decide +kernel
theorem dX5_a_6 : decode cX5_a 6 = .ok (.ifCond .eq 17, 3) := by decide +kernel
theorem dX5_a_9 : decode cX5_a 9 = .ok (.aload_n 0, 1) := by decide +kernel
theorem dX5_a_10 : decode cX5_a 10 = .ok (.getfield 24, 3) := by decide +kernel
theorem dX5_a_13 : decode cX5_a 13 = .ok (.iload_n 1, 1) := by decide +kernel
theorem dX5_a_14 : decode cX5_a 14 = .ok (.bipush 24, 2) := by decide +kernel
theorem dX5_a_16 : decode cX5_a 16 = .ok (.imul, 1) := by decide +kernel
theorem dX5_a_17 : decode cX5_a 17 = .ok (.iload_n 2, 1) := by decide +kernel
theorem dX5_a_18 : decode cX5_a 18 = .ok (.iadd, 1) := by decide +kernel
theorem dX5_a_19 : decode cX5_a 19 = .ok (.iaload, 1) := by decide +kernel
theorem dX5_a_20 : decode cX5_a 20 = .ok (.goto 4, 3) := by decide +kernel
theorem dX5_a_23 : decode cX5_a 23 = .ok (.iconst 0, 1) := by decide +kernel
theorem dX5_a_24 : decode cX5_a 24 = .ok (.ireturn, 1) := by decide +kernel
set_option maxRecDepth 20000 in
theorem ggX5_b_X5_hasPlace : GoodIn wsX5_b wsX5_hasPlace := goodIn_r _ [6, 7, 8, 9, 10, 5, 11, 12, 13, 14, 15, 16, 17, 18, 19] (by decide +kernel) (by decide +kernel)
set_option maxRecDepth 20000 in
theorem gX5_b_X5_hasPlace : GoodIn wsX5_b (wsV RX5 60 RX5 yX5_hasPlace wsX5_hasPlace) := goodIn_app (goodIn_of _ (by decide +kernel)) ggX5_b_X5_hasPlace
theorem dX5_b_0 : decode cX5_b 0 = .ok (.aload_n 0, 1) := by decide +kernel
theorem dX5_b_1 : decode cX5_b 1 = .ok (.iload_n 1, 1) := by decide +kernel
theorem dX5_b_2 : decode cX5_b 2 = .ok (.iload_n 2, 1) := by decide +kernel
theorem dX5_b_3 : decode cX5_b 3 = .ok (.invokevirtual 60, 3) := by decide +kernel
theorem dX5_b_6 : decode cX5_b 6 = .ok (.ifCond .eq 17, 3) := by decide +kernel
theorem dX5_b_9 : decode cX5_b 9 = .ok (.aload_n 0, 1) := by decide +kernel
theorem dX5_b_10 : decode cX5_b 10 = .ok (.getfield 27, 3) := by decide +kernel
theorem dX5_b_13 : decode cX5_b 13 = .ok (.iload_n 1, 1) := by decide +kernel
theorem dX5_b_14 : decode cX5_b 14 = .ok (.bipush 24, 2) := by decide +kernel
theorem dX5_b_16 : decode cX5_b 16 = .ok (.imul, 1) := by decide +kernel
theorem dX5_b_17 : decode cX5_b 17 = .ok (.iload_n 2, 1) := by decide +kernel
theorem dX5_b_18 : decode cX5_b 18 = .ok (.iadd, 1) := by decide +kernel
theorem dX5_b_19 : decode cX5_b 19 = .ok (.iaload, 1) := by decide +kernel
theorem dX5_b_20 : decode cX5_b 20 = .ok (.goto 4, 3) := by decide +kernel
theorem dX5_b_23 : decode cX5_b 23 = .ok (.iconst 0, 1) := by decide +kernel
theorem dX5_b_24 : decode cX5_b 24 = .ok (.ireturn, 1) := by decide +kernel
theorem dX6_init_0 : decode cX6_init 0 = .ok (.aload_n 0, 1) := by decide +kernel
theorem dX6_init_1 : decode cX6_init 1 = .ok (.invokespecial 3, 3) := by decide +kernel
theorem dX6_init_4 : decode cX6_init 4 = .ok (.aload_n 0, 1) := by decide +kernel
theorem dX6_init_5 : decode cX6_init 5 = .ok (.iconst 0, 1) := by decide +kernel
theorem dX6_init_6 : decode cX6_init 6 = .ok (.putfield 11, 3) := by decide +kernel
theorem dX6_init_9 : decode cX6_init 9 = .ok (.aload_n 0, 1) := by decide +kernel
theorem dX6_init_10 : decode cX6_init 10 = .ok (.iconst 0, 1) := by decide +kernel
theorem dX6_init_11 : decode cX6_init 11 = .ok (.putfield 19, 3) := by decide +kernel
theorem dX6_init_14 : decode cX6_init 14 = .ok (.aload_n 0, 1) := by decide +kernel
theorem dX6_init_15 : decode cX6_init 15 = .ok (.iconst 0, 1) := by decide +kernel
theorem dX6_init_16 : decode cX6_init 16 = .ok (.putfield 22, 3) := by decide +kernel
theorem dX6_init_19 : decode cX6_init 19 = .ok (.aload_n 0, 1) := by decide +kernel
theorem dX6_init_20 : decode cX6_init 20 = .ok (.iconst 0, 1) := by decide +kernel
theorem dX6_init_21 : decode cX6_init 21 = .ok (.putfield 25, 3) := by decide +kernel
theorem dX6_init_24 : decode cX6_init 24 = .ok (.aload_n 0, 1) := by decide +kernel
theorem dX6_init_25 : decode cX6_init 25 = .ok (.iconst 0, 1) := by decide +kernel
theorem dX6_init_26 : decode cX6_init 26 = .ok (.putfield 28, 3) := by decide +kernel
theorem dX6_init_29 : decode cX6_init 29 = .ok (.aload_n 0, 1) := by decide +kernel
theorem dX6_init_30 : decode cX6_init 30 = .ok (.iconst 0, 1) := by decide +kernel
theorem dX6_init_31 : decode cX6_init 31 = .ok (.putfield 31, 3) := by decide +kernel
theorem dX6_init_34 : decode cX6_init 34 = .ok (.aload_n 0, 1) := by decide +kernel
theorem dX6_init_35 : decode cX6_init 35 = .ok (.iconst 0, 1) := by decide +kernel
theorem dX6_init_36 : decode cX6_init 36 = .ok (.putfield 34, 3) := by decide +kernel
theorem dX6_init_39 : decode cX6_init 39 = .ok (.aload_n 0, 1) := by decide +kernel
theorem dX6_init_40 : decode cX6_init 40 = .ok (.iconst 0, 1) := by decide +kernel
theorem dX6_init_41 : decode cX6_init 41 = .ok (.putfield 37, 3) := by decide +kernel
theorem dX6_init_44 : decode cX6_init 44 = .ok (.return_, 1) := by decide +kernel
theorem dX6_forget_0 : decode cX6_forget 0 = .ok (.aload_n 0, 1) := by decide +kernel
theorem dX6_forget_1 : decode cX6_forget 1 = .ok (.iconst 0, 1) := by decide +kernel
theorem dX6_forget_2 : decode cX6_forget 2 = .ok (.putfield 11, 3) := by decide +kernel
theorem dX6_forget_5 : decode cX6_forget 5 = .ok (.aload_n 0, 1) := by decide +kernel
theorem dX6_forget_6 : decode cX6_forget 6 = .ok (.iconst 0, 1) := by decide +kernel
theorem dX6_forget_7 : decode cX6_forget 7 = .ok (.putfield 19, 3) := by decide +kernel
theorem dX6_forget_10 : decode cX6_forget 10 = .ok (.aload_n 0, 1) := by decide +kernel
theorem dX6_forget_11 : decode cX6_forget 11 = .ok (.iconst 0, 1) := by decide +kernel
theorem dX6_forget_12 : decode cX6_forget 12 = .ok (.putfield 22, 3) := by decide +kernel
theorem dX6_forget_15 : decode cX6_forget 15 = .ok (.aload_n 0, 1) := by decide +kernel
theorem dX6_forget_16 : decode cX6_forget 16 = .ok (.iconst 0, 1) := by decide +kernel
theorem dX6_forget_17 : decode cX6_forget 17 = .ok (.putfield 25, 3) := by decide +kernel
theorem dX6_forget_20 : decode cX6_forget 20 = .ok (.aload_n 0, 1) := by decide +kernel
theorem dX6_forget_21 : decode cX6_forget 21 = .ok (.iconst 0, 1) := by decide +kernel
theorem dX6_forget_22 : decode cX6_forget 22 = .ok (.putfield 28, 3) := by decide +kernel
theorem dX6_forget_25 : decode cX6_forget 25 = .ok (.aload_n 0, 1) := by decide +kernel
theorem dX6_forget_26 : decode cX6_forget 26 = .ok (.iconst 0, 1) := by decide +kernel
theorem dX6_forget_27 : decode cX6_forget 27 = .ok (.putfield 31, 3) := by decide +kernel
theorem dX6_forget_30 : decode cX6_forget 30 = .ok (.aload_n 0, 1) := by decide +kernel
theorem dX6_forget_31 : decode cX6_forget 31 = .ok (.iconst 0, 1) := by decide +kernel
theorem dX6_forget_32 : decode cX6_forget 32 = .ok (.putfield 34, 3) := by decide +kernel
theorem dX6_forget_35 : decode cX6_forget 35 = .ok (.aload_n 0, 1) := by decide +kernel
theorem dX6_forget_36 : decode cX6_forget 36 = .ok (.iconst 0, 1) := by decide +kernel
theorem dX6_forget_37 : decode cX6_forget 37 = .ok (.putfield 37, 3) := by decide +kernel
theorem dX6_forget_40 : decode cX6_forget 40 = .ok (.return_, 1) := by decide +kernel
theorem dX6_answer_0 : decode cX6_answer 0 = .ok (.iload_n 1, 1) := by decide +kernel
theorem dX6_answer_1 : decode cX6_answer 1 = .ok (.tableswitch 87 0 7 #[47, 52, 57, 62, 67, 72, 77, 82], 47) := by decide +kernel
theorem dX6_answer_48 : decode cX6_answer 48 = .ok (.aload_n 0, 1) := by decide +kernel
theorem dX6_answer_49 : decode cX6_answer 49 = .ok (.getfield 11, 3) := by decide +kernel
theorem dX6_answer_52 : decode cX6_answer 52 = .ok (.ireturn, 1) := by decide +kernel
theorem dX6_answer_53 : decode cX6_answer 53 = .ok (.aload_n 0, 1) := by decide +kernel
theorem dX6_answer_54 : decode cX6_answer 54 = .ok (.getfield 19, 3) := by decide +kernel
theorem dX6_answer_57 : decode cX6_answer 57 = .ok (.ireturn, 1) := by decide +kernel
theorem dX6_answer_58 : decode cX6_answer 58 = .ok (.aload_n 0, 1) := by decide +kernel
theorem dX6_answer_59 : decode cX6_answer 59 = .ok (.getfield 22, 3) := by decide +kernel
theorem dX6_answer_62 : decode cX6_answer 62 = .ok (.ireturn, 1) := by decide +kernel
theorem dX6_answer_63 : decode cX6_answer 63 = .ok (.aload_n 0, 1) := by decide +kernel
theorem dX6_answer_64 : decode cX6_answer 64 = .ok (.getfield 25, 3) := by decide +kernel
theorem dX6_answer_67 : decode cX6_answer 67 = .ok (.ireturn, 1) := by decide +kernel
theorem dX6_answer_68 : decode cX6_answer 68 = .ok (.aload_n 0, 1) := by decide +kernel
theorem dX6_answer_69 : decode cX6_answer 69 = .ok (.getfield 28, 3) := by decide +kernel
theorem dX6_answer_72 : decode cX6_answer 72 = .ok (.ireturn, 1) := by decide +kernel
theorem dX6_answer_73 : decode cX6_answer 73 = .ok (.aload_n 0, 1) := by decide +kernel
theorem dX6_answer_74 : decode cX6_answer 74 = .ok (.getfield 31, 3) := by decide +kernel
theorem dX6_answer_77 : decode cX6_answer 77 = .ok (.ireturn, 1) := by decide +kernel
theorem dX6_answer_78 : decode cX6_answer 78 = .ok (.aload_n 0, 1) := by decide +kernel
theorem dX6_answer_79 : decode cX6_answer 79 = .ok (.getfield 34, 3) := by decide +kernel
theorem dX6_answer_82 : decode cX6_answer 82 = .ok (.ireturn, 1) := by decide +kernel
theorem dX6_answer_83 : decode cX6_answer 83 = .ok (.aload_n 0, 1) := by decide +kernel
theorem dX6_answer_84 : decode cX6_answer 84 = .ok (.getfield 37, 3) := by decide +kernel
theorem dX6_answer_87 : decode cX6_answer 87 = .ok (.ireturn, 1) := by decide +kernel
theorem dX6_answer_88 : decode cX6_answer 88 = .ok (.ldc 40, 2) := by decide +kernel
theorem dX6_answer_90 : decode cX6_answer 90 = .ok (.ireturn, 1) := by decide +kernel
theorem dX7_init_0 : decode cX7_init 0 = .ok (.aload_n 0, 1) := by decide +kernel
theorem dX7_init_1 : decode cX7_init 1 = .ok (.invokespecial 3, 3) := by decide +kernel
theorem dX7_init_4 : decode cX7_init 4 = .ok (.aload_n 0, 1) := by decide +kernel
theorem dX7_init_5 : decode cX7_init 5 = .ok (.iconst 4, 1) := by decide +kernel
theorem dX7_init_6 : decode cX7_init 6 = .ok (.newarray .int, 2) := by decide +kernel
theorem dX7_init_8 : decode cX7_init 8 = .ok (.putfield 9, 3) := by decide +kernel
theorem dX7_init_11 : decode cX7_init 11 = .ok (.aload_n 0, 1) := by decide +kernel
theorem dX7_init_12 : decode cX7_init 12 = .ok (.iconst 4, 1) := by decide +kernel
theorem dX7_init_13 : decode cX7_init 13 = .ok (.newarray .int, 2) := by decide +kernel
theorem dX7_init_15 : decode cX7_init 15 = .ok (.putfield 15, 3) := by decide +kernel
theorem dX7_init_18 : decode cX7_init 18 = .ok (.aload_n 0, 1) := by decide +kernel
theorem dX7_init_19 : decode cX7_init 19 = .ok (.bipush 40, 2) := by decide +kernel
theorem dX7_init_21 : decode cX7_init 21 = .ok (.newarray .int, 2) := by decide +kernel
theorem dX7_init_23 : decode cX7_init 23 = .ok (.putfield 18, 3) := by decide +kernel
theorem dX7_init_26 : decode cX7_init 26 = .ok (.return_, 1) := by decide +kernel
theorem dX7_has_0 : decode cX7_has 0 = .ok (.iload_n 1, 1) := by decide +kernel
theorem dX7_has_1 : decode cX7_has 1 = .ok (.ifCond .lt 12, 3) := by decide +kernel
theorem dX7_has_4 : decode cX7_has 4 = .ok (.iload_n 1, 1) := by decide +kernel
theorem dX7_has_5 : decode cX7_has 5 = .ok (.iconst 4, 1) := by decide +kernel
theorem dX7_has_6 : decode cX7_has 6 = .ok (.if_icmp .ge 7, 3) := by decide +kernel
theorem dX7_has_9 : decode cX7_has 9 = .ok (.iconst 1, 1) := by decide +kernel
theorem dX7_has_10 : decode cX7_has 10 = .ok (.goto 4, 3) := by decide +kernel
theorem dX7_has_13 : decode cX7_has 13 = .ok (.iconst 0, 1) := by decide +kernel
theorem dX7_has_14 : decode cX7_has 14 = .ok (.ireturn, 1) := by decide +kernel
set_option maxRecDepth 20000 in
theorem ggX7_count_X7_has : GoodIn wsX7_count wsX7_has := goodIn_r _ [6] (by decide +kernel) (by decide +kernel)
set_option maxRecDepth 20000 in
theorem gX7_count_X7_has : GoodIn wsX7_count (wsV RX7 21 RX7 yX7_has wsX7_has) := goodIn_app (goodIn_of _ (by decide +kernel)) ggX7_count_X7_has
theorem dX7_count_0 : decode cX7_count 0 = .ok (.aload_n 0, 1) := by decide +kernel
theorem dX7_count_1 : decode cX7_count 1 = .ok (.iload_n 1, 1) := by decide +kernel
theorem dX7_count_2 : decode cX7_count 2 = .ok (.invokevirtual 21, 3) := by decide +kernel
theorem dX7_count_5 : decode cX7_count 5 = .ok (.ifCond .eq 12, 3) := by decide +kernel
theorem dX7_count_8 : decode cX7_count 8 = .ok (.aload_n 0, 1) := by decide +kernel
theorem dX7_count_9 : decode cX7_count 9 = .ok (.getfield 15, 3) := by decide +kernel
theorem dX7_count_12 : decode cX7_count 12 = .ok (.iload_n 1, 1) := by decide +kernel
theorem dX7_count_13 : decode cX7_count 13 = .ok (.iaload, 1) := by decide +kernel
theorem dX7_count_14 : decode cX7_count 14 = .ok (.goto 4, 3) := by decide +kernel
theorem dX7_count_17 : decode cX7_count 17 = .ok (.iconst 0, 1) := by decide +kernel
theorem dX7_count_18 : decode cX7_count 18 = .ok (.ireturn, 1) := by decide +kernel
set_option maxRecDepth 20000 in
theorem ggX7_emptyWithRoom_X7_has : GoodIn wsX7_emptyWithRoom wsX7_has := goodIn_r _ [7] (by decide +kernel) (by decide +kernel)
set_option maxRecDepth 20000 in
theorem gX7_emptyWithRoom_X7_has : GoodIn wsX7_emptyWithRoom (wsV RX7 21 RX7 yX7_has wsX7_has) := goodIn_app (goodIn_of _ (by decide +kernel)) ggX7_emptyWithRoom_X7_has
theorem dX7_emptyWithRoom_0 : decode cX7_emptyWithRoom 0 = .ok (.aload_n 0, 1) := by decide +kernel
theorem dX7_emptyWithRoom_1 : decode cX7_emptyWithRoom 1 = .ok (.iload_n 1, 1) := by decide +kernel
theorem dX7_emptyWithRoom_2 : decode cX7_emptyWithRoom 2 = .ok (.invokevirtual 21, 3) := by decide +kernel
theorem dX7_emptyWithRoom_5 : decode cX7_emptyWithRoom 5 = .ok (.ifCond .ne 5, 3) := by decide +kernel
theorem dX7_emptyWithRoom_8 : decode cX7_emptyWithRoom 8 = .ok (.iconst 0, 1) := by decide +kernel
theorem dX7_emptyWithRoom_9 : decode cX7_emptyWithRoom 9 = .ok (.ireturn, 1) := by decide +kernel
theorem dX7_emptyWithRoom_10 : decode cX7_emptyWithRoom 10 = .ok (.aload_n 0, 1) := by decide +kernel
theorem dX7_emptyWithRoom_11 : decode cX7_emptyWithRoom 11 = .ok (.getfield 15, 3) := by decide +kernel
theorem dX7_emptyWithRoom_14 : decode cX7_emptyWithRoom 14 = .ok (.iload_n 1, 1) := by decide +kernel
theorem dX7_emptyWithRoom_15 : decode cX7_emptyWithRoom 15 = .ok (.iaload, 1) := by decide +kernel
theorem dX7_emptyWithRoom_16 : decode cX7_emptyWithRoom 16 = .ok (.istore_n 3, 1) := by decide +kernel
theorem dX7_emptyWithRoom_17 : decode cX7_emptyWithRoom 17 = .ok (.aload_n 0, 1) := by decide +kernel
theorem dX7_emptyWithRoom_18 : decode cX7_emptyWithRoom 18 = .ok (.getfield 15, 3) := by decide +kernel
theorem dX7_emptyWithRoom_21 : decode cX7_emptyWithRoom 21 = .ok (.iload_n 1, 1) := by decide +kernel
theorem dX7_emptyWithRoom_22 : decode cX7_emptyWithRoom 22 = .ok (.iconst 0, 1) := by decide +kernel
theorem dX7_emptyWithRoom_23 : decode cX7_emptyWithRoom 23 = .ok (.iastore, 1) := by decide +kernel
theorem dX7_emptyWithRoom_24 : decode cX7_emptyWithRoom 24 = .ok (.aload_n 0, 1) := by decide +kernel
theorem dX7_emptyWithRoom_25 : decode cX7_emptyWithRoom 25 = .ok (.getfield 9, 3) := by decide +kernel
theorem dX7_emptyWithRoom_28 : decode cX7_emptyWithRoom 28 = .ok (.iload_n 1, 1) := by decide +kernel
theorem dX7_emptyWithRoom_29 : decode cX7_emptyWithRoom 29 = .ok (.iload_n 2, 1) := by decide +kernel
theorem dX7_emptyWithRoom_30 : decode cX7_emptyWithRoom 30 = .ok (.iastore, 1) := by decide +kernel
theorem dX7_emptyWithRoom_31 : decode cX7_emptyWithRoom 31 = .ok (.iload_n 3, 1) := by decide +kernel
theorem dX7_emptyWithRoom_32 : decode cX7_emptyWithRoom 32 = .ok (.ireturn, 1) := by decide +kernel
set_option maxRecDepth 20000 in
theorem ggX7_hasNumber_X7_has : GoodIn wsX7_hasNumber wsX7_has := goodIn_r _ [6] (by decide +kernel) (by decide +kernel)
set_option maxRecDepth 20000 in
theorem gX7_hasNumber_X7_has : GoodIn wsX7_hasNumber (wsV RX7 21 RX7 yX7_has wsX7_has) := goodIn_app (goodIn_of _ (by decide +kernel)) ggX7_hasNumber_X7_has
theorem dX7_hasNumber_0 : decode cX7_hasNumber 0 = .ok (.aload_n 0, 1) := by decide +kernel
theorem dX7_hasNumber_1 : decode cX7_hasNumber 1 = .ok (.iload_n 1, 1) := by decide +kernel
theorem dX7_hasNumber_2 : decode cX7_hasNumber 2 = .ok (.invokevirtual 21, 3) := by decide +kernel
theorem dX7_hasNumber_5 : decode cX7_hasNumber 5 = .ok (.ifCond .eq 21, 3) := by decide +kernel
theorem dX7_hasNumber_8 : decode cX7_hasNumber 8 = .ok (.iload_n 2, 1) := by decide +kernel
theorem dX7_hasNumber_9 : decode cX7_hasNumber 9 = .ok (.ifCond .lt 17, 3) := by decide +kernel
theorem dX7_hasNumber_12 : decode cX7_hasNumber 12 = .ok (.iload_n 2, 1) := by decide +kernel
theorem dX7_hasNumber_13 : decode cX7_hasNumber 13 = .ok (.aload_n 0, 1) := by decide +kernel
theorem dX7_hasNumber_14 : decode cX7_hasNumber 14 = .ok (.getfield 15, 3) := by decide +kernel
theorem dX7_hasNumber_17 : decode cX7_hasNumber 17 = .ok (.iload_n 1, 1) := by decide +kernel
theorem dX7_hasNumber_18 : decode cX7_hasNumber 18 = .ok (.iaload, 1) := by decide +kernel
theorem dX7_hasNumber_19 : decode cX7_hasNumber 19 = .ok (.if_icmp .ge 7, 3) := by decide +kernel
theorem dX7_hasNumber_22 : decode cX7_hasNumber 22 = .ok (.iconst 1, 1) := by decide +kernel
theorem dX7_hasNumber_23 : decode cX7_hasNumber 23 = .ok (.goto 4, 3) := by decide +kernel
theorem dX7_hasNumber_26 : decode cX7_hasNumber 26 = .ok (.iconst 0, 1) := by decide +kernel
theorem dX7_hasNumber_27 : decode cX7_hasNumber 27 = .ok (.ireturn, 1) := by decide +kernel
set_option maxRecDepth 20000 in
theorem ggX7_fromTop_X7_hasNumber : GoodIn wsX7_fromTop wsX7_hasNumber := goodIn_r _ [7, 2, 8, 9, 10, 6, 11, 12, 13, 14] (by decide +kernel) (by decide +kernel)
set_option maxRecDepth 20000 in
theorem gX7_fromTop_X7_hasNumber : GoodIn wsX7_fromTop (wsV RX7 25 RX7 yX7_hasNumber wsX7_hasNumber) := goodIn_app (goodIn_of _ (by decide +kernel)) ggX7_fromTop_X7_hasNumber
theorem dX7_fromTop_0 : decode cX7_fromTop 0 = .ok (.aload_n 0, 1) := by decide +kernel
theorem dX7_fromTop_1 : decode cX7_fromTop 1 = .ok (.iload_n 1, 1) := by decide +kernel
theorem dX7_fromTop_2 : decode cX7_fromTop 2 = .ok (.iload_n 2, 1) := by decide +kernel
theorem dX7_fromTop_3 : decode cX7_fromTop 3 = .ok (.invokevirtual 25, 3) := by decide +kernel
theorem dX7_fromTop_6 : decode cX7_fromTop 6 = .ok (.ifCond .eq 26, 3) := by decide +kernel
theorem dX7_fromTop_9 : decode cX7_fromTop 9 = .ok (.aload_n 0, 1) := by decide +kernel
theorem dX7_fromTop_10 : decode cX7_fromTop 10 = .ok (.getfield 18, 3) := by decide +kernel
theorem dX7_fromTop_13 : decode cX7_fromTop 13 = .ok (.iload_n 1, 1) := by decide +kernel
theorem dX7_fromTop_14 : decode cX7_fromTop 14 = .ok (.bipush 10, 2) := by decide +kernel
theorem dX7_fromTop_16 : decode cX7_fromTop 16 = .ok (.imul, 1) := by decide +kernel
theorem dX7_fromTop_17 : decode cX7_fromTop 17 = .ok (.aload_n 0, 1) := by decide +kernel
theorem dX7_fromTop_18 : decode cX7_fromTop 18 = .ok (.getfield 15, 3) := by decide +kernel
theorem dX7_fromTop_21 : decode cX7_fromTop 21 = .ok (.iload_n 1, 1) := by decide +kernel
theorem dX7_fromTop_22 : decode cX7_fromTop 22 = .ok (.iaload, 1) := by decide +kernel
theorem dX7_fromTop_23 : decode cX7_fromTop 23 = .ok (.iadd, 1) := by decide +kernel
theorem dX7_fromTop_24 : decode cX7_fromTop 24 = .ok (.iconst 1, 1) := by decide +kernel
theorem dX7_fromTop_25 : decode cX7_fromTop 25 = .ok (.isub, 1) := by decide +kernel
theorem dX7_fromTop_26 : decode cX7_fromTop 26 = .ok (.iload_n 2, 1) := by decide +kernel
theorem dX7_fromTop_27 : decode cX7_fromTop 27 = .ok (.isub, 1) := by decide +kernel
theorem dX7_fromTop_28 : decode cX7_fromTop 28 = .ok (.iaload, 1) := by decide +kernel
theorem dX7_fromTop_29 : decode cX7_fromTop 29 = .ok (.goto 4, 3) := by decide +kernel
theorem dX7_fromTop_32 : decode cX7_fromTop 32 = .ok (.iconst 0, 1) := by decide +kernel
theorem dX7_fromTop_33 : decode cX7_fromTop 33 = .ok (.ireturn, 1) := by decide +kernel
set_option maxRecDepth 20000 in
theorem ggX7_put_X7_has : GoodIn wsX7_put wsX7_has := goodIn_r _ [8] (by decide +kernel) (by decide +kernel)
set_option maxRecDepth 20000 in
theorem gX7_put_X7_has : GoodIn wsX7_put (wsV RX7 21 RX7 yX7_has wsX7_has) := goodIn_app (goodIn_of _ (by decide +kernel)) ggX7_put_X7_has
theorem dX7_put_0 : decode cX7_put 0 = .ok (.aload_n 0, 1) := by decide +kernel
theorem dX7_put_1 : decode cX7_put 1 = .ok (.iload_n 1, 1) := by decide +kernel
theorem dX7_put_2 : decode cX7_put 2 = .ok (.invokevirtual 21, 3) := by decide +kernel
theorem dX7_put_5 : decode cX7_put 5 = .ok (.ifCond .eq 18, 3) := by decide +kernel
theorem dX7_put_8 : decode cX7_put 8 = .ok (.aload_n 0, 1) := by decide +kernel
theorem dX7_put_9 : decode cX7_put 9 = .ok (.getfield 15, 3) := by decide +kernel
theorem dX7_put_12 : decode cX7_put 12 = .ok (.iload_n 1, 1) := by decide +kernel
theorem dX7_put_13 : decode cX7_put 13 = .ok (.iaload, 1) := by decide +kernel
theorem dX7_put_14 : decode cX7_put 14 = .ok (.aload_n 0, 1) := by decide +kernel
theorem dX7_put_15 : decode cX7_put 15 = .ok (.getfield 9, 3) := by decide +kernel
theorem dX7_put_18 : decode cX7_put 18 = .ok (.iload_n 1, 1) := by decide +kernel
theorem dX7_put_19 : decode cX7_put 19 = .ok (.iaload, 1) := by decide +kernel
theorem dX7_put_20 : decode cX7_put 20 = .ok (.if_icmp .lt 5, 3) := by decide +kernel
theorem dX7_put_23 : decode cX7_put 23 = .ok (.iconst 0, 1) := by decide +kernel
theorem dX7_put_24 : decode cX7_put 24 = .ok (.ireturn, 1) := by decide +kernel
theorem dX7_put_25 : decode cX7_put 25 = .ok (.aload_n 0, 1) := by decide +kernel
theorem dX7_put_26 : decode cX7_put 26 = .ok (.getfield 18, 3) := by decide +kernel
theorem dX7_put_29 : decode cX7_put 29 = .ok (.iload_n 1, 1) := by decide +kernel
theorem dX7_put_30 : decode cX7_put 30 = .ok (.bipush 10, 2) := by decide +kernel
theorem dX7_put_32 : decode cX7_put 32 = .ok (.imul, 1) := by decide +kernel
theorem dX7_put_33 : decode cX7_put 33 = .ok (.aload_n 0, 1) := by decide +kernel
theorem dX7_put_34 : decode cX7_put 34 = .ok (.getfield 15, 3) := by decide +kernel
theorem dX7_put_37 : decode cX7_put 37 = .ok (.iload_n 1, 1) := by decide +kernel
theorem dX7_put_38 : decode cX7_put 38 = .ok (.iaload, 1) := by decide +kernel
theorem dX7_put_39 : decode cX7_put 39 = .ok (.iadd, 1) := by decide +kernel
theorem dX7_put_40 : decode cX7_put 40 = .ok (.iload_n 2, 1) := by decide +kernel
theorem dX7_put_41 : decode cX7_put 41 = .ok (.iastore, 1) := by decide +kernel
theorem dX7_put_42 : decode cX7_put 42 = .ok (.aload_n 0, 1) := by decide +kernel
theorem dX7_put_43 : decode cX7_put 43 = .ok (.getfield 15, 3) := by decide +kernel
theorem dX7_put_46 : decode cX7_put 46 = .ok (.iload_n 1, 1) := by decide +kernel
theorem dX7_put_47 : decode cX7_put 47 = .ok (.dup2, 1) := by decide +kernel
theorem dX7_put_48 : decode cX7_put 48 = .ok (.iaload, 1) := by decide +kernel
theorem dX7_put_49 : decode cX7_put 49 = .ok (.iconst 1, 1) := by decide +kernel
theorem dX7_put_50 : decode cX7_put 50 = .ok (.iadd, 1) := by decide +kernel
theorem dX7_put_51 : decode cX7_put 51 = .ok (.iastore, 1) := by decide +kernel
theorem dX7_put_52 : decode cX7_put 52 = .ok (.iconst 1, 1) := by decide +kernel
theorem dX7_put_53 : decode cX7_put 53 = .ok (.ireturn, 1) := by decide +kernel
set_option maxRecDepth 20000 in
theorem ggX7_take_X7_has : GoodIn wsX7_take wsX7_has := goodIn_r _ [7] (by decide +kernel) (by decide +kernel)
set_option maxRecDepth 20000 in
theorem gX7_take_X7_has : GoodIn wsX7_take (wsV RX7 21 RX7 yX7_has wsX7_has) := goodIn_app (goodIn_of _ (by decide +kernel)) ggX7_take_X7_has
theorem dX7_take_0 : decode cX7_take 0 = .ok (.aload_n 0, 1) := by decide +kernel
theorem dX7_take_1 : decode cX7_take 1 = .ok (.iload_n 1, 1) := by decide +kernel
theorem dX7_take_2 : decode cX7_take 2 = .ok (.invokevirtual 21, 3) := by decide +kernel
theorem dX7_take_5 : decode cX7_take 5 = .ok (.ifCond .eq 13, 3) := by decide +kernel
theorem dX7_take_8 : decode cX7_take 8 = .ok (.aload_n 0, 1) := by decide +kernel
theorem dX7_take_9 : decode cX7_take 9 = .ok (.getfield 15, 3) := by decide +kernel
theorem dX7_take_12 : decode cX7_take 12 = .ok (.iload_n 1, 1) := by decide +kernel
theorem dX7_take_13 : decode cX7_take 13 = .ok (.iaload, 1) := by decide +kernel
theorem dX7_take_14 : decode cX7_take 14 = .ok (.iconst 1, 1) := by decide +kernel
theorem dX7_take_15 : decode cX7_take 15 = .ok (.if_icmp .ge 5, 3) := by decide +kernel
theorem dX7_take_18 : decode cX7_take 18 = .ok (.iconst 0, 1) := by decide +kernel
theorem dX7_take_19 : decode cX7_take 19 = .ok (.ireturn, 1) := by decide +kernel
theorem dX7_take_20 : decode cX7_take 20 = .ok (.aload_n 0, 1) := by decide +kernel
theorem dX7_take_21 : decode cX7_take 21 = .ok (.getfield 15, 3) := by decide +kernel
theorem dX7_take_24 : decode cX7_take 24 = .ok (.iload_n 1, 1) := by decide +kernel
theorem dX7_take_25 : decode cX7_take 25 = .ok (.dup2, 1) := by decide +kernel
theorem dX7_take_26 : decode cX7_take 26 = .ok (.iaload, 1) := by decide +kernel
theorem dX7_take_27 : decode cX7_take 27 = .ok (.iconst 1, 1) := by decide +kernel
theorem dX7_take_28 : decode cX7_take 28 = .ok (.isub, 1) := by decide +kernel
theorem dX7_take_29 : decode cX7_take 29 = .ok (.iastore, 1) := by decide +kernel
theorem dX7_take_30 : decode cX7_take 30 = .ok (.aload_n 0, 1) := by decide +kernel
theorem dX7_take_31 : decode cX7_take 31 = .ok (.getfield 18, 3) := by decide +kernel
theorem dX7_take_34 : decode cX7_take 34 = .ok (.iload_n 1, 1) := by decide +kernel
theorem dX7_take_35 : decode cX7_take 35 = .ok (.bipush 10, 2) := by decide +kernel
theorem dX7_take_37 : decode cX7_take 37 = .ok (.imul, 1) := by decide +kernel
theorem dX7_take_38 : decode cX7_take 38 = .ok (.aload_n 0, 1) := by decide +kernel
theorem dX7_take_39 : decode cX7_take 39 = .ok (.getfield 15, 3) := by decide +kernel
theorem dX7_take_42 : decode cX7_take 42 = .ok (.iload_n 1, 1) := by decide +kernel
theorem dX7_take_43 : decode cX7_take 43 = .ok (.iaload, 1) := by decide +kernel
theorem dX7_take_44 : decode cX7_take 44 = .ok (.iadd, 1) := by decide +kernel
theorem dX7_take_45 : decode cX7_take 45 = .ok (.iaload, 1) := by decide +kernel
theorem dX7_take_46 : decode cX7_take 46 = .ok (.ireturn, 1) := by decide +kernel
