theorem dX9_init_0 : decode cX9_init 0 = .ok (.aload_n 0, 1) := by decide +kernel
theorem dX9_init_1 : decode cX9_init 1 = .ok (.invokespecial 1, 3) := by decide +kernel
theorem dX9_init_4 : decode cX9_init 4 = .ok (.aload_n 0, 1) := by decide +kernel
theorem dX9_init_5 : decode cX9_init 5 = .ok (.bipush 20, 2) := by decide +kernel
theorem dX9_init_7 : decode cX9_init 7 = .ok (.newarray .int, 2) := by decide +kernel
theorem dX9_init_9 : decode cX9_init 9 = .ok (.putfield 7, 3) := by decide +kernel
theorem dX9_init_12 : decode cX9_init 12 = .ok (.aload_n 0, 1) := by decide +kernel
theorem dX9_init_13 : decode cX9_init 13 = .ok (.sipush 300, 3) := by decide +kernel
theorem dX9_init_16 : decode cX9_init 16 = .ok (.newarray .int, 2) := by decide +kernel
theorem dX9_init_18 : decode cX9_init 18 = .ok (.putfield 13, 3) := by decide +kernel
theorem dX9_init_21 : decode cX9_init 21 = .ok (.aload_n 0, 1) := by decide +kernel
theorem dX9_init_22 : decode cX9_init 22 = .ok (.bipush 20, 2) := by decide +kernel
theorem dX9_init_24 : decode cX9_init 24 = .ok (.newarray .int, 2) := by decide +kernel
theorem dX9_init_26 : decode cX9_init 26 = .ok (.putfield 16, 3) := by decide +kernel
theorem dX9_init_29 : decode cX9_init 29 = .ok (.aload_n 0, 1) := by decide +kernel
theorem dX9_init_30 : decode cX9_init 30 = .ok (.sipush 480, 3) := by decide +kernel
theorem dX9_init_33 : decode cX9_init 33 = .ok (.newarray .int, 2) := by decide +kernel
theorem dX9_init_35 : decode cX9_init 35 = .ok (.putfield 19, 3) := by decide +kernel
theorem dX9_init_38 : decode cX9_init 38 = .ok (.aload_n 0, 1) := by decide +kernel
theorem dX9_init_39 : decode cX9_init 39 = .ok (.sipush 480, 3) := by decide +kernel
theorem dX9_init_42 : decode cX9_init 42 = .ok (.newarray .int, 2) := by decide +kernel
theorem dX9_init_44 : decode cX9_init 44 = .ok (.putfield 22, 3) := by decide +kernel
theorem dX9_init_47 : decode cX9_init 47 = .ok (.aload_n 0, 1) := by decide +kernel
theorem dX9_init_48 : decode cX9_init 48 = .ok (.sipush 480, 3) := by decide +kernel
theorem dX9_init_51 : decode cX9_init 51 = .ok (.newarray .int, 2) := by decide +kernel
theorem dX9_init_53 : decode cX9_init 53 = .ok (.putfield 25, 3) := by decide +kernel
theorem dX9_init_56 : decode cX9_init 56 = .ok (.aload_n 0, 1) := by decide +kernel
theorem dX9_init_57 : decode cX9_init 57 = .ok (.iconst 4, 1) := by decide +kernel
theorem dX9_init_58 : decode cX9_init 58 = .ok (.newarray .int, 2) := by decide +kernel
theorem dX9_init_60 : decode cX9_init 60 = .ok (.putfield 28, 3) := by decide +kernel
theorem dX9_init_63 : decode cX9_init 63 = .ok (.aload_n 0, 1) := by decide +kernel
theorem dX9_init_64 : decode cX9_init 64 = .ok (.iconst 4, 1) := by decide +kernel
theorem dX9_init_65 : decode cX9_init 65 = .ok (.newarray .int, 2) := by decide +kernel
theorem dX9_init_67 : decode cX9_init 67 = .ok (.putfield 31, 3) := by decide +kernel
theorem dX9_init_70 : decode cX9_init 70 = .ok (.aload_n 0, 1) := by decide +kernel
theorem dX9_init_71 : decode cX9_init 71 = .ok (.bipush 40, 2) := by decide +kernel
theorem dX9_init_73 : decode cX9_init 73 = .ok (.newarray .int, 2) := by decide +kernel
theorem dX9_init_75 : decode cX9_init 75 = .ok (.putfield 34, 3) := by decide +kernel
theorem dX9_init_78 : decode cX9_init 78 = .ok (.aload_n 0, 1) := by decide +kernel
theorem dX9_init_79 : decode cX9_init 79 = .ok (.iconst (-1), 1) := by decide +kernel
theorem dX9_init_80 : decode cX9_init 80 = .ok (.putfield 37, 3) := by decide +kernel
theorem dX9_init_83 : decode cX9_init 83 = .ok (.aload_n 0, 1) := by decide +kernel
theorem dX9_init_84 : decode cX9_init 84 = .ok (.iconst 1, 1) := by decide +kernel
theorem dX9_init_85 : decode cX9_init 85 = .ok (.putfield 41, 3) := by decide +kernel
theorem dX9_init_88 : decode cX9_init 88 = .ok (.aload_n 0, 1) := by decide +kernel
theorem dX9_init_89 : decode cX9_init 89 = .ok (.bipush 15, 2) := by decide +kernel
theorem dX9_init_91 : decode cX9_init 91 = .ok (.newarray .int, 2) := by decide +kernel
theorem dX9_init_93 : decode cX9_init 93 = .ok (.putfield 44, 3) := by decide +kernel
theorem dX9_init_96 : decode cX9_init 96 = .ok (.aload_n 0, 1) := by decide +kernel
theorem dX9_init_97 : decode cX9_init 97 = .ok (.bipush 25, 2) := by decide +kernel
theorem dX9_init_99 : decode cX9_init 99 = .ok (.newarray .int, 2) := by decide +kernel
theorem dX9_init_101 : decode cX9_init 101 = .ok (.putfield 47, 3) := by decide +kernel
theorem dX9_init_104 : decode cX9_init 104 = .ok (.aload_n 0, 1) := by decide +kernel
theorem dX9_init_105 : decode cX9_init 105 = .ok (.bipush 25, 2) := by decide +kernel
theorem dX9_init_107 : decode cX9_init 107 = .ok (.newarray .int, 2) := by decide +kernel
theorem dX9_init_109 : decode cX9_init 109 = .ok (.putfield 50, 3) := by decide +kernel
theorem dX9_init_112 : decode cX9_init 112 = .ok (.aload_n 0, 1) := by decide +kernel
theorem dX9_init_113 : decode cX9_init 113 = .ok (.bipush 25, 2) := by decide +kernel
theorem dX9_init_115 : decode cX9_init 115 = .ok (.newarray .int, 2) := by decide +kernel
theorem dX9_init_117 : decode cX9_init 117 = .ok (.putfield 53, 3) := by decide +kernel
theorem dX9_init_120 : decode cX9_init 120 = .ok (.aload_n 0, 1) := by decide +kernel
theorem dX9_init_121 : decode cX9_init 121 = .ok (.bipush 25, 2) := by decide +kernel
theorem dX9_init_123 : decode cX9_init 123 = .ok (.newarray .int, 2) := by decide +kernel
theorem dX9_init_125 : decode cX9_init 125 = .ok (.putfield 56, 3) := by decide +kernel
theorem dX9_init_128 : decode cX9_init 128 = .ok (.aload_n 0, 1) := by decide +kernel
theorem dX9_init_129 : decode cX9_init 129 = .ok (.sipush 375, 3) := by decide +kernel
theorem dX9_init_132 : decode cX9_init 132 = .ok (.newarray .int, 2) := by decide +kernel
theorem dX9_init_134 : decode cX9_init 134 = .ok (.putfield 59, 3) := by decide +kernel
theorem dX9_init_137 : decode cX9_init 137 = .ok (.aload_n 0, 1) := by decide +kernel
theorem dX9_init_138 : decode cX9_init 138 = .ok (.bipush 61, 2) := by decide +kernel
theorem dX9_init_140 : decode cX9_init 140 = .ok (.newarray .int, 2) := by decide +kernel
theorem dX9_init_142 : decode cX9_init 142 = .ok (.putfield 62, 3) := by decide +kernel
theorem dX9_init_145 : decode cX9_init 145 = .ok (.return_, 1) := by decide +kernel
theorem dX9_in_0 : decode cX9_in 0 = .ok (.iload_n 0, 1) := by decide +kernel
theorem dX9_in_1 : decode cX9_in 1 = .ok (.iload_n 1, 1) := by decide +kernel
theorem dX9_in_2 : decode cX9_in 2 = .ok (.if_icmp .lt 12, 3) := by decide +kernel
theorem dX9_in_5 : decode cX9_in 5 = .ok (.iload_n 0, 1) := by decide +kernel
theorem dX9_in_6 : decode cX9_in 6 = .ok (.iload_n 2, 1) := by decide +kernel
theorem dX9_in_7 : decode cX9_in 7 = .ok (.if_icmp .gt 7, 3) := by decide +kernel
theorem dX9_in_10 : decode cX9_in 10 = .ok (.iconst 1, 1) := by decide +kernel
theorem dX9_in_11 : decode cX9_in 11 = .ok (.goto 4, 3) := by decide +kernel
theorem dX9_in_14 : decode cX9_in 14 = .ok (.iconst 0, 1) := by decide +kernel
theorem dX9_in_15 : decode cX9_in 15 = .ok (.ireturn, 1) := by decide +kernel
set_option maxRecDepth 20000 in
theorem ggX9_isRoutine_X9_in : GoodIn wsX9_isRoutine wsX9_in := goodIn_r _ [5] (by decide +kernel) (by decide +kernel)
set_option maxRecDepth 20000 in
theorem gX9_isRoutine_X9_in : GoodIn wsX9_isRoutine (va_wsS RX9 68 yX9_in wsX9_in) := goodIn_app (goodIn_of _ (by decide +kernel)) ggX9_isRoutine_X9_in
theorem dX9_isRoutine_0 : decode cX9_isRoutine 0 = .ok (.iload_n 1, 1) := by decide +kernel
theorem dX9_isRoutine_1 : decode cX9_isRoutine 1 = .ok (.iconst 0, 1) := by decide +kernel
theorem dX9_isRoutine_2 : decode cX9_isRoutine 2 = .ok (.aload_n 0, 1) := by decide +kernel
theorem dX9_isRoutine_3 : decode cX9_isRoutine 3 = .ok (.getfield 65, 3) := by decide +kernel
theorem dX9_isRoutine_6 : decode cX9_isRoutine 6 = .ok (.iconst 1, 1) := by decide +kernel
theorem dX9_isRoutine_7 : decode cX9_isRoutine 7 = .ok (.isub, 1) := by decide +kernel
theorem dX9_isRoutine_8 : decode cX9_isRoutine 8 = .ok (.invokestatic 68, 3) := by decide +kernel
theorem dX9_isRoutine_11 : decode cX9_isRoutine 11 = .ok (.ireturn, 1) := by decide +kernel
set_option maxRecDepth 20000 in
theorem ggX9_routine_X9_in : GoodIn wsX9_routine wsX9_in := goodIn_r _ [8] (by decide +kernel) (by decide +kernel)
set_option maxRecDepth 20000 in
theorem gX9_routine_X9_in : GoodIn wsX9_routine (va_wsS RX9 68 yX9_in wsX9_in) := goodIn_app (goodIn_of _ (by decide +kernel)) ggX9_routine_X9_in
theorem dX9_routine_0 : decode cX9_routine 0 = .ok (.iload_n 1, 1) := by decide +kernel
theorem dX9_routine_1 : decode cX9_routine 1 = .ok (.iconst 0, 1) := by decide +kernel
theorem dX9_routine_2 : decode cX9_routine 2 = .ok (.bipush 15, 2) := by decide +kernel
theorem dX9_routine_4 : decode cX9_routine 4 = .ok (.invokestatic 68, 3) := by decide +kernel
theorem dX9_routine_7 : decode cX9_routine 7 = .ok (.ifCond .ne 6, 3) := by decide +kernel
theorem dX9_routine_10 : decode cX9_routine 10 = .ok (.ldc 72, 2) := by decide +kernel
theorem dX9_routine_12 : decode cX9_routine 12 = .ok (.ireturn, 1) := by decide +kernel
theorem dX9_routine_13 : decode cX9_routine 13 = .ok (.aload_n 0, 1) := by decide +kernel
theorem dX9_routine_14 : decode cX9_routine 14 = .ok (.getfield 65, 3) := by decide +kernel
theorem dX9_routine_17 : decode cX9_routine 17 = .ok (.bipush 20, 2) := by decide +kernel
theorem dX9_routine_19 : decode cX9_routine 19 = .ok (.if_icmp .ne 6, 3) := by decide +kernel
theorem dX9_routine_22 : decode cX9_routine 22 = .ok (.ldc 73, 2) := by decide +kernel
theorem dX9_routine_24 : decode cX9_routine 24 = .ok (.ireturn, 1) := by decide +kernel
theorem dX9_routine_25 : decode cX9_routine 25 = .ok (.aload_n 0, 1) := by decide +kernel
theorem dX9_routine_26 : decode cX9_routine 26 = .ok (.getfield 7, 3) := by decide +kernel
theorem dX9_routine_29 : decode cX9_routine 29 = .ok (.aload_n 0, 1) := by decide +kernel
theorem dX9_routine_30 : decode cX9_routine 30 = .ok (.getfield 65, 3) := by decide +kernel
theorem dX9_routine_33 : decode cX9_routine 33 = .ok (.iload_n 1, 1) := by decide +kernel
theorem dX9_routine_34 : decode cX9_routine 34 = .ok (.iastore, 1) := by decide +kernel
theorem dX9_routine_35 : decode cX9_routine 35 = .ok (.aload_n 0, 1) := by decide +kernel
theorem dX9_routine_36 : decode cX9_routine 36 = .ok (.dup, 1) := by decide +kernel
theorem dX9_routine_37 : decode cX9_routine 37 = .ok (.getfield 65, 3) := by decide +kernel
theorem dX9_routine_40 : decode cX9_routine 40 = .ok (.iconst 1, 1) := by decide +kernel
theorem dX9_routine_41 : decode cX9_routine 41 = .ok (.iadd, 1) := by decide +kernel
theorem dX9_routine_42 : decode cX9_routine 42 = .ok (.putfield 65, 3) := by decide +kernel
theorem dX9_routine_45 : decode cX9_routine 45 = .ok (.aload_n 0, 1) := by decide +kernel
theorem dX9_routine_46 : decode cX9_routine 46 = .ok (.getfield 65, 3) := by decide +kernel
theorem dX9_routine_49 : decode cX9_routine 49 = .ok (.iconst 1, 1) := by decide +kernel
theorem dX9_routine_50 : decode cX9_routine 50 = .ok (.isub, 1) := by decide +kernel
theorem dX9_routine_51 : decode cX9_routine 51 = .ok (.ireturn, 1) := by decide +kernel
set_option maxRecDepth 20000 in
theorem ggX9_first_X9_isRoutine : GoodIn wsX9_first wsX9_isRoutine := goodIn_r _ [8, 9, 10, 11, 7, 12, 13, 14, 15, 16, 17, 18, 19, 20, 21, 22, 23, 24, 25, 26, 27, 28, 29, 30, 31, 32, 33, 34, 35, 36, 37, 38, 39, 40, 41, 42, 43, 44, 45, 46, 47] (by decide +kernel) (by decide +kernel)
set_option maxRecDepth 20000 in
theorem gX9_first_X9_isRoutine : GoodIn wsX9_first (wsV RX9 74 RX9 yX9_isRoutine wsX9_isRoutine) := goodIn_app (goodIn_of _ (by decide +kernel)) ggX9_first_X9_isRoutine
set_option maxRecDepth 20000 in
theorem ggX9_first_X9_in : GoodIn wsX9_first wsX9_in := goodIn_r _ [12] (by decide +kernel) (by decide +kernel)
set_option maxRecDepth 20000 in
theorem gX9_first_X9_in : GoodIn wsX9_first (va_wsS RX9 68 yX9_in wsX9_in) := goodIn_app (goodIn_of _ (by decide +kernel)) ggX9_first_X9_in
theorem dX9_first_0 : decode cX9_first 0 = .ok (.aload_n 0, 1) := by decide +kernel
theorem dX9_first_1 : decode cX9_first 1 = .ok (.iload_n 1, 1) := by decide +kernel
theorem dX9_first_2 : decode cX9_first 2 = .ok (.invokevirtual 74, 3) := by decide +kernel
theorem dX9_first_5 : decode cX9_first 5 = .ok (.ifCond .eq 19, 3) := by decide +kernel
theorem dX9_first_8 : decode cX9_first 8 = .ok (.iload_n 2, 1) := by decide +kernel
theorem dX9_first_9 : decode cX9_first 9 = .ok (.iconst 0, 1) := by decide +kernel
theorem dX9_first_10 : decode cX9_first 10 = .ok (.aload_n 0, 1) := by decide +kernel
theorem dX9_first_11 : decode cX9_first 11 = .ok (.getfield 7, 3) := by decide +kernel
theorem dX9_first_14 : decode cX9_first 14 = .ok (.iload_n 1, 1) := by decide +kernel
theorem dX9_first_15 : decode cX9_first 15 = .ok (.iaload, 1) := by decide +kernel
theorem dX9_first_16 : decode cX9_first 16 = .ok (.iconst 1, 1) := by decide +kernel
theorem dX9_first_17 : decode cX9_first 17 = .ok (.isub, 1) := by decide +kernel
theorem dX9_first_18 : decode cX9_first 18 = .ok (.invokestatic 68, 3) := by decide +kernel
theorem dX9_first_21 : decode cX9_first 21 = .ok (.ifCond .ne 6, 3) := by decide +kernel
theorem dX9_first_24 : decode cX9_first 24 = .ok (.ldc 72, 2) := by decide +kernel
theorem dX9_first_26 : decode cX9_first 26 = .ok (.ireturn, 1) := by decide +kernel
theorem dX9_first_27 : decode cX9_first 27 = .ok (.aload_n 0, 1) := by decide +kernel
theorem dX9_first_28 : decode cX9_first 28 = .ok (.getfield 13, 3) := by decide +kernel
theorem dX9_first_31 : decode cX9_first 31 = .ok (.bipush 15, 2) := by decide +kernel
theorem dX9_first_33 : decode cX9_first 33 = .ok (.iload_n 1, 1) := by decide +kernel
theorem dX9_first_34 : decode cX9_first 34 = .ok (.imul, 1) := by decide +kernel
theorem dX9_first_35 : decode cX9_first 35 = .ok (.iload_n 2, 1) := by decide +kernel
theorem dX9_first_36 : decode cX9_first 36 = .ok (.iadd, 1) := by decide +kernel
theorem dX9_first_37 : decode cX9_first 37 = .ok (.iload_n 3, 1) := by decide +kernel
theorem dX9_first_38 : decode cX9_first 38 = .ok (.i2s, 1) := by decide +kernel
theorem dX9_first_39 : decode cX9_first 39 = .ok (.iastore, 1) := by decide +kernel
theorem dX9_first_40 : decode cX9_first 40 = .ok (.iconst 1, 1) := by decide +kernel
theorem dX9_first_41 : decode cX9_first 41 = .ok (.ireturn, 1) := by decide +kernel
set_option maxRecDepth 20000 in
theorem ggX9_add_X9_isRoutine : GoodIn wsX9_add wsX9_isRoutine := goodIn_r _ [11, 12, 13, 14, 10, 15, 16, 17, 18, 19, 20, 21, 22, 23, 24, 25, 26, 27, 28, 29, 30, 31, 32, 33, 34, 35, 36, 37, 38, 39, 40, 41, 42, 43, 44, 45, 46, 47, 48, 49, 50] (by decide +kernel) (by decide +kernel)
set_option maxRecDepth 20000 in
theorem gX9_add_X9_isRoutine : GoodIn wsX9_add (wsV RX9 74 RX9 yX9_isRoutine wsX9_isRoutine) := goodIn_app (goodIn_of _ (by decide +kernel)) ggX9_add_X9_isRoutine
theorem dX9_add_0 : decode cX9_add 0 = .ok (.aload_n 0, 1) := by decide +kernel
theorem dX9_add_1 : decode cX9_add 1 = .ok (.iload_n 1, 1) := by decide +kernel
theorem dX9_add_2 : decode cX9_add 2 = .ok (.invokevirtual 74, 3) := by decide +kernel
theorem dX9_add_5 : decode cX9_add 5 = .ok (.ifCond .ne 6, 3) := by decide +kernel
theorem dX9_add_8 : decode cX9_add 8 = .ok (.ldc 72, 2) := by decide +kernel
theorem dX9_add_10 : decode cX9_add 10 = .ok (.ireturn, 1) := by decide +kernel
theorem dX9_add_11 : decode cX9_add 11 = .ok (.aload_n 0, 1) := by decide +kernel
theorem dX9_add_12 : decode cX9_add 12 = .ok (.getfield 16, 3) := by decide +kernel
theorem dX9_add_15 : decode cX9_add 15 = .ok (.iload_n 1, 1) := by decide +kernel
theorem dX9_add_16 : decode cX9_add 16 = .ok (.iaload, 1) := by decide +kernel
theorem dX9_add_17 : decode cX9_add 17 = .ok (.bipush 24, 2) := by decide +kernel
theorem dX9_add_19 : decode cX9_add 19 = .ok (.if_icmp .ne 6, 3) := by decide +kernel
theorem dX9_add_22 : decode cX9_add 22 = .ok (.ldc 73, 2) := by decide +kernel
theorem dX9_add_24 : decode cX9_add 24 = .ok (.ireturn, 1) := by decide +kernel
theorem dX9_add_25 : decode cX9_add 25 = .ok (.bipush 24, 2) := by decide +kernel
theorem dX9_add_27 : decode cX9_add 27 = .ok (.iload_n 1, 1) := by decide +kernel
theorem dX9_add_28 : decode cX9_add 28 = .ok (.imul, 1) := by decide +kernel
theorem dX9_add_29 : decode cX9_add 29 = .ok (.aload_n 0, 1) := by decide +kernel
theorem dX9_add_30 : decode cX9_add 30 = .ok (.getfield 16, 3) := by decide +kernel
theorem dX9_add_33 : decode cX9_add 33 = .ok (.iload_n 1, 1) := by decide +kernel
theorem dX9_add_34 : decode cX9_add 34 = .ok (.iaload, 1) := by decide +kernel
theorem dX9_add_35 : decode cX9_add 35 = .ok (.iadd, 1) := by decide +kernel
theorem dX9_add_36 : decode cX9_add 36 = .ok (.istore 5, 2) := by decide +kernel
theorem dX9_add_38 : decode cX9_add 38 = .ok (.aload_n 0, 1) := by decide +kernel
theorem dX9_add_39 : decode cX9_add 39 = .ok (.getfield 19, 3) := by decide +kernel
theorem dX9_add_42 : decode cX9_add 42 = .ok (.iload 5, 2) := by decide +kernel
theorem dX9_add_44 : decode cX9_add 44 = .ok (.iload_n 2, 1) := by decide +kernel
theorem dX9_add_45 : decode cX9_add 45 = .ok (.iastore, 1) := by decide +kernel
theorem dX9_add_46 : decode cX9_add 46 = .ok (.aload_n 0, 1) := by decide +kernel
theorem dX9_add_47 : decode cX9_add 47 = .ok (.getfield 22, 3) := by decide +kernel
theorem dX9_add_50 : decode cX9_add 50 = .ok (.iload 5, 2) := by decide +kernel
theorem dX9_add_52 : decode cX9_add 52 = .ok (.iload_n 3, 1) := by decide +kernel
theorem dX9_add_53 : decode cX9_add 53 = .ok (.iastore, 1) := by decide +kernel
theorem dX9_add_54 : decode cX9_add 54 = .ok (.aload_n 0, 1) := by decide +kernel
theorem dX9_add_55 : decode cX9_add 55 = .ok (.getfield 25, 3) := by decide +kernel
theorem dX9_add_58 : decode cX9_add 58 = .ok (.iload 5, 2) := by decide +kernel
theorem dX9_add_60 : decode cX9_add 60 = .ok (.iload 4, 2) := by decide +kernel
theorem dX9_add_62 : decode cX9_add 62 = .ok (.iastore, 1) := by decide +kernel
theorem dX9_add_63 : decode cX9_add 63 = .ok (.aload_n 0, 1) := by decide +kernel
theorem dX9_add_64 : decode cX9_add 64 = .ok (.getfield 16, 3) := by decide +kernel
theorem dX9_add_67 : decode cX9_add 67 = .ok (.iload_n 1, 1) := by decide +kernel
theorem dX9_add_68 : decode cX9_add 68 = .ok (.dup2, 1) := by decide +kernel
theorem dX9_add_69 : decode cX9_add 69 = .ok (.iaload, 1) := by decide +kernel
theorem dX9_add_70 : decode cX9_add 70 = .ok (.iconst 1, 1) := by decide +kernel
theorem dX9_add_71 : decode cX9_add 71 = .ok (.iadd, 1) := by decide +kernel
theorem dX9_add_72 : decode cX9_add 72 = .ok (.iastore, 1) := by decide +kernel
theorem dX9_add_73 : decode cX9_add 73 = .ok (.aload_n 0, 1) := by decide +kernel
theorem dX9_add_74 : decode cX9_add 74 = .ok (.getfield 16, 3) := by decide +kernel
theorem dX9_add_77 : decode cX9_add 77 = .ok (.iload_n 1, 1) := by decide +kernel
theorem dX9_add_78 : decode cX9_add 78 = .ok (.iaload, 1) := by decide +kernel
theorem dX9_add_79 : decode cX9_add 79 = .ok (.ireturn, 1) := by decide +kernel
set_option maxRecDepth 20000 in
theorem ggX9_clear_X9_isRoutine : GoodIn wsX9_clear wsX9_isRoutine := goodIn_r _ [7, 8, 9, 10, 6, 11, 12, 13, 14, 15, 16, 17, 18, 19, 20, 21, 22, 23, 24, 25, 26, 27, 28, 29, 30, 31, 32, 33, 34, 35, 36, 37, 38, 39, 40, 41, 42, 43, 44, 45, 46] (by decide +kernel) (by decide +kernel)
set_option maxRecDepth 20000 in
theorem gX9_clear_X9_isRoutine : GoodIn wsX9_clear (wsV RX9 74 RX9 yX9_isRoutine wsX9_isRoutine) := goodIn_app (goodIn_of _ (by decide +kernel)) ggX9_clear_X9_isRoutine
theorem dX9_clear_0 : decode cX9_clear 0 = .ok (.aload_n 0, 1) := by decide +kernel
theorem dX9_clear_1 : decode cX9_clear 1 = .ok (.iload_n 1, 1) := by decide +kernel
theorem dX9_clear_2 : decode cX9_clear 2 = .ok (.invokevirtual 74, 3) := by decide +kernel
theorem dX9_clear_5 : decode cX9_clear 5 = .ok (.ifCond .ne 6, 3) := by decide +kernel
theorem dX9_clear_8 : decode cX9_clear 8 = .ok (.ldc 72, 2) := by decide +kernel
theorem dX9_clear_10 : decode cX9_clear 10 = .ok (.ireturn, 1) := by decide +kernel
theorem dX9_clear_11 : decode cX9_clear 11 = .ok (.aload_n 0, 1) := by decide +kernel
theorem dX9_clear_12 : decode cX9_clear 12 = .ok (.getfield 16, 3) := by decide +kernel
theorem dX9_clear_15 : decode cX9_clear 15 = .ok (.iload_n 1, 1) := by decide +kernel
theorem dX9_clear_16 : decode cX9_clear 16 = .ok (.iaload, 1) := by decide +kernel
theorem dX9_clear_17 : decode cX9_clear 17 = .ok (.istore_n 2, 1) := by decide +kernel
theorem dX9_clear_18 : decode cX9_clear 18 = .ok (.aload_n 0, 1) := by decide +kernel
theorem dX9_clear_19 : decode cX9_clear 19 = .ok (.getfield 16, 3) := by decide +kernel
theorem dX9_clear_22 : decode cX9_clear 22 = .ok (.iload_n 1, 1) := by decide +kernel
theorem dX9_clear_23 : decode cX9_clear 23 = .ok (.iconst 0, 1) := by decide +kernel
theorem dX9_clear_24 : decode cX9_clear 24 = .ok (.iastore, 1) := by decide +kernel
theorem dX9_clear_25 : decode cX9_clear 25 = .ok (.iload_n 2, 1) := by decide +kernel
theorem dX9_clear_26 : decode cX9_clear 26 = .ok (.ireturn, 1) := by decide +kernel
set_option maxRecDepth 20000 in
theorem ggX9_room_X9_in : GoodIn wsX9_room wsX9_in := goodIn_r _ [7] (by decide +kernel) (by decide +kernel)
set_option maxRecDepth 20000 in
theorem gX9_room_X9_in : GoodIn wsX9_room (va_wsS RX9 68 yX9_in wsX9_in) := goodIn_app (goodIn_of _ (by decide +kernel)) ggX9_room_X9_in
theorem dX9_room_0 : decode cX9_room 0 = .ok (.iload_n 1, 1) := by decide +kernel
theorem dX9_room_1 : decode cX9_room 1 = .ok (.iconst 0, 1) := by decide +kernel
theorem dX9_room_2 : decode cX9_room 2 = .ok (.iconst 3, 1) := by decide +kernel
theorem dX9_room_3 : decode cX9_room 3 = .ok (.invokestatic 68, 3) := by decide +kernel
theorem dX9_room_6 : decode cX9_room 6 = .ok (.ifCond .eq 13, 3) := by decide +kernel
theorem dX9_room_9 : decode cX9_room 9 = .ok (.iload_n 2, 1) := by decide +kernel
theorem dX9_room_10 : decode cX9_room 10 = .ok (.iconst 0, 1) := by decide +kernel
theorem dX9_room_11 : decode cX9_room 11 = .ok (.bipush 10, 2) := by decide +kernel
theorem dX9_room_13 : decode cX9_room 13 = .ok (.invokestatic 68, 3) := by decide +kernel
theorem dX9_room_16 : decode cX9_room 16 = .ok (.ifCond .ne 6, 3) := by decide +kernel
theorem dX9_room_19 : decode cX9_room 19 = .ok (.ldc 72, 2) := by decide +kernel
theorem dX9_room_21 : decode cX9_room 21 = .ok (.ireturn, 1) := by decide +kernel
theorem dX9_room_22 : decode cX9_room 22 = .ok (.aload_n 0, 1) := by decide +kernel
theorem dX9_room_23 : decode cX9_room 23 = .ok (.getfield 31, 3) := by decide +kernel
theorem dX9_room_26 : decode cX9_room 26 = .ok (.iload_n 1, 1) := by decide +kernel
theorem dX9_room_27 : decode cX9_room 27 = .ok (.iaload, 1) := by decide +kernel
theorem dX9_room_28 : decode cX9_room 28 = .ok (.istore_n 3, 1) := by decide +kernel
theorem dX9_room_29 : decode cX9_room 29 = .ok (.aload_n 0, 1) := by decide +kernel
theorem dX9_room_30 : decode cX9_room 30 = .ok (.getfield 31, 3) := by decide +kernel
theorem dX9_room_33 : decode cX9_room 33 = .ok (.iload_n 1, 1) := by decide +kernel
theorem dX9_room_34 : decode cX9_room 34 = .ok (.iconst 0, 1) := by decide +kernel
theorem dX9_room_35 : decode cX9_room 35 = .ok (.iastore, 1) := by decide +kernel
theorem dX9_room_36 : decode cX9_room 36 = .ok (.aload_n 0, 1) := by decide +kernel
theorem dX9_room_37 : decode cX9_room 37 = .ok (.getfield 28, 3) := by decide +kernel
theorem dX9_room_40 : decode cX9_room 40 = .ok (.iload_n 1, 1) := by decide +kernel
theorem dX9_room_41 : decode cX9_room 41 = .ok (.iload_n 2, 1) := by decide +kernel
theorem dX9_room_42 : decode cX9_room 42 = .ok (.iastore, 1) := by decide +kernel
theorem dX9_room_43 : decode cX9_room 43 = .ok (.iload_n 3, 1) := by decide +kernel
theorem dX9_room_44 : decode cX9_room 44 = .ok (.ireturn, 1) := by decide +kernel
set_option maxRecDepth 20000 in
theorem ggX9_user_X9_in : GoodIn wsX9_user wsX9_in := goodIn_r _ [7] (by decide +kernel) (by decide +kernel)
set_option maxRecDepth 20000 in
theorem gX9_user_X9_in : GoodIn wsX9_user (va_wsS RX9 68 yX9_in wsX9_in) := goodIn_app (goodIn_of _ (by decide +kernel)) ggX9_user_X9_in
theorem dX9_user_0 : decode cX9_user 0 = .ok (.iload_n 1, 1) := by decide +kernel
theorem dX9_user_1 : decode cX9_user 1 = .ok (.iconst 0, 1) := by decide +kernel
theorem dX9_user_2 : decode cX9_user 2 = .ok (.iconst 3, 1) := by decide +kernel
theorem dX9_user_3 : decode cX9_user 3 = .ok (.invokestatic 68, 3) := by decide +kernel
theorem dX9_user_6 : decode cX9_user 6 = .ok (.ifCond .eq 19, 3) := by decide +kernel
theorem dX9_user_9 : decode cX9_user 9 = .ok (.iload_n 2, 1) := by decide +kernel
theorem dX9_user_10 : decode cX9_user 10 = .ok (.iconst (-1), 1) := by decide +kernel
theorem dX9_user_11 : decode cX9_user 11 = .ok (.aload_n 0, 1) := by decide +kernel
theorem dX9_user_12 : decode cX9_user 12 = .ok (.getfield 31, 3) := by decide +kernel
theorem dX9_user_15 : decode cX9_user 15 = .ok (.iload_n 1, 1) := by decide +kernel
theorem dX9_user_16 : decode cX9_user 16 = .ok (.iaload, 1) := by decide +kernel
theorem dX9_user_17 : decode cX9_user 17 = .ok (.iconst 1, 1) := by decide +kernel
theorem dX9_user_18 : decode cX9_user 18 = .ok (.isub, 1) := by decide +kernel
theorem dX9_user_19 : decode cX9_user 19 = .ok (.invokestatic 68, 3) := by decide +kernel
theorem dX9_user_22 : decode cX9_user 22 = .ok (.ifCond .ne 6, 3) := by decide +kernel
theorem dX9_user_25 : decode cX9_user 25 = .ok (.ldc 72, 2) := by decide +kernel
theorem dX9_user_27 : decode cX9_user 27 = .ok (.ireturn, 1) := by decide +kernel
theorem dX9_user_28 : decode cX9_user 28 = .ok (.iload_n 2, 1) := by decide +kernel
theorem dX9_user_29 : decode cX9_user 29 = .ok (.ifCond .ge 12, 3) := by decide +kernel
theorem dX9_user_32 : decode cX9_user 32 = .ok (.aload_n 0, 1) := by decide +kernel
theorem dX9_user_33 : decode cX9_user 33 = .ok (.getfield 31, 3) := by decide +kernel
theorem dX9_user_36 : decode cX9_user 36 = .ok (.iload_n 1, 1) := by decide +kernel
theorem dX9_user_37 : decode cX9_user 37 = .ok (.iaload, 1) := by decide +kernel
theorem dX9_user_38 : decode cX9_user 38 = .ok (.goto 23, 3) := by decide +kernel
theorem dX9_user_41 : decode cX9_user 41 = .ok (.aload_n 0, 1) := by decide +kernel
theorem dX9_user_42 : decode cX9_user 42 = .ok (.getfield 34, 3) := by decide +kernel
theorem dX9_user_45 : decode cX9_user 45 = .ok (.bipush 10, 2) := by decide +kernel
theorem dX9_user_47 : decode cX9_user 47 = .ok (.iload_n 1, 1) := by decide +kernel
theorem dX9_user_48 : decode cX9_user 48 = .ok (.imul, 1) := by decide +kernel
theorem dX9_user_49 : decode cX9_user 49 = .ok (.aload_n 0, 1) := by decide +kernel
theorem dX9_user_50 : decode cX9_user 50 = .ok (.getfield 31, 3) := by decide +kernel
theorem dX9_user_53 : decode cX9_user 53 = .ok (.iload_n 1, 1) := by decide +kernel
theorem dX9_user_54 : decode cX9_user 54 = .ok (.iaload, 1) := by decide +kernel
theorem dX9_user_55 : decode cX9_user 55 = .ok (.iadd, 1) := by decide +kernel
theorem dX9_user_56 : decode cX9_user 56 = .ok (.iconst 1, 1) := by decide +kernel
theorem dX9_user_57 : decode cX9_user 57 = .ok (.isub, 1) := by decide +kernel
theorem dX9_user_58 : decode cX9_user 58 = .ok (.iload_n 2, 1) := by decide +kernel
theorem dX9_user_59 : decode cX9_user 59 = .ok (.isub, 1) := by decide +kernel
theorem dX9_user_60 : decode cX9_user 60 = .ok (.iaload, 1) := by decide +kernel
theorem dX9_user_61 : decode cX9_user 61 = .ok (.ireturn, 1) := by decide +kernel
set_option maxRecDepth 20000 in
theorem ggX9_interrupt_X9_isRoutine : GoodIn wsX9_interrupt wsX9_isRoutine := goodIn_r _ [8, 9, 10, 11, 7, 12, 13, 14, 15, 16, 17, 18, 19, 20, 21, 22, 23, 24, 25, 26, 27, 28, 29, 30, 31, 32, 33, 34, 35, 36, 37, 38, 39, 40, 41, 42, 43, 44, 45, 46, 47] (by decide +kernel) (by decide +kernel)
set_option maxRecDepth 20000 in
theorem gX9_interrupt_X9_isRoutine : GoodIn wsX9_interrupt (wsV RX9 74 RX9 yX9_isRoutine wsX9_isRoutine) := goodIn_app (goodIn_of _ (by decide +kernel)) ggX9_interrupt_X9_isRoutine
set_option maxRecDepth 20000 in
theorem ggX9_interrupt_X9_in : GoodIn wsX9_interrupt wsX9_in := goodIn_r _ [12] (by decide +kernel) (by decide +kernel)
set_option maxRecDepth 20000 in
theorem gX9_interrupt_X9_in : GoodIn wsX9_interrupt (va_wsS RX9 68 yX9_in wsX9_in) := goodIn_app (goodIn_of _ (by decide +kernel)) ggX9_interrupt_X9_in
theorem dX9_interrupt_0 : decode cX9_interrupt 0 = .ok (.iload_n 1, 1) := by decide +kernel
theorem dX9_interrupt_1 : decode cX9_interrupt 1 = .ok (.iconst (-1), 1) := by decide +kernel
theorem dX9_interrupt_2 : decode cX9_interrupt 2 = .ok (.if_icmp .ne 10, 3) := by decide +kernel
theorem dX9_interrupt_5 : decode cX9_interrupt 5 = .ok (.aload_n 0, 1) := by decide +kernel
theorem dX9_interrupt_6 : decode cX9_interrupt 6 = .ok (.iconst (-1), 1) := by decide +kernel
theorem dX9_interrupt_7 : decode cX9_interrupt 7 = .ok (.putfield 37, 3) := by decide +kernel
theorem dX9_interrupt_10 : decode cX9_interrupt 10 = .ok (.iconst 1, 1) := by decide +kernel
theorem dX9_interrupt_11 : decode cX9_interrupt 11 = .ok (.ireturn, 1) := by decide +kernel
theorem dX9_interrupt_12 : decode cX9_interrupt 12 = .ok (.aload_n 0, 1) := by decide +kernel
theorem dX9_interrupt_13 : decode cX9_interrupt 13 = .ok (.iload_n 1, 1) := by decide +kernel
theorem dX9_interrupt_14 : decode cX9_interrupt 14 = .ok (.invokevirtual 74, 3) := by decide +kernel
theorem dX9_interrupt_17 : decode cX9_interrupt 17 = .ok (.ifCond .eq 14, 3) := by decide +kernel
theorem dX9_interrupt_20 : decode cX9_interrupt 20 = .ok (.iload_n 2, 1) := by decide +kernel
theorem dX9_interrupt_21 : decode cX9_interrupt 21 = .ok (.iconst 1, 1) := by decide +kernel
theorem dX9_interrupt_22 : decode cX9_interrupt 22 = .ok (.sipush 1000, 3) := by decide +kernel
theorem dX9_interrupt_25 : decode cX9_interrupt 25 = .ok (.invokestatic 68, 3) := by decide +kernel
theorem dX9_interrupt_28 : decode cX9_interrupt 28 = .ok (.ifCond .ne 6, 3) := by decide +kernel
theorem dX9_interrupt_31 : decode cX9_interrupt 31 = .ok (.ldc 72, 2) := by decide +kernel
theorem dX9_interrupt_33 : decode cX9_interrupt 33 = .ok (.ireturn, 1) := by decide +kernel
theorem dX9_interrupt_34 : decode cX9_interrupt 34 = .ok (.aload_n 0, 1) := by decide +kernel
theorem dX9_interrupt_35 : decode cX9_interrupt 35 = .ok (.iload_n 1, 1) := by decide +kernel
theorem dX9_interrupt_36 : decode cX9_interrupt 36 = .ok (.putfield 37, 3) := by decide +kernel
theorem dX9_interrupt_39 : decode cX9_interrupt 39 = .ok (.aload_n 0, 1) := by decide +kernel
theorem dX9_interrupt_40 : decode cX9_interrupt 40 = .ok (.iload_n 2, 1) := by decide +kernel
theorem dX9_interrupt_41 : decode cX9_interrupt 41 = .ok (.putfield 41, 3) := by decide +kernel
theorem dX9_interrupt_44 : decode cX9_interrupt 44 = .ok (.iconst 1, 1) := by decide +kernel
theorem dX9_interrupt_45 : decode cX9_interrupt 45 = .ok (.ireturn, 1) := by decide +kernel
theorem dX9_give_0 : decode cX9_give 0 = .ok (.aload_n 0, 1) := by decide +kernel
theorem dX9_give_1 : decode cX9_give 1 = .ok (.getfield 78, 3) := by decide +kernel
theorem dX9_give_4 : decode cX9_give 4 = .ok (.bipush 15, 2) := by decide +kernel
theorem dX9_give_6 : decode cX9_give 6 = .ok (.if_icmp .ne 6, 3) := by decide +kernel
theorem dX9_give_9 : decode cX9_give 9 = .ok (.ldc 73, 2) := by decide +kernel
theorem dX9_give_11 : decode cX9_give 11 = .ok (.ireturn, 1) := by decide +kernel
theorem dX9_give_12 : decode cX9_give 12 = .ok (.aload_n 0, 1) := by decide +kernel
theorem dX9_give_13 : decode cX9_give 13 = .ok (.getfield 44, 3) := by decide +kernel
theorem dX9_give_16 : decode cX9_give 16 = .ok (.aload_n 0, 1) := by decide +kernel
theorem dX9_give_17 : decode cX9_give 17 = .ok (.getfield 78, 3) := by decide +kernel
theorem dX9_give_20 : decode cX9_give 20 = .ok (.iload_n 1, 1) := by decide +kernel
theorem dX9_give_21 : decode cX9_give 21 = .ok (.i2s, 1) := by decide +kernel
theorem dX9_give_22 : decode cX9_give 22 = .ok (.iastore, 1) := by decide +kernel
theorem dX9_give_23 : decode cX9_give 23 = .ok (.aload_n 0, 1) := by decide +kernel
theorem dX9_give_24 : decode cX9_give 24 = .ok (.dup, 1) := by decide +kernel
theorem dX9_give_25 : decode cX9_give 25 = .ok (.getfield 78, 3) := by decide +kernel
theorem dX9_give_28 : decode cX9_give 28 = .ok (.iconst 1, 1) := by decide +kernel
theorem dX9_give_29 : decode cX9_give 29 = .ok (.iadd, 1) := by decide +kernel
theorem dX9_give_30 : decode cX9_give 30 = .ok (.putfield 78, 3) := by decide +kernel
theorem dX9_give_33 : decode cX9_give 33 = .ok (.aload_n 0, 1) := by decide +kernel
theorem dX9_give_34 : decode cX9_give 34 = .ok (.getfield 78, 3) := by decide +kernel
theorem dX9_give_37 : decode cX9_give 37 = .ok (.ireturn, 1) := by decide +kernel
theorem dX9_opens_0 : decode cX9_opens 0 = .ok (.aload_n 0, 1) := by decide +kernel
theorem dX9_opens_1 : decode cX9_opens 1 = .ok (.getfield 81, 3) := by decide +kernel
theorem dX9_opens_4 : decode cX9_opens 4 = .ok (.istore 5, 2) := by decide +kernel
theorem dX9_opens_6 : decode cX9_opens 6 = .ok (.aload_n 0, 1) := by decide +kernel
theorem dX9_opens_7 : decode cX9_opens 7 = .ok (.getfield 47, 3) := by decide +kernel
theorem dX9_opens_10 : decode cX9_opens 10 = .ok (.iload 5, 2) := by decide +kernel
theorem dX9_opens_12 : decode cX9_opens 12 = .ok (.iload_n 1, 1) := by decide +kernel
theorem dX9_opens_13 : decode cX9_opens 13 = .ok (.iastore, 1) := by decide +kernel
theorem dX9_opens_14 : decode cX9_opens 14 = .ok (.aload_n 0, 1) := by decide +kernel
theorem dX9_opens_15 : decode cX9_opens 15 = .ok (.getfield 50, 3) := by decide +kernel
theorem dX9_opens_18 : decode cX9_opens 18 = .ok (.iload 5, 2) := by decide +kernel
theorem dX9_opens_20 : decode cX9_opens 20 = .ok (.iconst 0, 1) := by decide +kernel
theorem dX9_opens_21 : decode cX9_opens 21 = .ok (.iastore, 1) := by decide +kernel
theorem dX9_opens_22 : decode cX9_opens 22 = .ok (.aload_n 0, 1) := by decide +kernel
theorem dX9_opens_23 : decode cX9_opens 23 = .ok (.getfield 53, 3) := by decide +kernel
theorem dX9_opens_26 : decode cX9_opens 26 = .ok (.iload 5, 2) := by decide +kernel
theorem dX9_opens_28 : decode cX9_opens 28 = .ok (.aload_n 0, 1) := by decide +kernel
theorem dX9_opens_29 : decode cX9_opens 29 = .ok (.getfield 84, 3) := by decide +kernel
theorem dX9_opens_32 : decode cX9_opens 32 = .ok (.iastore, 1) := by decide +kernel
theorem dX9_opens_33 : decode cX9_opens 33 = .ok (.aload_n 0, 1) := by decide +kernel
theorem dX9_opens_34 : decode cX9_opens 34 = .ok (.getfield 56, 3) := by decide +kernel
theorem dX9_opens_37 : decode cX9_opens 37 = .ok (.iload 5, 2) := by decide +kernel
theorem dX9_opens_39 : decode cX9_opens 39 = .ok (.iload_n 2, 1) := by decide +kernel
theorem dX9_opens_40 : decode cX9_opens 40 = .ok (.iastore, 1) := by decide +kernel
theorem dX9_opens_41 : decode cX9_opens 41 = .ok (.iconst 0, 1) := by decide +kernel
theorem dX9_opens_42 : decode cX9_opens 42 = .ok (.istore 6, 2) := by decide +kernel
theorem dX9_opens_44 : decode cX9_opens 44 = .ok (.iload 6, 2) := by decide +kernel
theorem dX9_opens_46 : decode cX9_opens 46 = .ok (.aload_n 0, 1) := by decide +kernel
theorem dX9_opens_47 : decode cX9_opens 47 = .ok (.getfield 7, 3) := by decide +kernel
theorem dX9_opens_50 : decode cX9_opens 50 = .ok (.iload_n 1, 1) := by decide +kernel
theorem dX9_opens_51 : decode cX9_opens 51 = .ok (.iaload, 1) := by decide +kernel
theorem dX9_opens_52 : decode cX9_opens 52 = .ok (.if_icmp .ge 50, 3) := by decide +kernel
theorem dX9_opens_55 : decode cX9_opens 55 = .ok (.aload_n 0, 1) := by decide +kernel
theorem dX9_opens_56 : decode cX9_opens 56 = .ok (.getfield 59, 3) := by decide +kernel
theorem dX9_opens_59 : decode cX9_opens 59 = .ok (.bipush 15, 2) := by decide +kernel
theorem dX9_opens_61 : decode cX9_opens 61 = .ok (.iload 5, 2) := by decide +kernel
theorem dX9_opens_63 : decode cX9_opens 63 = .ok (.imul, 1) := by decide +kernel
theorem dX9_opens_64 : decode cX9_opens 64 = .ok (.iload 6, 2) := by decide +kernel
theorem dX9_opens_66 : decode cX9_opens 66 = .ok (.iadd, 1) := by decide +kernel
theorem dX9_opens_67 : decode cX9_opens 67 = .ok (.iload 6, 2) := by decide +kernel
theorem dX9_opens_69 : decode cX9_opens 69 = .ok (.iload_n 2, 1) := by decide +kernel
theorem dX9_opens_70 : decode cX9_opens 70 = .ok (.if_icmp .ge 13, 3) := by decide +kernel
theorem dX9_opens_73 : decode cX9_opens 73 = .ok (.aload_n 3, 1) := by decide +kernel
theorem dX9_opens_74 : decode cX9_opens 74 = .ok (.iload 4, 2) := by decide +kernel
theorem dX9_opens_76 : decode cX9_opens 76 = .ok (.iload 6, 2) := by decide +kernel
theorem dX9_opens_78 : decode cX9_opens 78 = .ok (.iadd, 1) := by decide +kernel
theorem dX9_opens_79 : decode cX9_opens 79 = .ok (.iaload, 1) := by decide +kernel
theorem dX9_opens_80 : decode cX9_opens 80 = .ok (.goto 15, 3) := by decide +kernel
theorem dX9_opens_83 : decode cX9_opens 83 = .ok (.aload_n 0, 1) := by decide +kernel
theorem dX9_opens_84 : decode cX9_opens 84 = .ok (.getfield 13, 3) := by decide +kernel
theorem dX9_opens_87 : decode cX9_opens 87 = .ok (.bipush 15, 2) := by decide +kernel
theorem dX9_opens_89 : decode cX9_opens 89 = .ok (.iload_n 1, 1) := by decide +kernel
theorem dX9_opens_90 : decode cX9_opens 90 = .ok (.imul, 1) := by decide +kernel
theorem dX9_opens_91 : decode cX9_opens 91 = .ok (.iload 6, 2) := by decide +kernel
theorem dX9_opens_93 : decode cX9_opens 93 = .ok (.iadd, 1) := by decide +kernel
theorem dX9_opens_94 : decode cX9_opens 94 = .ok (.iaload, 1) := by decide +kernel
theorem dX9_opens_95 : decode cX9_opens 95 = .ok (.iastore, 1) := by decide +kernel
theorem dX9_opens_96 : decode cX9_opens 96 = .ok (.iinc 6 1, 3) := by decide +kernel
theorem dX9_opens_99 : decode cX9_opens 99 = .ok (.goto (-55), 3) := by decide +kernel
theorem dX9_opens_102 : decode cX9_opens 102 = .ok (.aload_n 0, 1) := by decide +kernel
theorem dX9_opens_103 : decode cX9_opens 103 = .ok (.dup, 1) := by decide +kernel
theorem dX9_opens_104 : decode cX9_opens 104 = .ok (.getfield 81, 3) := by decide +kernel
theorem dX9_opens_107 : decode cX9_opens 107 = .ok (.iconst 1, 1) := by decide +kernel
theorem dX9_opens_108 : decode cX9_opens 108 = .ok (.iadd, 1) := by decide +kernel
theorem dX9_opens_109 : decode cX9_opens 109 = .ok (.putfield 81, 3) := by decide +kernel
theorem dX9_opens_112 : decode cX9_opens 112 = .ok (.aload_n 0, 1) := by decide +kernel
theorem dX9_opens_113 : decode cX9_opens 113 = .ok (.aload_n 0, 1) := by decide +kernel
theorem dX9_opens_114 : decode cX9_opens 114 = .ok (.getfield 81, 3) := by decide +kernel
theorem dX9_opens_117 : decode cX9_opens 117 = .ok (.aload_n 0, 1) := by decide +kernel
theorem dX9_opens_118 : decode cX9_opens 118 = .ok (.getfield 87, 3) := by decide +kernel
theorem dX9_opens_121 : decode cX9_opens 121 = .ok (.if_icmp .le 10, 3) := by decide +kernel
theorem dX9_opens_124 : decode cX9_opens 124 = .ok (.aload_n 0, 1) := by decide +kernel
theorem dX9_opens_125 : decode cX9_opens 125 = .ok (.getfield 81, 3) := by decide +kernel
theorem dX9_opens_128 : decode cX9_opens 128 = .ok (.goto 7, 3) := by decide +kernel
theorem dX9_opens_131 : decode cX9_opens 131 = .ok (.aload_n 0, 1) := by decide +kernel
theorem dX9_opens_132 : decode cX9_opens 132 = .ok (.getfield 87, 3) := by decide +kernel
theorem dX9_opens_135 : decode cX9_opens 135 = .ok (.putfield 87, 3) := by decide +kernel
theorem dX9_opens_138 : decode cX9_opens 138 = .ok (.return_, 1) := by decide +kernel
theorem dX9_closes_0 : decode cX9_closes 0 = .ok (.aload_n 0, 1) := by decide +kernel
theorem dX9_closes_1 : decode cX9_closes 1 = .ok (.aload_n 0, 1) := by decide +kernel
theorem dX9_closes_2 : decode cX9_closes 2 = .ok (.getfield 53, 3) := by decide +kernel
theorem dX9_closes_5 : decode cX9_closes 5 = .ok (.iload_n 1, 1) := by decide +kernel
theorem dX9_closes_6 : decode cX9_closes 6 = .ok (.iaload, 1) := by decide +kernel
theorem dX9_closes_7 : decode cX9_closes 7 = .ok (.putfield 84, 3) := by decide +kernel
theorem dX9_closes_10 : decode cX9_closes 10 = .ok (.aload_n 0, 1) := by decide +kernel
theorem dX9_closes_11 : decode cX9_closes 11 = .ok (.iload_n 1, 1) := by decide +kernel
theorem dX9_closes_12 : decode cX9_closes 12 = .ok (.putfield 81, 3) := by decide +kernel
theorem dX9_closes_15 : decode cX9_closes 15 = .ok (.iload_n 1, 1) := by decide +kernel
theorem dX9_closes_16 : decode cX9_closes 16 = .ok (.aload_n 0, 1) := by decide +kernel
theorem dX9_closes_17 : decode cX9_closes 17 = .ok (.getfield 90, 3) := by decide +kernel
theorem dX9_closes_20 : decode cX9_closes 20 = .ok (.if_icmp .ne 30, 3) := by decide +kernel
theorem dX9_closes_23 : decode cX9_closes 23 = .ok (.aload_n 0, 1) := by decide +kernel
theorem dX9_closes_24 : decode cX9_closes 24 = .ok (.iconst (-1), 1) := by decide +kernel
theorem dX9_closes_25 : decode cX9_closes 25 = .ok (.putfield 90, 3) := by decide +kernel
theorem dX9_closes_28 : decode cX9_closes 28 = .ok (.iload_n 2, 1) := by decide +kernel
theorem dX9_closes_29 : decode cX9_closes 29 = .ok (.ifCond .eq 63, 3) := by decide +kernel
theorem dX9_closes_32 : decode cX9_closes 32 = .ok (.aload_n 0, 1) := by decide +kernel
theorem dX9_closes_33 : decode cX9_closes 33 = .ok (.iconst 1, 1) := by decide +kernel
theorem dX9_closes_34 : decode cX9_closes 34 = .ok (.putfield 93, 3) := by decide +kernel
theorem dX9_closes_37 : decode cX9_closes 37 = .ok (.aload_n 0, 1) := by decide +kernel
theorem dX9_closes_38 : decode cX9_closes 38 = .ok (.iconst 2, 1) := by decide +kernel
theorem dX9_closes_39 : decode cX9_closes 39 = .ok (.putfield 97, 3) := by decide +kernel
theorem dX9_closes_42 : decode cX9_closes 42 = .ok (.aload_n 0, 1) := by decide +kernel
theorem dX9_closes_43 : decode cX9_closes 43 = .ok (.iload_n 2, 1) := by decide +kernel
theorem dX9_closes_44 : decode cX9_closes 44 = .ok (.putfield 100, 3) := by decide +kernel
theorem dX9_closes_47 : decode cX9_closes 47 = .ok (.goto 45, 3) := by decide +kernel
theorem dX9_closes_50 : decode cX9_closes 50 = .ok (.iload_n 1, 1) := by decide +kernel
theorem dX9_closes_51 : decode cX9_closes 51 = .ok (.ifCond .ne 21, 3) := by decide +kernel
theorem dX9_closes_54 : decode cX9_closes 54 = .ok (.aload_n 0, 1) := by decide +kernel
theorem dX9_closes_55 : decode cX9_closes 55 = .ok (.iconst 1, 1) := by decide +kernel
theorem dX9_closes_56 : decode cX9_closes 56 = .ok (.putfield 93, 3) := by decide +kernel
theorem dX9_closes_59 : decode cX9_closes 59 = .ok (.aload_n 0, 1) := by decide +kernel
theorem dX9_closes_60 : decode cX9_closes 60 = .ok (.iconst 1, 1) := by decide +kernel
theorem dX9_closes_61 : decode cX9_closes 61 = .ok (.putfield 97, 3) := by decide +kernel
theorem dX9_closes_64 : decode cX9_closes 64 = .ok (.aload_n 0, 1) := by decide +kernel
theorem dX9_closes_65 : decode cX9_closes 65 = .ok (.iload_n 2, 1) := by decide +kernel
theorem dX9_closes_66 : decode cX9_closes 66 = .ok (.putfield 100, 3) := by decide +kernel
theorem dX9_closes_69 : decode cX9_closes 69 = .ok (.goto 23, 3) := by decide +kernel
theorem dX9_closes_72 : decode cX9_closes 72 = .ok (.aload_n 0, 1) := by decide +kernel
theorem dX9_closes_73 : decode cX9_closes 73 = .ok (.getfield 62, 3) := by decide +kernel
theorem dX9_closes_76 : decode cX9_closes 76 = .ok (.aload_n 0, 1) := by decide +kernel
theorem dX9_closes_77 : decode cX9_closes 77 = .ok (.getfield 84, 3) := by decide +kernel
theorem dX9_closes_80 : decode cX9_closes 80 = .ok (.iload_n 2, 1) := by decide +kernel
theorem dX9_closes_81 : decode cX9_closes 81 = .ok (.iastore, 1) := by decide +kernel
theorem dX9_closes_82 : decode cX9_closes 82 = .ok (.aload_n 0, 1) := by decide +kernel
theorem dX9_closes_83 : decode cX9_closes 83 = .ok (.dup, 1) := by decide +kernel
theorem dX9_closes_84 : decode cX9_closes 84 = .ok (.getfield 84, 3) := by decide +kernel
theorem dX9_closes_87 : decode cX9_closes 87 = .ok (.iconst 1, 1) := by decide +kernel
theorem dX9_closes_88 : decode cX9_closes 88 = .ok (.iadd, 1) := by decide +kernel
theorem dX9_closes_89 : decode cX9_closes 89 = .ok (.putfield 84, 3) := by decide +kernel
theorem dX9_closes_92 : decode cX9_closes 92 = .ok (.return_, 1) := by decide +kernel
theorem dX9_push_0 : decode cX9_push 0 = .ok (.aload_n 0, 1) := by decide +kernel
theorem dX9_push_1 : decode cX9_push 1 = .ok (.getfield 84, 3) := by decide +kernel
theorem dX9_push_4 : decode cX9_push 4 = .ok (.bipush 60, 2) := by decide +kernel
theorem dX9_push_6 : decode cX9_push 6 = .ok (.if_icmp .ne 6, 3) := by decide +kernel
theorem dX9_push_9 : decode cX9_push 9 = .ok (.bipush 8, 2) := by decide +kernel
theorem dX9_push_11 : decode cX9_push 11 = .ok (.ireturn, 1) := by decide +kernel
theorem dX9_push_12 : decode cX9_push 12 = .ok (.aload_n 0, 1) := by decide +kernel
theorem dX9_push_13 : decode cX9_push 13 = .ok (.getfield 62, 3) := by decide +kernel
theorem dX9_push_16 : decode cX9_push 16 = .ok (.aload_n 0, 1) := by decide +kernel
theorem dX9_push_17 : decode cX9_push 17 = .ok (.getfield 84, 3) := by decide +kernel
theorem dX9_push_20 : decode cX9_push 20 = .ok (.iload_n 1, 1) := by decide +kernel
theorem dX9_push_21 : decode cX9_push 21 = .ok (.i2s, 1) := by decide +kernel
theorem dX9_push_22 : decode cX9_push 22 = .ok (.iastore, 1) := by decide +kernel
theorem dX9_push_23 : decode cX9_push 23 = .ok (.aload_n 0, 1) := by decide +kernel
theorem dX9_push_24 : decode cX9_push 24 = .ok (.dup, 1) := by decide +kernel
theorem dX9_push_25 : decode cX9_push 25 = .ok (.getfield 84, 3) := by decide +kernel
theorem dX9_push_28 : decode cX9_push 28 = .ok (.iconst 1, 1) := by decide +kernel
theorem dX9_push_29 : decode cX9_push 29 = .ok (.iadd, 1) := by decide +kernel
theorem dX9_push_30 : decode cX9_push 30 = .ok (.putfield 84, 3) := by decide +kernel
theorem dX9_push_33 : decode cX9_push 33 = .ok (.iconst 0, 1) := by decide +kernel
theorem dX9_push_34 : decode cX9_push 34 = .ok (.ireturn, 1) := by decide +kernel
theorem dX9_has_0 : decode cX9_has 0 = .ok (.aload_n 0, 1) := by decide +kernel
theorem dX9_has_1 : decode cX9_has 1 = .ok (.getfield 84, 3) := by decide +kernel
theorem dX9_has_4 : decode cX9_has 4 = .ok (.aload_n 0, 1) := by decide +kernel
theorem dX9_has_5 : decode cX9_has 5 = .ok (.getfield 53, 3) := by decide +kernel
theorem dX9_has_8 : decode cX9_has 8 = .ok (.aload_n 0, 1) := by decide +kernel
theorem dX9_has_9 : decode cX9_has 9 = .ok (.getfield 81, 3) := by decide +kernel
theorem dX9_has_12 : decode cX9_has 12 = .ok (.iconst 1, 1) := by decide +kernel
theorem dX9_has_13 : decode cX9_has 13 = .ok (.isub, 1) := by decide +kernel
theorem dX9_has_14 : decode cX9_has 14 = .ok (.iaload, 1) := by decide +kernel
theorem dX9_has_15 : decode cX9_has 15 = .ok (.isub, 1) := by decide +kernel
theorem dX9_has_16 : decode cX9_has 16 = .ok (.ireturn, 1) := by decide +kernel
set_option maxRecDepth 20000 in
theorem ggX9_reckon_X9_has : GoodIn wsX9_reckon wsX9_has := goodIn_r _ [7, 2, 8, 9, 14, 15, 16, 17, 18, 19, 20, 21, 22, 23, 24, 25, 26, 27, 28, 29, 30, 31, 32, 33, 34, 35, 36, 37, 38, 39, 40, 41, 42, 43, 44, 45, 46, 47, 48] (by decide +kernel) (by decide +kernel)
set_option maxRecDepth 20000 in
theorem gX9_reckon_X9_has : GoodIn wsX9_reckon (wsV RX9 103 RX9 yX9_has wsX9_has) := goodIn_app (goodIn_of _ (by decide +kernel)) ggX9_reckon_X9_has
set_option maxRecDepth 20000 in
theorem ggX9_reckon_X9_push : GoodIn wsX9_reckon wsX9_push := goodIn_r _ [13, 2, 1, 14, 15, 16, 17, 18, 19, 20, 21, 22, 23, 24, 25, 26, 27, 28, 29, 30, 31, 32, 33, 34, 35, 36, 37, 38, 39, 40, 41, 42, 43, 44, 45, 46, 47, 48] (by decide +kernel) (by decide +kernel)
set_option maxRecDepth 20000 in
theorem gX9_reckon_X9_push : GoodIn wsX9_reckon (wsV RX9 107 RX9 yX9_push wsX9_push) := goodIn_app (goodIn_of _ (by decide +kernel)) ggX9_reckon_X9_push
theorem dX9_reckon_0 : decode cX9_reckon 0 = .ok (.aload_n 0, 1) := by decide +kernel
theorem dX9_reckon_1 : decode cX9_reckon 1 = .ok (.invokevirtual 103, 3) := by decide +kernel
theorem dX9_reckon_4 : decode cX9_reckon 4 = .ok (.iconst 2, 1) := by decide +kernel
theorem dX9_reckon_5 : decode cX9_reckon 5 = .ok (.if_icmp .ge 5, 3) := by decide +kernel
theorem dX9_reckon_8 : decode cX9_reckon 8 = .ok (.iconst 1, 1) := by decide +kernel
theorem dX9_reckon_9 : decode cX9_reckon 9 = .ok (.ireturn, 1) := by decide +kernel
theorem dX9_reckon_10 : decode cX9_reckon 10 = .ok (.aload_n 0, 1) := by decide +kernel
theorem dX9_reckon_11 : decode cX9_reckon 11 = .ok (.getfield 62, 3) := by decide +kernel
theorem dX9_reckon_14 : decode cX9_reckon 14 = .ok (.aload_n 0, 1) := by decide +kernel
theorem dX9_reckon_15 : decode cX9_reckon 15 = .ok (.getfield 84, 3) := by decide +kernel
theorem dX9_reckon_18 : decode cX9_reckon 18 = .ok (.iconst 1, 1) := by decide +kernel
theorem dX9_reckon_19 : decode cX9_reckon 19 = .ok (.isub, 1) := by decide +kernel
theorem dX9_reckon_20 : decode cX9_reckon 20 = .ok (.iaload, 1) := by decide +kernel
theorem dX9_reckon_21 : decode cX9_reckon 21 = .ok (.istore_n 2, 1) := by decide +kernel
theorem dX9_reckon_22 : decode cX9_reckon 22 = .ok (.aload_n 0, 1) := by decide +kernel
theorem dX9_reckon_23 : decode cX9_reckon 23 = .ok (.getfield 62, 3) := by decide +kernel
theorem dX9_reckon_26 : decode cX9_reckon 26 = .ok (.aload_n 0, 1) := by decide +kernel
theorem dX9_reckon_27 : decode cX9_reckon 27 = .ok (.getfield 84, 3) := by decide +kernel
theorem dX9_reckon_30 : decode cX9_reckon 30 = .ok (.iconst 2, 1) := by decide +kernel
theorem dX9_reckon_31 : decode cX9_reckon 31 = .ok (.isub, 1) := by decide +kernel
theorem dX9_reckon_32 : decode cX9_reckon 32 = .ok (.iaload, 1) := by decide +kernel
theorem dX9_reckon_33 : decode cX9_reckon 33 = .ok (.istore_n 3, 1) := by decide +kernel
theorem dX9_reckon_34 : decode cX9_reckon 34 = .ok (.iload_n 1, 1) := by decide +kernel
theorem dX9_reckon_35 : decode cX9_reckon 35 = .ok (.bipush 6, 2) := by decide +kernel
theorem dX9_reckon_37 : decode cX9_reckon 37 = .ok (.if_icmp .eq 9, 3) := by decide +kernel
theorem dX9_reckon_40 : decode cX9_reckon 40 = .ok (.iload_n 1, 1) := by decide +kernel
theorem dX9_reckon_41 : decode cX9_reckon 41 = .ok (.bipush 7, 2) := by decide +kernel
theorem dX9_reckon_43 : decode cX9_reckon 43 = .ok (.if_icmp .ne 9, 3) := by decide +kernel
theorem dX9_reckon_46 : decode cX9_reckon 46 = .ok (.iload_n 2, 1) := by decide +kernel
theorem dX9_reckon_47 : decode cX9_reckon 47 = .ok (.ifCond .ne 5, 3) := by decide +kernel
theorem dX9_reckon_50 : decode cX9_reckon 50 = .ok (.iconst 3, 1) := by decide +kernel
theorem dX9_reckon_51 : decode cX9_reckon 51 = .ok (.ireturn, 1) := by decide +kernel
theorem dX9_reckon_52 : decode cX9_reckon 52 = .ok (.aload_n 0, 1) := by decide +kernel
theorem dX9_reckon_53 : decode cX9_reckon 53 = .ok (.dup, 1) := by decide +kernel
theorem dX9_reckon_54 : decode cX9_reckon 54 = .ok (.getfield 84, 3) := by decide +kernel
theorem dX9_reckon_57 : decode cX9_reckon 57 = .ok (.iconst 2, 1) := by decide +kernel
theorem dX9_reckon_58 : decode cX9_reckon 58 = .ok (.isub, 1) := by decide +kernel
theorem dX9_reckon_59 : decode cX9_reckon 59 = .ok (.putfield 84, 3) := by decide +kernel
theorem dX9_reckon_62 : decode cX9_reckon 62 = .ok (.iload_n 1, 1) := by decide +kernel
theorem dX9_reckon_63 : decode cX9_reckon 63 = .ok (.iconst 3, 1) := by decide +kernel
theorem dX9_reckon_64 : decode cX9_reckon 64 = .ok (.if_icmp .ne 9, 3) := by decide +kernel
theorem dX9_reckon_67 : decode cX9_reckon 67 = .ok (.iload_n 3, 1) := by decide +kernel
theorem dX9_reckon_68 : decode cX9_reckon 68 = .ok (.iload_n 2, 1) := by decide +kernel
theorem dX9_reckon_69 : decode cX9_reckon 69 = .ok (.iadd, 1) := by decide +kernel
theorem dX9_reckon_70 : decode cX9_reckon 70 = .ok (.goto 59, 3) := by decide +kernel
theorem dX9_reckon_73 : decode cX9_reckon 73 = .ok (.iload_n 1, 1) := by decide +kernel
theorem dX9_reckon_74 : decode cX9_reckon 74 = .ok (.iconst 4, 1) := by decide +kernel
theorem dX9_reckon_75 : decode cX9_reckon 75 = .ok (.if_icmp .ne 9, 3) := by decide +kernel
theorem dX9_reckon_78 : decode cX9_reckon 78 = .ok (.iload_n 3, 1) := by decide +kernel
theorem dX9_reckon_79 : decode cX9_reckon 79 = .ok (.iload_n 2, 1) := by decide +kernel
theorem dX9_reckon_80 : decode cX9_reckon 80 = .ok (.isub, 1) := by decide +kernel
theorem dX9_reckon_81 : decode cX9_reckon 81 = .ok (.goto 48, 3) := by decide +kernel
theorem dX9_reckon_84 : decode cX9_reckon 84 = .ok (.iload_n 1, 1) := by decide +kernel
theorem dX9_reckon_85 : decode cX9_reckon 85 = .ok (.iconst 5, 1) := by decide +kernel
theorem dX9_reckon_86 : decode cX9_reckon 86 = .ok (.if_icmp .ne 9, 3) := by decide +kernel
theorem dX9_reckon_89 : decode cX9_reckon 89 = .ok (.iload_n 3, 1) := by decide +kernel
theorem dX9_reckon_90 : decode cX9_reckon 90 = .ok (.iload_n 2, 1) := by decide +kernel
theorem dX9_reckon_91 : decode cX9_reckon 91 = .ok (.imul, 1) := by decide +kernel
theorem dX9_reckon_92 : decode cX9_reckon 92 = .ok (.goto 37, 3) := by decide +kernel
theorem dX9_reckon_95 : decode cX9_reckon 95 = .ok (.iload_n 1, 1) := by decide +kernel
theorem dX9_reckon_96 : decode cX9_reckon 96 = .ok (.bipush 6, 2) := by decide +kernel
theorem dX9_reckon_98 : decode cX9_reckon 98 = .ok (.if_icmp .ne 9, 3) := by decide +kernel
theorem dX9_reckon_101 : decode cX9_reckon 101 = .ok (.iload_n 3, 1) := by decide +kernel
theorem dX9_reckon_102 : decode cX9_reckon 102 = .ok (.iload_n 2, 1) := by decide +kernel
theorem dX9_reckon_103 : decode cX9_reckon 103 = .ok (.idiv, 1) := by decide +kernel
theorem dX9_reckon_104 : decode cX9_reckon 104 = .ok (.goto 25, 3) := by decide +kernel
theorem dX9_reckon_107 : decode cX9_reckon 107 = .ok (.iload_n 1, 1) := by decide +kernel
theorem dX9_reckon_108 : decode cX9_reckon 108 = .ok (.bipush 7, 2) := by decide +kernel
theorem dX9_reckon_110 : decode cX9_reckon 110 = .ok (.if_icmp .ne 9, 3) := by decide +kernel
theorem dX9_reckon_113 : decode cX9_reckon 113 = .ok (.iload_n 3, 1) := by decide +kernel
theorem dX9_reckon_114 : decode cX9_reckon 114 = .ok (.iload_n 2, 1) := by decide +kernel
theorem dX9_reckon_115 : decode cX9_reckon 115 = .ok (.irem, 1) := by decide +kernel
theorem dX9_reckon_116 : decode cX9_reckon 116 = .ok (.goto 13, 3) := by decide +kernel
theorem dX9_reckon_119 : decode cX9_reckon 119 = .ok (.iload_n 3, 1) := by decide +kernel
theorem dX9_reckon_120 : decode cX9_reckon 120 = .ok (.iload_n 2, 1) := by decide +kernel
theorem dX9_reckon_121 : decode cX9_reckon 121 = .ok (.if_icmp .ge 7, 3) := by decide +kernel
theorem dX9_reckon_124 : decode cX9_reckon 124 = .ok (.iconst 1, 1) := by decide +kernel
theorem dX9_reckon_125 : decode cX9_reckon 125 = .ok (.goto 4, 3) := by decide +kernel
theorem dX9_reckon_128 : decode cX9_reckon 128 = .ok (.iconst 0, 1) := by decide +kernel
theorem dX9_reckon_129 : decode cX9_reckon 129 = .ok (.istore 4, 2) := by decide +kernel
theorem dX9_reckon_131 : decode cX9_reckon 131 = .ok (.aload_n 0, 1) := by decide +kernel
theorem dX9_reckon_132 : decode cX9_reckon 132 = .ok (.iload 4, 2) := by decide +kernel
theorem dX9_reckon_134 : decode cX9_reckon 134 = .ok (.invokevirtual 107, 3) := by decide +kernel
theorem dX9_reckon_137 : decode cX9_reckon 137 = .ok (.ireturn, 1) := by decide +kernel
set_option maxRecDepth 20000 in
theorem ggX9_calls_X9_has : GoodIn wsX9_calls wsX9_has := goodIn_r _ [8, 2, 9, 1, 29, 30, 31, 32, 33, 34, 35, 36, 37, 38, 39, 40, 41, 42, 43, 44, 45, 46, 47, 48, 49, 50, 51, 52, 53, 54, 55, 56, 57, 58, 59, 60, 61, 62, 63] (by decide +kernel) (by decide +kernel)
set_option maxRecDepth 20000 in
theorem gX9_calls_X9_has : GoodIn wsX9_calls (wsV RX9 103 RX9 yX9_has wsX9_has) := goodIn_app (goodIn_of _ (by decide +kernel)) ggX9_calls_X9_has
set_option maxRecDepth 20000 in
theorem ggX9_calls_X9_isRoutine : GoodIn wsX9_calls wsX9_isRoutine := goodIn_r _ [13, 14, 15, 16, 7, 17, 29, 30, 31, 32, 33, 34, 35, 36, 37, 38, 39, 40, 41, 42, 43, 44, 45, 46, 47, 48, 49, 50, 51, 52, 53, 54, 55, 56, 57, 58, 59, 60, 61, 62, 63] (by decide +kernel) (by decide +kernel)
set_option maxRecDepth 20000 in
theorem gX9_calls_X9_isRoutine : GoodIn wsX9_calls (wsV RX9 74 RX9 yX9_isRoutine wsX9_isRoutine) := goodIn_app (goodIn_of _ (by decide +kernel)) ggX9_calls_X9_isRoutine
set_option maxRecDepth 20000 in
theorem ggX9_calls_X9_opens : GoodIn wsX9_calls wsX9_opens := goodIn_r _ [21, 1, 22, 23, 9, 2, 24, 25, 26, 27, 28, 29, 30, 31, 32, 33, 34, 35, 36, 37, 38, 39, 40, 41, 42, 43, 44, 45, 46, 47, 48, 49, 50, 51, 52, 53, 54, 55, 56, 57, 58, 59, 60, 61, 62, 63] (by decide +kernel) (by decide +kernel)
set_option maxRecDepth 20000 in
theorem gX9_calls_X9_opens : GoodIn wsX9_calls (wsV RX9 111 RX9 yX9_opens wsX9_opens) := goodIn_app (goodIn_of _ (by decide +kernel)) ggX9_calls_X9_opens
theorem dX9_calls_0 : decode cX9_calls 0 = .ok (.iload_n 2, 1) := by decide +kernel
theorem dX9_calls_1 : decode cX9_calls 1 = .ok (.ifCond .lt 17, 3) := by decide +kernel
theorem dX9_calls_4 : decode cX9_calls 4 = .ok (.iload_n 2, 1) := by decide +kernel
theorem dX9_calls_5 : decode cX9_calls 5 = .ok (.bipush 15, 2) := by decide +kernel
theorem dX9_calls_7 : decode cX9_calls 7 = .ok (.if_icmp .gt 11, 3) := by decide +kernel
theorem dX9_calls_10 : decode cX9_calls 10 = .ok (.aload_n 0, 1) := by decide +kernel
theorem dX9_calls_11 : decode cX9_calls 11 = .ok (.invokevirtual 103, 3) := by decide +kernel
theorem dX9_calls_14 : decode cX9_calls 14 = .ok (.iload_n 2, 1) := by decide +kernel
theorem dX9_calls_15 : decode cX9_calls 15 = .ok (.if_icmp .ge 5, 3) := by decide +kernel
theorem dX9_calls_18 : decode cX9_calls 18 = .ok (.iconst 1, 1) := by decide +kernel
theorem dX9_calls_19 : decode cX9_calls 19 = .ok (.ireturn, 1) := by decide +kernel
theorem dX9_calls_20 : decode cX9_calls 20 = .ok (.aload_n 0, 1) := by decide +kernel
theorem dX9_calls_21 : decode cX9_calls 21 = .ok (.iload_n 1, 1) := by decide +kernel
theorem dX9_calls_22 : decode cX9_calls 22 = .ok (.invokevirtual 74, 3) := by decide +kernel
theorem dX9_calls_25 : decode cX9_calls 25 = .ok (.ifCond .ne 6, 3) := by decide +kernel
theorem dX9_calls_28 : decode cX9_calls 28 = .ok (.bipush 6, 2) := by decide +kernel
theorem dX9_calls_30 : decode cX9_calls 30 = .ok (.ireturn, 1) := by decide +kernel
theorem dX9_calls_31 : decode cX9_calls 31 = .ok (.aload_n 0, 1) := by decide +kernel
theorem dX9_calls_32 : decode cX9_calls 32 = .ok (.getfield 81, 3) := by decide +kernel
theorem dX9_calls_35 : decode cX9_calls 35 = .ok (.bipush 25, 2) := by decide +kernel
theorem dX9_calls_37 : decode cX9_calls 37 = .ok (.if_icmp .ne 5, 3) := by decide +kernel
theorem dX9_calls_40 : decode cX9_calls 40 = .ok (.iconst 4, 1) := by decide +kernel
theorem dX9_calls_41 : decode cX9_calls 41 = .ok (.ireturn, 1) := by decide +kernel
theorem dX9_calls_42 : decode cX9_calls 42 = .ok (.aload_n 0, 1) := by decide +kernel
theorem dX9_calls_43 : decode cX9_calls 43 = .ok (.getfield 84, 3) := by decide +kernel
theorem dX9_calls_46 : decode cX9_calls 46 = .ok (.iload_n 2, 1) := by decide +kernel
theorem dX9_calls_47 : decode cX9_calls 47 = .ok (.isub, 1) := by decide +kernel
theorem dX9_calls_48 : decode cX9_calls 48 = .ok (.bipush 60, 2) := by decide +kernel
theorem dX9_calls_50 : decode cX9_calls 50 = .ok (.if_icmp .ne 6, 3) := by decide +kernel
theorem dX9_calls_53 : decode cX9_calls 53 = .ok (.bipush 8, 2) := by decide +kernel
theorem dX9_calls_55 : decode cX9_calls 55 = .ok (.ireturn, 1) := by decide +kernel
theorem dX9_calls_56 : decode cX9_calls 56 = .ok (.aload_n 0, 1) := by decide +kernel
theorem dX9_calls_57 : decode cX9_calls 57 = .ok (.dup, 1) := by decide +kernel
theorem dX9_calls_58 : decode cX9_calls 58 = .ok (.getfield 84, 3) := by decide +kernel
theorem dX9_calls_61 : decode cX9_calls 61 = .ok (.iload_n 2, 1) := by decide +kernel
theorem dX9_calls_62 : decode cX9_calls 62 = .ok (.isub, 1) := by decide +kernel
theorem dX9_calls_63 : decode cX9_calls 63 = .ok (.putfield 84, 3) := by decide +kernel
theorem dX9_calls_66 : decode cX9_calls 66 = .ok (.aload_n 0, 1) := by decide +kernel
theorem dX9_calls_67 : decode cX9_calls 67 = .ok (.iload_n 1, 1) := by decide +kernel
theorem dX9_calls_68 : decode cX9_calls 68 = .ok (.iload_n 2, 1) := by decide +kernel
theorem dX9_calls_69 : decode cX9_calls 69 = .ok (.aload_n 0, 1) := by decide +kernel
theorem dX9_calls_70 : decode cX9_calls 70 = .ok (.getfield 62, 3) := by decide +kernel
theorem dX9_calls_73 : decode cX9_calls 73 = .ok (.aload_n 0, 1) := by decide +kernel
theorem dX9_calls_74 : decode cX9_calls 74 = .ok (.getfield 84, 3) := by decide +kernel
theorem dX9_calls_77 : decode cX9_calls 77 = .ok (.invokevirtual 111, 3) := by decide +kernel
theorem dX9_calls_80 : decode cX9_calls 80 = .ok (.iconst 0, 1) := by decide +kernel
theorem dX9_calls_81 : decode cX9_calls 81 = .ok (.ireturn, 1) := by decide +kernel
set_option maxRecDepth 20000 in
theorem ggX9_throwsTo_X9_has : GoodIn wsX9_throwsTo wsX9_has := goodIn_r _ [9, 2, 10, 4, 18, 19, 20, 21, 22, 23, 24, 25, 26, 27, 28, 29, 30, 31, 32, 33, 34, 35, 36, 37, 38, 39, 40, 41, 42, 43, 44, 45, 46, 47, 48, 49, 50, 51, 52] (by decide +kernel) (by decide +kernel)
set_option maxRecDepth 20000 in
theorem gX9_throwsTo_X9_has : GoodIn wsX9_throwsTo (wsV RX9 103 RX9 yX9_has wsX9_has) := goodIn_app (goodIn_of _ (by decide +kernel)) ggX9_throwsTo_X9_has
set_option maxRecDepth 20000 in
theorem ggX9_throwsTo_X9_closes : GoodIn wsX9_throwsTo wsX9_closes := goodIn_r _ [14, 10, 2, 4, 3, 15, 16, 17, 1, 18, 19, 20, 21, 22, 23, 24, 25, 26, 27, 28, 29, 30, 31, 32, 33, 34, 35, 36, 37, 38, 39, 40, 41, 42, 43, 44, 45, 46, 47, 48, 49, 50, 51, 52] (by decide +kernel) (by decide +kernel)
set_option maxRecDepth 20000 in
theorem gX9_throwsTo_X9_closes : GoodIn wsX9_throwsTo (wsV RX9 115 RX9 yX9_closes wsX9_closes) := goodIn_app (goodIn_of _ (by decide +kernel)) ggX9_throwsTo_X9_closes
theorem dX9_throwsTo_0 : decode cX9_throwsTo 0 = .ok (.aload_n 0, 1) := by decide +kernel
theorem dX9_throwsTo_1 : decode cX9_throwsTo 1 = .ok (.invokevirtual 103, 3) := by decide +kernel
theorem dX9_throwsTo_4 : decode cX9_throwsTo 4 = .ok (.iconst 2, 1) := by decide +kernel
theorem dX9_throwsTo_5 : decode cX9_throwsTo 5 = .ok (.if_icmp .ge 5, 3) := by decide +kernel
theorem dX9_throwsTo_8 : decode cX9_throwsTo 8 = .ok (.iconst 1, 1) := by decide +kernel
theorem dX9_throwsTo_9 : decode cX9_throwsTo 9 = .ok (.ireturn, 1) := by decide +kernel
theorem dX9_throwsTo_10 : decode cX9_throwsTo 10 = .ok (.aload_n 0, 1) := by decide +kernel
theorem dX9_throwsTo_11 : decode cX9_throwsTo 11 = .ok (.getfield 62, 3) := by decide +kernel
theorem dX9_throwsTo_14 : decode cX9_throwsTo 14 = .ok (.aload_n 0, 1) := by decide +kernel
theorem dX9_throwsTo_15 : decode cX9_throwsTo 15 = .ok (.getfield 84, 3) := by decide +kernel
theorem dX9_throwsTo_18 : decode cX9_throwsTo 18 = .ok (.iconst 1, 1) := by decide +kernel
theorem dX9_throwsTo_19 : decode cX9_throwsTo 19 = .ok (.isub, 1) := by decide +kernel
theorem dX9_throwsTo_20 : decode cX9_throwsTo 20 = .ok (.iaload, 1) := by decide +kernel
theorem dX9_throwsTo_21 : decode cX9_throwsTo 21 = .ok (.istore_n 1, 1) := by decide +kernel
theorem dX9_throwsTo_22 : decode cX9_throwsTo 22 = .ok (.aload_n 0, 1) := by decide +kernel
theorem dX9_throwsTo_23 : decode cX9_throwsTo 23 = .ok (.getfield 62, 3) := by decide +kernel
theorem dX9_throwsTo_26 : decode cX9_throwsTo 26 = .ok (.aload_n 0, 1) := by decide +kernel
theorem dX9_throwsTo_27 : decode cX9_throwsTo 27 = .ok (.getfield 84, 3) := by decide +kernel
theorem dX9_throwsTo_30 : decode cX9_throwsTo 30 = .ok (.iconst 2, 1) := by decide +kernel
theorem dX9_throwsTo_31 : decode cX9_throwsTo 31 = .ok (.isub, 1) := by decide +kernel
theorem dX9_throwsTo_32 : decode cX9_throwsTo 32 = .ok (.iaload, 1) := by decide +kernel
theorem dX9_throwsTo_33 : decode cX9_throwsTo 33 = .ok (.istore_n 2, 1) := by decide +kernel
theorem dX9_throwsTo_34 : decode cX9_throwsTo 34 = .ok (.aload_n 0, 1) := by decide +kernel
theorem dX9_throwsTo_35 : decode cX9_throwsTo 35 = .ok (.getfield 90, 3) := by decide +kernel
theorem dX9_throwsTo_38 : decode cX9_throwsTo 38 = .ok (.ifCond .ge 7, 3) := by decide +kernel
theorem dX9_throwsTo_41 : decode cX9_throwsTo 41 = .ok (.iconst 1, 1) := by decide +kernel
theorem dX9_throwsTo_42 : decode cX9_throwsTo 42 = .ok (.goto 9, 3) := by decide +kernel
theorem dX9_throwsTo_45 : decode cX9_throwsTo 45 = .ok (.aload_n 0, 1) := by decide +kernel
theorem dX9_throwsTo_46 : decode cX9_throwsTo 46 = .ok (.getfield 90, 3) := by decide +kernel
theorem dX9_throwsTo_49 : decode cX9_throwsTo 49 = .ok (.iconst 1, 1) := by decide +kernel
theorem dX9_throwsTo_50 : decode cX9_throwsTo 50 = .ok (.iadd, 1) := by decide +kernel
theorem dX9_throwsTo_51 : decode cX9_throwsTo 51 = .ok (.istore_n 3, 1) := by decide +kernel
theorem dX9_throwsTo_52 : decode cX9_throwsTo 52 = .ok (.iload_n 2, 1) := by decide +kernel
theorem dX9_throwsTo_53 : decode cX9_throwsTo 53 = .ok (.iload_n 3, 1) := by decide +kernel
theorem dX9_throwsTo_54 : decode cX9_throwsTo 54 = .ok (.if_icmp .lt 11, 3) := by decide +kernel
theorem dX9_throwsTo_57 : decode cX9_throwsTo 57 = .ok (.iload_n 2, 1) := by decide +kernel
theorem dX9_throwsTo_58 : decode cX9_throwsTo 58 = .ok (.aload_n 0, 1) := by decide +kernel
theorem dX9_throwsTo_59 : decode cX9_throwsTo 59 = .ok (.getfield 81, 3) := by decide +kernel
theorem dX9_throwsTo_62 : decode cX9_throwsTo 62 = .ok (.if_icmp .le 5, 3) := by decide +kernel
theorem dX9_throwsTo_65 : decode cX9_throwsTo 65 = .ok (.iconst 5, 1) := by decide +kernel
theorem dX9_throwsTo_66 : decode cX9_throwsTo 66 = .ok (.ireturn, 1) := by decide +kernel
theorem dX9_throwsTo_67 : decode cX9_throwsTo 67 = .ok (.aload_n 0, 1) := by decide +kernel
theorem dX9_throwsTo_68 : decode cX9_throwsTo 68 = .ok (.iload_n 2, 1) := by decide +kernel
theorem dX9_throwsTo_69 : decode cX9_throwsTo 69 = .ok (.iconst 1, 1) := by decide +kernel
theorem dX9_throwsTo_70 : decode cX9_throwsTo 70 = .ok (.isub, 1) := by decide +kernel
theorem dX9_throwsTo_71 : decode cX9_throwsTo 71 = .ok (.iload_n 1, 1) := by decide +kernel
theorem dX9_throwsTo_72 : decode cX9_throwsTo 72 = .ok (.invokevirtual 115, 3) := by decide +kernel
theorem dX9_throwsTo_75 : decode cX9_throwsTo 75 = .ok (.iconst 0, 1) := by decide +kernel
theorem dX9_throwsTo_76 : decode cX9_throwsTo 76 = .ok (.ireturn, 1) := by decide +kernel
set_option maxRecDepth 20000 in
theorem ggX9_onUser_X9_has : GoodIn wsX9_onUser wsX9_has := goodIn_r _ [10, 3, 11, 12, 20, 21, 22, 23, 24, 25, 26, 27, 28, 29, 30, 31, 32, 33, 34, 35, 36, 37, 38, 39, 40, 41, 42, 43, 44, 45, 46, 47, 48, 49, 50, 51, 52, 53, 54] (by decide +kernel) (by decide +kernel)
set_option maxRecDepth 20000 in
theorem gX9_onUser_X9_has : GoodIn wsX9_onUser (wsV RX9 103 RX9 yX9_has wsX9_has) := goodIn_app (goodIn_of _ (by decide +kernel)) ggX9_onUser_X9_has
set_option maxRecDepth 20000 in
theorem ggX9_onUser_X9_in : GoodIn wsX9_onUser wsX9_in := goodIn_r _ [15] (by decide +kernel) (by decide +kernel)
set_option maxRecDepth 20000 in
theorem gX9_onUser_X9_in : GoodIn wsX9_onUser (va_wsS RX9 68 yX9_in wsX9_in) := goodIn_app (goodIn_of _ (by decide +kernel)) ggX9_onUser_X9_in
set_option maxRecDepth 20000 in
theorem ggX9_onUser_X9_push : GoodIn wsX9_onUser wsX9_push := goodIn_r _ [19, 3, 5, 20, 21, 22, 23, 24, 25, 26, 27, 28, 29, 30, 31, 32, 33, 34, 35, 36, 37, 38, 39, 40, 41, 42, 43, 44, 45, 46, 47, 48, 49, 50, 51, 52, 53, 54] (by decide +kernel) (by decide +kernel)
set_option maxRecDepth 20000 in
theorem gX9_onUser_X9_push : GoodIn wsX9_onUser (wsV RX9 107 RX9 yX9_push wsX9_push) := goodIn_app (goodIn_of _ (by decide +kernel)) ggX9_onUser_X9_push
theorem dX9_onUser_0 : decode cX9_onUser 0 = .ok (.aload_n 0, 1) := by decide +kernel
theorem dX9_onUser_1 : decode cX9_onUser 1 = .ok (.invokevirtual 103, 3) := by decide +kernel
theorem dX9_onUser_4 : decode cX9_onUser 4 = .ok (.iconst 1, 1) := by decide +kernel
theorem dX9_onUser_5 : decode cX9_onUser 5 = .ok (.if_icmp .ge 5, 3) := by decide +kernel
theorem dX9_onUser_8 : decode cX9_onUser 8 = .ok (.iconst 1, 1) := by decide +kernel
theorem dX9_onUser_9 : decode cX9_onUser 9 = .ok (.ireturn, 1) := by decide +kernel
theorem dX9_onUser_10 : decode cX9_onUser 10 = .ok (.iload_n 1, 1) := by decide +kernel
theorem dX9_onUser_11 : decode cX9_onUser 11 = .ok (.iconst 0, 1) := by decide +kernel
theorem dX9_onUser_12 : decode cX9_onUser 12 = .ok (.iconst 3, 1) := by decide +kernel
theorem dX9_onUser_13 : decode cX9_onUser 13 = .ok (.invokestatic 68, 3) := by decide +kernel
theorem dX9_onUser_16 : decode cX9_onUser 16 = .ok (.ifCond .ne 6, 3) := by decide +kernel
theorem dX9_onUser_19 : decode cX9_onUser 19 = .ok (.bipush 10, 2) := by decide +kernel
theorem dX9_onUser_21 : decode cX9_onUser 21 = .ok (.ireturn, 1) := by decide +kernel
theorem dX9_onUser_22 : decode cX9_onUser 22 = .ok (.aload_n 0, 1) := by decide +kernel
theorem dX9_onUser_23 : decode cX9_onUser 23 = .ok (.getfield 31, 3) := by decide +kernel
theorem dX9_onUser_26 : decode cX9_onUser 26 = .ok (.iload_n 1, 1) := by decide +kernel
theorem dX9_onUser_27 : decode cX9_onUser 27 = .ok (.iaload, 1) := by decide +kernel
theorem dX9_onUser_28 : decode cX9_onUser 28 = .ok (.aload_n 0, 1) := by decide +kernel
theorem dX9_onUser_29 : decode cX9_onUser 29 = .ok (.getfield 28, 3) := by decide +kernel
theorem dX9_onUser_32 : decode cX9_onUser 32 = .ok (.iload_n 1, 1) := by decide +kernel
theorem dX9_onUser_33 : decode cX9_onUser 33 = .ok (.iaload, 1) := by decide +kernel
theorem dX9_onUser_34 : decode cX9_onUser 34 = .ok (.if_icmp .ge 7, 3) := by decide +kernel
theorem dX9_onUser_37 : decode cX9_onUser 37 = .ok (.iconst 1, 1) := by decide +kernel
theorem dX9_onUser_38 : decode cX9_onUser 38 = .ok (.goto 4, 3) := by decide +kernel
theorem dX9_onUser_41 : decode cX9_onUser 41 = .ok (.iconst 0, 1) := by decide +kernel
theorem dX9_onUser_42 : decode cX9_onUser 42 = .ok (.istore_n 2, 1) := by decide +kernel
theorem dX9_onUser_43 : decode cX9_onUser 43 = .ok (.aload_n 0, 1) := by decide +kernel
theorem dX9_onUser_44 : decode cX9_onUser 44 = .ok (.dup, 1) := by decide +kernel
theorem dX9_onUser_45 : decode cX9_onUser 45 = .ok (.getfield 84, 3) := by decide +kernel
theorem dX9_onUser_48 : decode cX9_onUser 48 = .ok (.iconst 1, 1) := by decide +kernel
theorem dX9_onUser_49 : decode cX9_onUser 49 = .ok (.isub, 1) := by decide +kernel
theorem dX9_onUser_50 : decode cX9_onUser 50 = .ok (.putfield 84, 3) := by decide +kernel
theorem dX9_onUser_53 : decode cX9_onUser 53 = .ok (.iload_n 2, 1) := by decide +kernel
theorem dX9_onUser_54 : decode cX9_onUser 54 = .ok (.ifCond .eq 38, 3) := by decide +kernel
theorem dX9_onUser_57 : decode cX9_onUser 57 = .ok (.aload_n 0, 1) := by decide +kernel
theorem dX9_onUser_58 : decode cX9_onUser 58 = .ok (.getfield 34, 3) := by decide +kernel
theorem dX9_onUser_61 : decode cX9_onUser 61 = .ok (.bipush 10, 2) := by decide +kernel
theorem dX9_onUser_63 : decode cX9_onUser 63 = .ok (.iload_n 1, 1) := by decide +kernel
theorem dX9_onUser_64 : decode cX9_onUser 64 = .ok (.imul, 1) := by decide +kernel
theorem dX9_onUser_65 : decode cX9_onUser 65 = .ok (.aload_n 0, 1) := by decide +kernel
theorem dX9_onUser_66 : decode cX9_onUser 66 = .ok (.getfield 31, 3) := by decide +kernel
theorem dX9_onUser_69 : decode cX9_onUser 69 = .ok (.iload_n 1, 1) := by decide +kernel
theorem dX9_onUser_70 : decode cX9_onUser 70 = .ok (.iaload, 1) := by decide +kernel
theorem dX9_onUser_71 : decode cX9_onUser 71 = .ok (.iadd, 1) := by decide +kernel
theorem dX9_onUser_72 : decode cX9_onUser 72 = .ok (.aload_n 0, 1) := by decide +kernel
theorem dX9_onUser_73 : decode cX9_onUser 73 = .ok (.getfield 62, 3) := by decide +kernel
theorem dX9_onUser_76 : decode cX9_onUser 76 = .ok (.aload_n 0, 1) := by decide +kernel
theorem dX9_onUser_77 : decode cX9_onUser 77 = .ok (.getfield 84, 3) := by decide +kernel
theorem dX9_onUser_80 : decode cX9_onUser 80 = .ok (.iaload, 1) := by decide +kernel
theorem dX9_onUser_81 : decode cX9_onUser 81 = .ok (.iastore, 1) := by decide +kernel
theorem dX9_onUser_82 : decode cX9_onUser 82 = .ok (.aload_n 0, 1) := by decide +kernel
theorem dX9_onUser_83 : decode cX9_onUser 83 = .ok (.getfield 31, 3) := by decide +kernel
theorem dX9_onUser_86 : decode cX9_onUser 86 = .ok (.iload_n 1, 1) := by decide +kernel
theorem dX9_onUser_87 : decode cX9_onUser 87 = .ok (.dup2, 1) := by decide +kernel
theorem dX9_onUser_88 : decode cX9_onUser 88 = .ok (.iaload, 1) := by decide +kernel
theorem dX9_onUser_89 : decode cX9_onUser 89 = .ok (.iconst 1, 1) := by decide +kernel
theorem dX9_onUser_90 : decode cX9_onUser 90 = .ok (.iadd, 1) := by decide +kernel
theorem dX9_onUser_91 : decode cX9_onUser 91 = .ok (.iastore, 1) := by decide +kernel
theorem dX9_onUser_92 : decode cX9_onUser 92 = .ok (.aload_n 0, 1) := by decide +kernel
theorem dX9_onUser_93 : decode cX9_onUser 93 = .ok (.iload_n 2, 1) := by decide +kernel
theorem dX9_onUser_94 : decode cX9_onUser 94 = .ok (.ifCond .eq 7, 3) := by decide +kernel
theorem dX9_onUser_97 : decode cX9_onUser 97 = .ok (.iconst 1, 1) := by decide +kernel
theorem dX9_onUser_98 : decode cX9_onUser 98 = .ok (.goto 4, 3) := by decide +kernel
theorem dX9_onUser_101 : decode cX9_onUser 101 = .ok (.iconst 0, 1) := by decide +kernel
theorem dX9_onUser_102 : decode cX9_onUser 102 = .ok (.invokevirtual 107, 3) := by decide +kernel
theorem dX9_onUser_105 : decode cX9_onUser 105 = .ok (.ireturn, 1) := by decide +kernel
set_option maxRecDepth 20000 in
theorem ggX9_ofUser_X9_in : GoodIn wsX9_ofUser wsX9_in := goodIn_r _ [7] (by decide +kernel) (by decide +kernel)
set_option maxRecDepth 20000 in
theorem gX9_ofUser_X9_in : GoodIn wsX9_ofUser (va_wsS RX9 68 yX9_in wsX9_in) := goodIn_app (goodIn_of _ (by decide +kernel)) ggX9_ofUser_X9_in
set_option maxRecDepth 20000 in
theorem ggX9_ofUser_X9_push : GoodIn wsX9_ofUser wsX9_push := goodIn_r _ [11, 2, 12, 13, 14, 15, 16, 17, 18, 19, 20, 21, 22, 23, 24, 25, 26, 27, 28, 29, 30, 31, 32, 33, 34, 35, 36, 37, 38, 39, 40, 41, 42, 43, 44, 45, 46, 47] (by decide +kernel) (by decide +kernel)
set_option maxRecDepth 20000 in
theorem gX9_ofUser_X9_push : GoodIn wsX9_ofUser (wsV RX9 107 RX9 yX9_push wsX9_push) := goodIn_app (goodIn_of _ (by decide +kernel)) ggX9_ofUser_X9_push
theorem dX9_ofUser_0 : decode cX9_ofUser 0 = .ok (.iload_n 1, 1) := by decide +kernel
theorem dX9_ofUser_1 : decode cX9_ofUser 1 = .ok (.iconst 0, 1) := by decide +kernel
theorem dX9_ofUser_2 : decode cX9_ofUser 2 = .ok (.iconst 3, 1) := by decide +kernel
theorem dX9_ofUser_3 : decode cX9_ofUser 3 = .ok (.invokestatic 68, 3) := by decide +kernel
theorem dX9_ofUser_6 : decode cX9_ofUser 6 = .ok (.ifCond .ne 6, 3) := by decide +kernel
theorem dX9_ofUser_9 : decode cX9_ofUser 9 = .ok (.bipush 10, 2) := by decide +kernel
theorem dX9_ofUser_11 : decode cX9_ofUser 11 = .ok (.ireturn, 1) := by decide +kernel
theorem dX9_ofUser_12 : decode cX9_ofUser 12 = .ok (.aload_n 0, 1) := by decide +kernel
theorem dX9_ofUser_13 : decode cX9_ofUser 13 = .ok (.getfield 31, 3) := by decide +kernel
theorem dX9_ofUser_16 : decode cX9_ofUser 16 = .ok (.iload_n 1, 1) := by decide +kernel
theorem dX9_ofUser_17 : decode cX9_ofUser 17 = .ok (.iaload, 1) := by decide +kernel
theorem dX9_ofUser_18 : decode cX9_ofUser 18 = .ok (.ifCond .ne 5, 3) := by decide +kernel
theorem dX9_ofUser_21 : decode cX9_ofUser 21 = .ok (.iconst 1, 1) := by decide +kernel
theorem dX9_ofUser_22 : decode cX9_ofUser 22 = .ok (.ireturn, 1) := by decide +kernel
theorem dX9_ofUser_23 : decode cX9_ofUser 23 = .ok (.aload_n 0, 1) := by decide +kernel
theorem dX9_ofUser_24 : decode cX9_ofUser 24 = .ok (.getfield 84, 3) := by decide +kernel
theorem dX9_ofUser_27 : decode cX9_ofUser 27 = .ok (.bipush 60, 2) := by decide +kernel
theorem dX9_ofUser_29 : decode cX9_ofUser 29 = .ok (.if_icmp .ne 6, 3) := by decide +kernel
theorem dX9_ofUser_32 : decode cX9_ofUser 32 = .ok (.bipush 8, 2) := by decide +kernel
theorem dX9_ofUser_34 : decode cX9_ofUser 34 = .ok (.ireturn, 1) := by decide +kernel
theorem dX9_ofUser_35 : decode cX9_ofUser 35 = .ok (.aload_n 0, 1) := by decide +kernel
theorem dX9_ofUser_36 : decode cX9_ofUser 36 = .ok (.getfield 31, 3) := by decide +kernel
theorem dX9_ofUser_39 : decode cX9_ofUser 39 = .ok (.iload_n 1, 1) := by decide +kernel
theorem dX9_ofUser_40 : decode cX9_ofUser 40 = .ok (.dup2, 1) := by decide +kernel
theorem dX9_ofUser_41 : decode cX9_ofUser 41 = .ok (.iaload, 1) := by decide +kernel
theorem dX9_ofUser_42 : decode cX9_ofUser 42 = .ok (.iconst 1, 1) := by decide +kernel
theorem dX9_ofUser_43 : decode cX9_ofUser 43 = .ok (.isub, 1) := by decide +kernel
theorem dX9_ofUser_44 : decode cX9_ofUser 44 = .ok (.iastore, 1) := by decide +kernel
theorem dX9_ofUser_45 : decode cX9_ofUser 45 = .ok (.aload_n 0, 1) := by decide +kernel
theorem dX9_ofUser_46 : decode cX9_ofUser 46 = .ok (.aload_n 0, 1) := by decide +kernel
theorem dX9_ofUser_47 : decode cX9_ofUser 47 = .ok (.getfield 34, 3) := by decide +kernel
theorem dX9_ofUser_50 : decode cX9_ofUser 50 = .ok (.bipush 10, 2) := by decide +kernel
theorem dX9_ofUser_52 : decode cX9_ofUser 52 = .ok (.iload_n 1, 1) := by decide +kernel
theorem dX9_ofUser_53 : decode cX9_ofUser 53 = .ok (.imul, 1) := by decide +kernel
theorem dX9_ofUser_54 : decode cX9_ofUser 54 = .ok (.aload_n 0, 1) := by decide +kernel
theorem dX9_ofUser_55 : decode cX9_ofUser 55 = .ok (.getfield 31, 3) := by decide +kernel
theorem dX9_ofUser_58 : decode cX9_ofUser 58 = .ok (.iload_n 1, 1) := by decide +kernel
theorem dX9_ofUser_59 : decode cX9_ofUser 59 = .ok (.iaload, 1) := by decide +kernel
theorem dX9_ofUser_60 : decode cX9_ofUser 60 = .ok (.iadd, 1) := by decide +kernel
theorem dX9_ofUser_61 : decode cX9_ofUser 61 = .ok (.iaload, 1) := by decide +kernel
theorem dX9_ofUser_62 : decode cX9_ofUser 62 = .ok (.invokevirtual 107, 3) := by decide +kernel
theorem dX9_ofUser_65 : decode cX9_ofUser 65 = .ok (.ireturn, 1) := by decide +kernel
set_option maxRecDepth 20000 in
theorem ggX9_onLocal_X9_has : GoodIn wsX9_onLocal wsX9_has := goodIn_r _ [11, 5, 12, 1, 20, 21, 22, 23, 24, 25, 26, 27, 28, 29, 30, 31, 32, 33, 34, 35, 36, 37, 38, 39, 40, 41, 42, 43, 44, 45, 46, 47, 48, 49, 50, 51, 52, 53, 54] (by decide +kernel) (by decide +kernel)
set_option maxRecDepth 20000 in
theorem gX9_onLocal_X9_has : GoodIn wsX9_onLocal (wsV RX9 103 RX9 yX9_has wsX9_has) := goodIn_app (goodIn_of _ (by decide +kernel)) ggX9_onLocal_X9_has
set_option maxRecDepth 20000 in
theorem ggX9_onLocal_X9_in : GoodIn wsX9_onLocal wsX9_in := goodIn_r _ [15] (by decide +kernel) (by decide +kernel)
set_option maxRecDepth 20000 in
theorem gX9_onLocal_X9_in : GoodIn wsX9_onLocal (va_wsS RX9 68 yX9_in wsX9_in) := goodIn_app (goodIn_of _ (by decide +kernel)) ggX9_onLocal_X9_in
set_option maxRecDepth 20000 in
theorem ggX9_onLocal_X9_push : GoodIn wsX9_onLocal wsX9_push := goodIn_r _ [19, 5, 6, 20, 21, 22, 23, 24, 25, 26, 27, 28, 29, 30, 31, 32, 33, 34, 35, 36, 37, 38, 39, 40, 41, 42, 43, 44, 45, 46, 47, 48, 49, 50, 51, 52, 53, 54] (by decide +kernel) (by decide +kernel)
set_option maxRecDepth 20000 in
theorem gX9_onLocal_X9_push : GoodIn wsX9_onLocal (wsV RX9 107 RX9 yX9_push wsX9_push) := goodIn_app (goodIn_of _ (by decide +kernel)) ggX9_onLocal_X9_push
theorem dX9_onLocal_0 : decode cX9_onLocal 0 = .ok (.aload_n 0, 1) := by decide +kernel
theorem dX9_onLocal_1 : decode cX9_onLocal 1 = .ok (.getfield 81, 3) := by decide +kernel
theorem dX9_onLocal_4 : decode cX9_onLocal 4 = .ok (.iconst 1, 1) := by decide +kernel
theorem dX9_onLocal_5 : decode cX9_onLocal 5 = .ok (.isub, 1) := by decide +kernel
theorem dX9_onLocal_6 : decode cX9_onLocal 6 = .ok (.istore_n 3, 1) := by decide +kernel
theorem dX9_onLocal_7 : decode cX9_onLocal 7 = .ok (.iload_n 1, 1) := by decide +kernel
theorem dX9_onLocal_8 : decode cX9_onLocal 8 = .ok (.iconst 2, 1) := by decide +kernel
theorem dX9_onLocal_9 : decode cX9_onLocal 9 = .ok (.if_icmp .ne 13, 3) := by decide +kernel
theorem dX9_onLocal_12 : decode cX9_onLocal 12 = .ok (.aload_n 0, 1) := by decide +kernel
theorem dX9_onLocal_13 : decode cX9_onLocal 13 = .ok (.invokevirtual 103, 3) := by decide +kernel
theorem dX9_onLocal_16 : decode cX9_onLocal 16 = .ok (.iconst 1, 1) := by decide +kernel
theorem dX9_onLocal_17 : decode cX9_onLocal 17 = .ok (.if_icmp .ge 5, 3) := by decide +kernel
theorem dX9_onLocal_20 : decode cX9_onLocal 20 = .ok (.iconst 1, 1) := by decide +kernel
theorem dX9_onLocal_21 : decode cX9_onLocal 21 = .ok (.ireturn, 1) := by decide +kernel
theorem dX9_onLocal_22 : decode cX9_onLocal 22 = .ok (.iload_n 2, 1) := by decide +kernel
theorem dX9_onLocal_23 : decode cX9_onLocal 23 = .ok (.iconst 0, 1) := by decide +kernel
theorem dX9_onLocal_24 : decode cX9_onLocal 24 = .ok (.aload_n 0, 1) := by decide +kernel
theorem dX9_onLocal_25 : decode cX9_onLocal 25 = .ok (.getfield 7, 3) := by decide +kernel
theorem dX9_onLocal_28 : decode cX9_onLocal 28 = .ok (.aload_n 0, 1) := by decide +kernel
theorem dX9_onLocal_29 : decode cX9_onLocal 29 = .ok (.getfield 47, 3) := by decide +kernel
theorem dX9_onLocal_32 : decode cX9_onLocal 32 = .ok (.iload_n 3, 1) := by decide +kernel
theorem dX9_onLocal_33 : decode cX9_onLocal 33 = .ok (.iaload, 1) := by decide +kernel
theorem dX9_onLocal_34 : decode cX9_onLocal 34 = .ok (.iaload, 1) := by decide +kernel
theorem dX9_onLocal_35 : decode cX9_onLocal 35 = .ok (.iconst 1, 1) := by decide +kernel
theorem dX9_onLocal_36 : decode cX9_onLocal 36 = .ok (.isub, 1) := by decide +kernel
theorem dX9_onLocal_37 : decode cX9_onLocal 37 = .ok (.invokestatic 68, 3) := by decide +kernel
theorem dX9_onLocal_40 : decode cX9_onLocal 40 = .ok (.ifCond .ne 5, 3) := by decide +kernel
theorem dX9_onLocal_43 : decode cX9_onLocal 43 = .ok (.iconst 2, 1) := by decide +kernel
theorem dX9_onLocal_44 : decode cX9_onLocal 44 = .ok (.ireturn, 1) := by decide +kernel
theorem dX9_onLocal_45 : decode cX9_onLocal 45 = .ok (.iload_n 1, 1) := by decide +kernel
theorem dX9_onLocal_46 : decode cX9_onLocal 46 = .ok (.iconst 1, 1) := by decide +kernel
theorem dX9_onLocal_47 : decode cX9_onLocal 47 = .ok (.if_icmp .ne 19, 3) := by decide +kernel
theorem dX9_onLocal_50 : decode cX9_onLocal 50 = .ok (.aload_n 0, 1) := by decide +kernel
theorem dX9_onLocal_51 : decode cX9_onLocal 51 = .ok (.aload_n 0, 1) := by decide +kernel
theorem dX9_onLocal_52 : decode cX9_onLocal 52 = .ok (.getfield 59, 3) := by decide +kernel
theorem dX9_onLocal_55 : decode cX9_onLocal 55 = .ok (.bipush 15, 2) := by decide +kernel
theorem dX9_onLocal_57 : decode cX9_onLocal 57 = .ok (.iload_n 3, 1) := by decide +kernel
theorem dX9_onLocal_58 : decode cX9_onLocal 58 = .ok (.imul, 1) := by decide +kernel
theorem dX9_onLocal_59 : decode cX9_onLocal 59 = .ok (.iload_n 2, 1) := by decide +kernel
theorem dX9_onLocal_60 : decode cX9_onLocal 60 = .ok (.iadd, 1) := by decide +kernel
theorem dX9_onLocal_61 : decode cX9_onLocal 61 = .ok (.iaload, 1) := by decide +kernel
theorem dX9_onLocal_62 : decode cX9_onLocal 62 = .ok (.invokevirtual 107, 3) := by decide +kernel
theorem dX9_onLocal_65 : decode cX9_onLocal 65 = .ok (.ireturn, 1) := by decide +kernel
theorem dX9_onLocal_66 : decode cX9_onLocal 66 = .ok (.aload_n 0, 1) := by decide +kernel
theorem dX9_onLocal_67 : decode cX9_onLocal 67 = .ok (.dup, 1) := by decide +kernel
theorem dX9_onLocal_68 : decode cX9_onLocal 68 = .ok (.getfield 84, 3) := by decide +kernel
theorem dX9_onLocal_71 : decode cX9_onLocal 71 = .ok (.iconst 1, 1) := by decide +kernel
theorem dX9_onLocal_72 : decode cX9_onLocal 72 = .ok (.isub, 1) := by decide +kernel
theorem dX9_onLocal_73 : decode cX9_onLocal 73 = .ok (.putfield 84, 3) := by decide +kernel
theorem dX9_onLocal_76 : decode cX9_onLocal 76 = .ok (.aload_n 0, 1) := by decide +kernel
theorem dX9_onLocal_77 : decode cX9_onLocal 77 = .ok (.getfield 59, 3) := by decide +kernel
theorem dX9_onLocal_80 : decode cX9_onLocal 80 = .ok (.bipush 15, 2) := by decide +kernel
theorem dX9_onLocal_82 : decode cX9_onLocal 82 = .ok (.iload_n 3, 1) := by decide +kernel
theorem dX9_onLocal_83 : decode cX9_onLocal 83 = .ok (.imul, 1) := by decide +kernel
theorem dX9_onLocal_84 : decode cX9_onLocal 84 = .ok (.iload_n 2, 1) := by decide +kernel
theorem dX9_onLocal_85 : decode cX9_onLocal 85 = .ok (.iadd, 1) := by decide +kernel
theorem dX9_onLocal_86 : decode cX9_onLocal 86 = .ok (.aload_n 0, 1) := by decide +kernel
theorem dX9_onLocal_87 : decode cX9_onLocal 87 = .ok (.getfield 62, 3) := by decide +kernel
theorem dX9_onLocal_90 : decode cX9_onLocal 90 = .ok (.aload_n 0, 1) := by decide +kernel
theorem dX9_onLocal_91 : decode cX9_onLocal 91 = .ok (.getfield 84, 3) := by decide +kernel
theorem dX9_onLocal_94 : decode cX9_onLocal 94 = .ok (.iaload, 1) := by decide +kernel
theorem dX9_onLocal_95 : decode cX9_onLocal 95 = .ok (.iastore, 1) := by decide +kernel
theorem dX9_onLocal_96 : decode cX9_onLocal 96 = .ok (.iconst 0, 1) := by decide +kernel
theorem dX9_onLocal_97 : decode cX9_onLocal 97 = .ok (.ireturn, 1) := by decide +kernel
set_option maxRecDepth 20000 in
theorem ggX9_does_X9_push : GoodIn wsX9_does wsX9_push := goodIn_r _ [10, 2, 4, 68, 69, 70, 71, 72, 73, 74, 75, 76, 77, 78, 79, 80, 81, 82, 83, 84, 85, 86, 87, 88, 89, 90, 91, 92, 93, 94, 95, 96, 97, 98, 99, 100, 101, 102] (by decide +kernel) (by decide +kernel)
set_option maxRecDepth 20000 in
theorem gX9_does_X9_push : GoodIn wsX9_does (wsV RX9 107 RX9 yX9_push wsX9_push) := goodIn_app (goodIn_of _ (by decide +kernel)) ggX9_does_X9_push
set_option maxRecDepth 20000 in
theorem ggX9_does_X9_onLocal : GoodIn wsX9_does wsX9_onLocal := goodIn_r _ [14, 1, 15, 16, 17, 2, 4, 18, 19, 20, 9, 21, 22, 23, 24, 25, 6, 7, 8, 10, 68, 69, 70, 71, 72, 73, 74, 75, 76, 77, 78, 79, 80, 81, 82, 83, 84, 85, 86, 87, 88, 89, 90, 91, 92, 93, 94, 95, 96, 97, 98, 99, 100, 101, 102] (by decide +kernel) (by decide +kernel)
set_option maxRecDepth 20000 in
theorem gX9_does_X9_onLocal : GoodIn wsX9_does (wsV RX9 119 RX9 yX9_onLocal wsX9_onLocal) := goodIn_app (goodIn_of _ (by decide +kernel)) ggX9_does_X9_onLocal
set_option maxRecDepth 20000 in
theorem ggX9_does_X9_reckon : GoodIn wsX9_does wsX9_reckon := goodIn_r _ [29, 4, 2, 18, 19, 20, 9, 21, 22, 1, 6, 7, 8, 10, 68, 69, 70, 71, 72, 73, 74, 75, 76, 77, 78, 79, 80, 81, 82, 83, 84, 85, 86, 87, 88, 89, 90, 91, 92, 93, 94, 95, 96, 97, 98, 99, 100, 101, 102] (by decide +kernel) (by decide +kernel)
set_option maxRecDepth 20000 in
theorem gX9_does_X9_reckon : GoodIn wsX9_does (wsV RX9 123 RX9 yX9_reckon wsX9_reckon) := goodIn_app (goodIn_of _ (by decide +kernel)) ggX9_does_X9_reckon
set_option maxRecDepth 20000 in
theorem ggX9_does_X9_has : GoodIn wsX9_does wsX9_has := goodIn_r _ [21, 2, 22, 1, 68, 69, 70, 71, 72, 73, 74, 75, 76, 77, 78, 79, 80, 81, 82, 83, 84, 85, 86, 87, 88, 89, 90, 91, 92, 93, 94, 95, 96, 97, 98, 99, 100, 101, 102] (by decide +kernel) (by decide +kernel)
set_option maxRecDepth 20000 in
theorem gX9_does_X9_has : GoodIn wsX9_does (wsV RX9 103 RX9 yX9_has wsX9_has) := goodIn_app (goodIn_of _ (by decide +kernel)) ggX9_does_X9_has
set_option maxRecDepth 20000 in
theorem ggX9_does_X9_calls : GoodIn wsX9_does wsX9_calls := goodIn_r _ [33, 1, 2, 4, 18, 19, 20, 9, 21, 22, 34, 35, 36, 37, 38, 23, 24, 25, 39, 40, 41, 42, 16, 3, 5, 15, 17, 43, 44, 68, 69, 70, 71, 72, 73, 74, 75, 76, 77, 78, 79, 80, 81, 82, 83, 84, 85, 86, 87, 88, 89, 90, 91, 92, 93, 94, 95, 96, 97, 98, 99, 100, 101, 102] (by decide +kernel) (by decide +kernel)
set_option maxRecDepth 20000 in
theorem gX9_does_X9_calls : GoodIn wsX9_does (wsV RX9 126 RX9 yX9_calls wsX9_calls) := goodIn_app (goodIn_of _ (by decide +kernel)) ggX9_does_X9_calls
set_option maxRecDepth 20000 in
theorem ggX9_does_X9_closes : GoodIn wsX9_does wsX9_closes := goodIn_r _ [48, 22, 2, 1, 49, 50, 51, 52, 4, 68, 69, 70, 71, 72, 73, 74, 75, 76, 77, 78, 79, 80, 81, 82, 83, 84, 85, 86, 87, 88, 89, 90, 91, 92, 93, 94, 95, 96, 97, 98, 99, 100, 101, 102] (by decide +kernel) (by decide +kernel)
set_option maxRecDepth 20000 in
theorem gX9_does_X9_closes : GoodIn wsX9_does (wsV RX9 115 RX9 yX9_closes wsX9_closes) := goodIn_app (goodIn_of _ (by decide +kernel)) ggX9_does_X9_closes
set_option maxRecDepth 20000 in
theorem ggX9_does_X9_throwsTo : GoodIn wsX9_does wsX9_throwsTo := goodIn_r _ [56, 4, 2, 49, 1, 18, 19, 20, 9, 21, 22, 45, 46, 47, 48, 50, 51, 52, 68, 69, 70, 71, 72, 73, 74, 75, 76, 77, 78, 79, 80, 81, 82, 83, 84, 85, 86, 87, 88, 89, 90, 91, 92, 93, 94, 95, 96, 97, 98, 99, 100, 101, 102] (by decide +kernel) (by decide +kernel)
set_option maxRecDepth 20000 in
theorem gX9_does_X9_throwsTo : GoodIn wsX9_does (wsV RX9 129 RX9 yX9_throwsTo wsX9_throwsTo) := goodIn_app (goodIn_of _ (by decide +kernel)) ggX9_does_X9_throwsTo
set_option maxRecDepth 20000 in
theorem ggX9_does_X9_onUser : GoodIn wsX9_does wsX9_onUser := goodIn_r _ [60, 61, 62, 2, 63, 4, 18, 19, 20, 9, 21, 22, 1, 23, 24, 25, 6, 7, 8, 10, 68, 69, 70, 71, 72, 73, 74, 75, 76, 77, 78, 79, 80, 81, 82, 83, 84, 85, 86, 87, 88, 89, 90, 91, 92, 93, 94, 95, 96, 97, 98, 99, 100, 101, 102] (by decide +kernel) (by decide +kernel)
set_option maxRecDepth 20000 in
theorem gX9_does_X9_onUser : GoodIn wsX9_does (wsV RX9 132 RX9 yX9_onUser wsX9_onUser) := goodIn_app (goodIn_of _ (by decide +kernel)) ggX9_does_X9_onUser
set_option maxRecDepth 20000 in
theorem ggX9_does_X9_ofUser : GoodIn wsX9_does wsX9_ofUser := goodIn_r _ [67, 61, 2, 63, 23, 24, 9, 25, 6, 7, 8, 10, 4, 68, 69, 70, 71, 72, 73, 74, 75, 76, 77, 78, 79, 80, 81, 82, 83, 84, 85, 86, 87, 88, 89, 90, 91, 92, 93, 94, 95, 96, 97, 98, 99, 100, 101, 102] (by decide +kernel) (by decide +kernel)
set_option maxRecDepth 20000 in
theorem gX9_does_X9_ofUser : GoodIn wsX9_does (wsV RX9 135 RX9 yX9_ofUser wsX9_ofUser) := goodIn_app (goodIn_of _ (by decide +kernel)) ggX9_does_X9_ofUser
theorem dX9_does_0 : decode cX9_does 0 = .ok (.aload_n 0, 1) := by decide +kernel
theorem dX9_does_1 : decode cX9_does 1 = .ok (.getfield 81, 3) := by decide +kernel
theorem dX9_does_4 : decode cX9_does 4 = .ok (.iconst 1, 1) := by decide +kernel
theorem dX9_does_5 : decode cX9_does 5 = .ok (.isub, 1) := by decide +kernel
theorem dX9_does_6 : decode cX9_does 6 = .ok (.istore 4, 2) := by decide +kernel
theorem dX9_does_8 : decode cX9_does 8 = .ok (.iload_n 1, 1) := by decide +kernel
theorem dX9_does_9 : decode cX9_does 9 = .ok (.tableswitch 302 0 19 #[95, 101, 101, 108, 108, 108, 108, 108, 114, 166, 176, 183, 212, 221, 226, 238, 244, 250, 278, 108], 95) := by decide +kernel
theorem dX9_does_104 : decode cX9_does 104 = .ok (.aload_n 0, 1) := by decide +kernel
theorem dX9_does_105 : decode cX9_does 105 = .ok (.iload_n 2, 1) := by decide +kernel
theorem dX9_does_106 : decode cX9_does 106 = .ok (.invokevirtual 107, 3) := by decide +kernel
theorem dX9_does_109 : decode cX9_does 109 = .ok (.ireturn, 1) := by decide +kernel
theorem dX9_does_110 : decode cX9_does 110 = .ok (.aload_n 0, 1) := by decide +kernel
theorem dX9_does_111 : decode cX9_does 111 = .ok (.iload_n 1, 1) := by decide +kernel
theorem dX9_does_112 : decode cX9_does 112 = .ok (.iload_n 2, 1) := by decide +kernel
theorem dX9_does_113 : decode cX9_does 113 = .ok (.invokevirtual 119, 3) := by decide +kernel
theorem dX9_does_116 : decode cX9_does 116 = .ok (.ireturn, 1) := by decide +kernel
theorem dX9_does_117 : decode cX9_does 117 = .ok (.aload_n 0, 1) := by decide +kernel
theorem dX9_does_118 : decode cX9_does 118 = .ok (.iload_n 1, 1) := by decide +kernel
theorem dX9_does_119 : decode cX9_does 119 = .ok (.invokevirtual 123, 3) := by decide +kernel
theorem dX9_does_122 : decode cX9_does 122 = .ok (.ireturn, 1) := by decide +kernel
theorem dX9_does_123 : decode cX9_does 123 = .ok (.aload_n 0, 1) := by decide +kernel
theorem dX9_does_124 : decode cX9_does 124 = .ok (.invokevirtual 103, 3) := by decide +kernel
theorem dX9_does_127 : decode cX9_does 127 = .ok (.iconst 1, 1) := by decide +kernel
theorem dX9_does_128 : decode cX9_does 128 = .ok (.if_icmp .ge 5, 3) := by decide +kernel
theorem dX9_does_131 : decode cX9_does 131 = .ok (.iconst 1, 1) := by decide +kernel
theorem dX9_does_132 : decode cX9_does 132 = .ok (.ireturn, 1) := by decide +kernel
theorem dX9_does_133 : decode cX9_does 133 = .ok (.aload_n 0, 1) := by decide +kernel
theorem dX9_does_134 : decode cX9_does 134 = .ok (.dup, 1) := by decide +kernel
theorem dX9_does_135 : decode cX9_does 135 = .ok (.getfield 84, 3) := by decide +kernel
theorem dX9_does_138 : decode cX9_does 138 = .ok (.iconst 1, 1) := by decide +kernel
theorem dX9_does_139 : decode cX9_does 139 = .ok (.isub, 1) := by decide +kernel
theorem dX9_does_140 : decode cX9_does 140 = .ok (.putfield 84, 3) := by decide +kernel
theorem dX9_does_143 : decode cX9_does 143 = .ok (.aload_n 0, 1) := by decide +kernel
theorem dX9_does_144 : decode cX9_does 144 = .ok (.getfield 50, 3) := by decide +kernel
theorem dX9_does_147 : decode cX9_does 147 = .ok (.iload 4, 2) := by decide +kernel
theorem dX9_does_149 : decode cX9_does 149 = .ok (.aload_n 0, 1) := by decide +kernel
theorem dX9_does_150 : decode cX9_does 150 = .ok (.getfield 62, 3) := by decide +kernel
theorem dX9_does_153 : decode cX9_does 153 = .ok (.aload_n 0, 1) := by decide +kernel
theorem dX9_does_154 : decode cX9_does 154 = .ok (.getfield 84, 3) := by decide +kernel
theorem dX9_does_157 : decode cX9_does 157 = .ok (.iaload, 1) := by decide +kernel
theorem dX9_does_158 : decode cX9_does 158 = .ok (.ifCond .ne 7, 3) := by decide +kernel
theorem dX9_does_161 : decode cX9_does 161 = .ok (.iload_n 2, 1) := by decide +kernel
theorem dX9_does_162 : decode cX9_does 162 = .ok (.goto 10, 3) := by decide +kernel
theorem dX9_does_165 : decode cX9_does 165 = .ok (.aload_n 0, 1) := by decide +kernel
theorem dX9_does_166 : decode cX9_does 166 = .ok (.getfield 50, 3) := by decide +kernel
theorem dX9_does_169 : decode cX9_does 169 = .ok (.iload 4, 2) := by decide +kernel
theorem dX9_does_171 : decode cX9_does 171 = .ok (.iaload, 1) := by decide +kernel
theorem dX9_does_172 : decode cX9_does 172 = .ok (.iastore, 1) := by decide +kernel
theorem dX9_does_173 : decode cX9_does 173 = .ok (.iconst 0, 1) := by decide +kernel
theorem dX9_does_174 : decode cX9_does 174 = .ok (.ireturn, 1) := by decide +kernel
theorem dX9_does_175 : decode cX9_does 175 = .ok (.aload_n 0, 1) := by decide +kernel
theorem dX9_does_176 : decode cX9_does 176 = .ok (.getfield 50, 3) := by decide +kernel
theorem dX9_does_179 : decode cX9_does 179 = .ok (.iload 4, 2) := by decide +kernel
theorem dX9_does_181 : decode cX9_does 181 = .ok (.iload_n 2, 1) := by decide +kernel
theorem dX9_does_182 : decode cX9_does 182 = .ok (.iastore, 1) := by decide +kernel
theorem dX9_does_183 : decode cX9_does 183 = .ok (.iconst 0, 1) := by decide +kernel
theorem dX9_does_184 : decode cX9_does 184 = .ok (.ireturn, 1) := by decide +kernel
theorem dX9_does_185 : decode cX9_does 185 = .ok (.aload_n 0, 1) := by decide +kernel
theorem dX9_does_186 : decode cX9_does 186 = .ok (.iload_n 2, 1) := by decide +kernel
theorem dX9_does_187 : decode cX9_does 187 = .ok (.iload_n 3, 1) := by decide +kernel
theorem dX9_does_188 : decode cX9_does 188 = .ok (.invokevirtual 126, 3) := by decide +kernel
theorem dX9_does_191 : decode cX9_does 191 = .ok (.ireturn, 1) := by decide +kernel
theorem dX9_does_192 : decode cX9_does 192 = .ok (.aload_n 0, 1) := by decide +kernel
theorem dX9_does_193 : decode cX9_does 193 = .ok (.invokevirtual 103, 3) := by decide +kernel
theorem dX9_does_196 : decode cX9_does 196 = .ok (.iconst 1, 1) := by decide +kernel
theorem dX9_does_197 : decode cX9_does 197 = .ok (.if_icmp .ge 5, 3) := by decide +kernel
theorem dX9_does_200 : decode cX9_does 200 = .ok (.iconst 1, 1) := by decide +kernel
theorem dX9_does_201 : decode cX9_does 201 = .ok (.ireturn, 1) := by decide +kernel
theorem dX9_does_202 : decode cX9_does 202 = .ok (.aload_n 0, 1) := by decide +kernel
theorem dX9_does_203 : decode cX9_does 203 = .ok (.iload 4, 2) := by decide +kernel
theorem dX9_does_205 : decode cX9_does 205 = .ok (.aload_n 0, 1) := by decide +kernel
theorem dX9_does_206 : decode cX9_does 206 = .ok (.getfield 62, 3) := by decide +kernel
theorem dX9_does_209 : decode cX9_does 209 = .ok (.aload_n 0, 1) := by decide +kernel
theorem dX9_does_210 : decode cX9_does 210 = .ok (.getfield 84, 3) := by decide +kernel
theorem dX9_does_213 : decode cX9_does 213 = .ok (.iconst 1, 1) := by decide +kernel
theorem dX9_does_214 : decode cX9_does 214 = .ok (.isub, 1) := by decide +kernel
theorem dX9_does_215 : decode cX9_does 215 = .ok (.iaload, 1) := by decide +kernel
theorem dX9_does_216 : decode cX9_does 216 = .ok (.invokevirtual 115, 3) := by decide +kernel
theorem dX9_does_219 : decode cX9_does 219 = .ok (.iconst 0, 1) := by decide +kernel
theorem dX9_does_220 : decode cX9_does 220 = .ok (.ireturn, 1) := by decide +kernel
theorem dX9_does_221 : decode cX9_does 221 = .ok (.aload_n 0, 1) := by decide +kernel
theorem dX9_does_222 : decode cX9_does 222 = .ok (.aload_n 0, 1) := by decide +kernel
theorem dX9_does_223 : decode cX9_does 223 = .ok (.getfield 81, 3) := by decide +kernel
theorem dX9_does_226 : decode cX9_does 226 = .ok (.invokevirtual 107, 3) := by decide +kernel
theorem dX9_does_229 : decode cX9_does 229 = .ok (.ireturn, 1) := by decide +kernel
theorem dX9_does_230 : decode cX9_does 230 = .ok (.aload_n 0, 1) := by decide +kernel
theorem dX9_does_231 : decode cX9_does 231 = .ok (.invokevirtual 129, 3) := by decide +kernel
theorem dX9_does_234 : decode cX9_does 234 = .ok (.ireturn, 1) := by decide +kernel
theorem dX9_does_235 : decode cX9_does 235 = .ok (.aload_n 0, 1) := by decide +kernel
theorem dX9_does_236 : decode cX9_does 236 = .ok (.aload_n 0, 1) := by decide +kernel
theorem dX9_does_237 : decode cX9_does 237 = .ok (.getfield 56, 3) := by decide +kernel
theorem dX9_does_240 : decode cX9_does 240 = .ok (.iload 4, 2) := by decide +kernel
theorem dX9_does_242 : decode cX9_does 242 = .ok (.iaload, 1) := by decide +kernel
theorem dX9_does_243 : decode cX9_does 243 = .ok (.invokevirtual 107, 3) := by decide +kernel
theorem dX9_does_246 : decode cX9_does 246 = .ok (.ireturn, 1) := by decide +kernel
theorem dX9_does_247 : decode cX9_does 247 = .ok (.aload_n 0, 1) := by decide +kernel
theorem dX9_does_248 : decode cX9_does 248 = .ok (.iload_n 2, 1) := by decide +kernel
theorem dX9_does_249 : decode cX9_does 249 = .ok (.invokevirtual 132, 3) := by decide +kernel
theorem dX9_does_252 : decode cX9_does 252 = .ok (.ireturn, 1) := by decide +kernel
theorem dX9_does_253 : decode cX9_does 253 = .ok (.aload_n 0, 1) := by decide +kernel
theorem dX9_does_254 : decode cX9_does 254 = .ok (.iload_n 2, 1) := by decide +kernel
theorem dX9_does_255 : decode cX9_does 255 = .ok (.invokevirtual 135, 3) := by decide +kernel
theorem dX9_does_258 : decode cX9_does 258 = .ok (.ireturn, 1) := by decide +kernel
theorem dX9_does_259 : decode cX9_does 259 = .ok (.aload_n 0, 1) := by decide +kernel
theorem dX9_does_260 : decode cX9_does 260 = .ok (.invokevirtual 103, 3) := by decide +kernel
theorem dX9_does_263 : decode cX9_does 263 = .ok (.iconst 1, 1) := by decide +kernel
theorem dX9_does_264 : decode cX9_does 264 = .ok (.if_icmp .ge 7, 3) := by decide +kernel
theorem dX9_does_267 : decode cX9_does 267 = .ok (.iconst 1, 1) := by decide +kernel
theorem dX9_does_268 : decode cX9_does 268 = .ok (.goto 18, 3) := by decide +kernel
theorem dX9_does_271 : decode cX9_does 271 = .ok (.aload_n 0, 1) := by decide +kernel
theorem dX9_does_272 : decode cX9_does 272 = .ok (.aload_n 0, 1) := by decide +kernel
theorem dX9_does_273 : decode cX9_does 273 = .ok (.getfield 62, 3) := by decide +kernel
theorem dX9_does_276 : decode cX9_does 276 = .ok (.aload_n 0, 1) := by decide +kernel
theorem dX9_does_277 : decode cX9_does 277 = .ok (.getfield 84, 3) := by decide +kernel
theorem dX9_does_280 : decode cX9_does 280 = .ok (.iconst 1, 1) := by decide +kernel
theorem dX9_does_281 : decode cX9_does 281 = .ok (.isub, 1) := by decide +kernel
theorem dX9_does_282 : decode cX9_does 282 = .ok (.iaload, 1) := by decide +kernel
theorem dX9_does_283 : decode cX9_does 283 = .ok (.invokevirtual 107, 3) := by decide +kernel
theorem dX9_does_286 : decode cX9_does 286 = .ok (.ireturn, 1) := by decide +kernel
theorem dX9_does_287 : decode cX9_does 287 = .ok (.aload_n 0, 1) := by decide +kernel
theorem dX9_does_288 : decode cX9_does 288 = .ok (.dup, 1) := by decide +kernel
theorem dX9_does_289 : decode cX9_does 289 = .ok (.getfield 84, 3) := by decide +kernel
theorem dX9_does_292 : decode cX9_does 292 = .ok (.aload_n 0, 1) := by decide +kernel
theorem dX9_does_293 : decode cX9_does 293 = .ok (.invokevirtual 103, 3) := by decide +kernel
theorem dX9_does_296 : decode cX9_does 296 = .ok (.iconst 1, 1) := by decide +kernel
theorem dX9_does_297 : decode cX9_does 297 = .ok (.if_icmp .ge 7, 3) := by decide +kernel
theorem dX9_does_300 : decode cX9_does 300 = .ok (.iconst 0, 1) := by decide +kernel
theorem dX9_does_301 : decode cX9_does 301 = .ok (.goto 4, 3) := by decide +kernel
theorem dX9_does_304 : decode cX9_does 304 = .ok (.iconst 1, 1) := by decide +kernel
theorem dX9_does_305 : decode cX9_does 305 = .ok (.isub, 1) := by decide +kernel
theorem dX9_does_306 : decode cX9_does 306 = .ok (.putfield 84, 3) := by decide +kernel
theorem dX9_does_309 : decode cX9_does 309 = .ok (.iconst 0, 1) := by decide +kernel
theorem dX9_does_310 : decode cX9_does 310 = .ok (.ireturn, 1) := by decide +kernel
theorem dX9_does_311 : decode cX9_does 311 = .ok (.bipush 7, 2) := by decide +kernel
theorem dX9_does_313 : decode cX9_does 313 = .ok (.ireturn, 1) := by decide +kernel
theorem dX9_fails_0 : decode cX9_fails 0 = .ok (.aload_n 0, 1) := by decide +kernel
theorem dX9_fails_1 : decode cX9_fails 1 = .ok (.iconst 1, 1) := by decide +kernel
theorem dX9_fails_2 : decode cX9_fails 2 = .ok (.putfield 93, 3) := by decide +kernel
theorem dX9_fails_5 : decode cX9_fails 5 = .ok (.aload_n 0, 1) := by decide +kernel
theorem dX9_fails_6 : decode cX9_fails 6 = .ok (.iconst 3, 1) := by decide +kernel
theorem dX9_fails_7 : decode cX9_fails 7 = .ok (.putfield 97, 3) := by decide +kernel
theorem dX9_fails_10 : decode cX9_fails 10 = .ok (.aload_n 0, 1) := by decide +kernel
theorem dX9_fails_11 : decode cX9_fails 11 = .ok (.aload_n 0, 1) := by decide +kernel
theorem dX9_fails_12 : decode cX9_fails 12 = .ok (.getfield 90, 3) := by decide +kernel
theorem dX9_fails_15 : decode cX9_fails 15 = .ok (.ifCond .lt 8, 3) := by decide +kernel
theorem dX9_fails_18 : decode cX9_fails 18 = .ok (.bipush 11, 2) := by decide +kernel
theorem dX9_fails_20 : decode cX9_fails 20 = .ok (.goto 4, 3) := by decide +kernel
theorem dX9_fails_23 : decode cX9_fails 23 = .ok (.iload_n 1, 1) := by decide +kernel
theorem dX9_fails_24 : decode cX9_fails 24 = .ok (.putfield 138, 3) := by decide +kernel
theorem dX9_fails_27 : decode cX9_fails 27 = .ok (.aload_n 0, 1) := by decide +kernel
theorem dX9_fails_28 : decode cX9_fails 28 = .ok (.aload_n 0, 1) := by decide +kernel
theorem dX9_fails_29 : decode cX9_fails 29 = .ok (.getfield 138, 3) := by decide +kernel
theorem dX9_fails_32 : decode cX9_fails 32 = .ok (.putfield 141, 3) := by decide +kernel
theorem dX9_fails_35 : decode cX9_fails 35 = .ok (.aload_n 0, 1) := by decide +kernel
theorem dX9_fails_36 : decode cX9_fails 36 = .ok (.aload_n 0, 1) := by decide +kernel
theorem dX9_fails_37 : decode cX9_fails 37 = .ok (.getfield 47, 3) := by decide +kernel
theorem dX9_fails_40 : decode cX9_fails 40 = .ok (.aload_n 0, 1) := by decide +kernel
theorem dX9_fails_41 : decode cX9_fails 41 = .ok (.getfield 81, 3) := by decide +kernel
theorem dX9_fails_44 : decode cX9_fails 44 = .ok (.iconst 1, 1) := by decide +kernel
theorem dX9_fails_45 : decode cX9_fails 45 = .ok (.isub, 1) := by decide +kernel
theorem dX9_fails_46 : decode cX9_fails 46 = .ok (.iaload, 1) := by decide +kernel
theorem dX9_fails_47 : decode cX9_fails 47 = .ok (.putfield 144, 3) := by decide +kernel
theorem dX9_fails_50 : decode cX9_fails 50 = .ok (.aload_n 0, 1) := by decide +kernel
theorem dX9_fails_51 : decode cX9_fails 51 = .ok (.iload_n 2, 1) := by decide +kernel
theorem dX9_fails_52 : decode cX9_fails 52 = .ok (.putfield 147, 3) := by decide +kernel
theorem dX9_fails_55 : decode cX9_fails 55 = .ok (.aload_n 0, 1) := by decide +kernel
theorem dX9_fails_56 : decode cX9_fails 56 = .ok (.aload_n 0, 1) := by decide +kernel
theorem dX9_fails_57 : decode cX9_fails 57 = .ok (.getfield 81, 3) := by decide +kernel
theorem dX9_fails_60 : decode cX9_fails 60 = .ok (.putfield 150, 3) := by decide +kernel
theorem dX9_fails_63 : decode cX9_fails 63 = .ok (.return_, 1) := by decide +kernel
set_option maxRecDepth 20000 in
theorem ggX9_step_X9_fails : GoodIn wsX9_step wsX9_fails := goodIn_r _ [20, 11, 21, 4, 22, 23, 6, 1, 24, 25, 26, 90, 91, 92, 93, 94, 95, 96, 97, 98, 99, 100, 101, 102, 103, 104, 105, 106, 107, 108, 109, 110, 111, 112, 113, 114, 115, 116, 117, 118, 119, 120, 121, 122, 123, 124] (by decide +kernel) (by decide +kernel)
set_option maxRecDepth 20000 in
theorem gX9_step_X9_fails : GoodIn wsX9_step (wsV RX9 156 RX9 yX9_fails wsX9_fails) := goodIn_app (goodIn_of _ (by decide +kernel)) ggX9_step_X9_fails
set_option maxRecDepth 20000 in
theorem ggX9_step_X9_in : GoodIn wsX9_step wsX9_in := goodIn_r _ [29] (by decide +kernel) (by decide +kernel)
set_option maxRecDepth 20000 in
theorem gX9_step_X9_in : GoodIn wsX9_step (va_wsS RX9 68 yX9_in wsX9_in) := goodIn_app (goodIn_of _ (by decide +kernel)) ggX9_step_X9_in
set_option maxRecDepth 20000 in
theorem ggX9_step_X9_has : GoodIn wsX9_step wsX9_has := goodIn_r _ [33, 34, 35, 1, 90, 91, 92, 93, 94, 95, 96, 97, 98, 99, 100, 101, 102, 103, 104, 105, 106, 107, 108, 109, 110, 111, 112, 113, 114, 115, 116, 117, 118, 119, 120, 121, 122, 123, 124] (by decide +kernel) (by decide +kernel)
set_option maxRecDepth 20000 in
theorem gX9_step_X9_has : GoodIn wsX9_step (wsV RX9 103 RX9 yX9_has wsX9_has) := goodIn_app (goodIn_of _ (by decide +kernel)) ggX9_step_X9_has
set_option maxRecDepth 20000 in
theorem ggX9_step_X9_does : GoodIn wsX9_step wsX9_does := goodIn_r _ [39, 1, 34, 2, 15, 40, 41, 42, 43, 19, 44, 45, 46, 47, 48, 49, 6, 50, 30, 31, 32, 33, 35, 27, 28, 29, 51, 52, 53, 54, 55, 56, 57, 58, 59, 60, 61, 62, 63, 64, 65, 66, 67, 68, 69, 70, 71, 72, 73, 4, 11, 21, 74, 75, 76, 77, 78, 79, 80, 81, 82, 83, 84, 85, 86, 87, 88, 89, 90, 91, 92, 93, 94, 95, 96, 97, 98, 99, 100, 101, 102, 103, 104, 105, 106, 107, 108, 109, 110, 111, 112, 113, 114, 115, 116, 117, 118, 119, 120, 121, 122, 123, 124] (by decide +kernel) (by decide +kernel)
set_option maxRecDepth 20000 in
theorem gX9_step_X9_does : GoodIn wsX9_step (wsV RX9 162 RX9 yX9_does wsX9_does) := goodIn_app (goodIn_of _ (by decide +kernel)) ggX9_step_X9_does
set_option maxRecDepth 20000 in
theorem ggX9_step_X9_opens : GoodIn wsX9_step wsX9_opens := goodIn_r _ [67, 1, 6, 2, 35, 34, 40, 49, 50, 68, 69, 90, 91, 92, 93, 94, 95, 96, 97, 98, 99, 100, 101, 102, 103, 104, 105, 106, 107, 108, 109, 110, 111, 112, 113, 114, 115, 116, 117, 118, 119, 120, 121, 122, 123, 124] (by decide +kernel) (by decide +kernel)
set_option maxRecDepth 20000 in
theorem gX9_step_X9_opens : GoodIn wsX9_step (wsV RX9 111 RX9 yX9_opens wsX9_opens) := goodIn_app (goodIn_of _ (by decide +kernel)) ggX9_step_X9_opens
theorem dX9_step_0 : decode cX9_step 0 = .ok (.aload_n 0, 1) := by decide +kernel
theorem dX9_step_1 : decode cX9_step 1 = .ok (.getfield 81, 3) := by decide +kernel
theorem dX9_step_4 : decode cX9_step 4 = .ok (.iconst 1, 1) := by decide +kernel
theorem dX9_step_5 : decode cX9_step 5 = .ok (.isub, 1) := by decide +kernel
theorem dX9_step_6 : decode cX9_step 6 = .ok (.istore_n 2, 1) := by decide +kernel
theorem dX9_step_7 : decode cX9_step 7 = .ok (.aload_n 0, 1) := by decide +kernel
theorem dX9_step_8 : decode cX9_step 8 = .ok (.getfield 50, 3) := by decide +kernel
theorem dX9_step_11 : decode cX9_step 11 = .ok (.iload_n 2, 1) := by decide +kernel
theorem dX9_step_12 : decode cX9_step 12 = .ok (.iaload, 1) := by decide +kernel
theorem dX9_step_13 : decode cX9_step 13 = .ok (.istore_n 3, 1) := by decide +kernel
theorem dX9_step_14 : decode cX9_step 14 = .ok (.aload_n 0, 1) := by decide +kernel
theorem dX9_step_15 : decode cX9_step 15 = .ok (.getfield 153, 3) := by decide +kernel
theorem dX9_step_18 : decode cX9_step 18 = .ok (.iload_n 1, 1) := by decide +kernel
theorem dX9_step_19 : decode cX9_step 19 = .ok (.if_icmp .ne 11, 3) := by decide +kernel
theorem dX9_step_22 : decode cX9_step 22 = .ok (.aload_n 0, 1) := by decide +kernel
theorem dX9_step_23 : decode cX9_step 23 = .ok (.bipush 9, 2) := by decide +kernel
theorem dX9_step_25 : decode cX9_step 25 = .ok (.iload_n 3, 1) := by decide +kernel
theorem dX9_step_26 : decode cX9_step 26 = .ok (.invokevirtual 156, 3) := by decide +kernel
theorem dX9_step_29 : decode cX9_step 29 = .ok (.return_, 1) := by decide +kernel
theorem dX9_step_30 : decode cX9_step 30 = .ok (.aload_n 0, 1) := by decide +kernel
theorem dX9_step_31 : decode cX9_step 31 = .ok (.getfield 90, 3) := by decide +kernel
theorem dX9_step_34 : decode cX9_step 34 = .ok (.ifCond .ge 7, 3) := by decide +kernel
theorem dX9_step_37 : decode cX9_step 37 = .ok (.iconst 1, 1) := by decide +kernel
theorem dX9_step_38 : decode cX9_step 38 = .ok (.goto 4, 3) := by decide +kernel
theorem dX9_step_41 : decode cX9_step 41 = .ok (.iconst 0, 1) := by decide +kernel
theorem dX9_step_42 : decode cX9_step 42 = .ok (.istore 4, 2) := by decide +kernel
theorem dX9_step_44 : decode cX9_step 44 = .ok (.aload_n 0, 1) := by decide +kernel
theorem dX9_step_45 : decode cX9_step 45 = .ok (.dup, 1) := by decide +kernel
theorem dX9_step_46 : decode cX9_step 46 = .ok (.getfield 153, 3) := by decide +kernel
theorem dX9_step_49 : decode cX9_step 49 = .ok (.iconst 1, 1) := by decide +kernel
theorem dX9_step_50 : decode cX9_step 50 = .ok (.iadd, 1) := by decide +kernel
theorem dX9_step_51 : decode cX9_step 51 = .ok (.putfield 153, 3) := by decide +kernel
theorem dX9_step_54 : decode cX9_step 54 = .ok (.aload_n 0, 1) := by decide +kernel
theorem dX9_step_55 : decode cX9_step 55 = .ok (.dup, 1) := by decide +kernel
theorem dX9_step_56 : decode cX9_step 56 = .ok (.getfield 159, 3) := by decide +kernel
theorem dX9_step_59 : decode cX9_step 59 = .ok (.iload 4, 2) := by decide +kernel
theorem dX9_step_61 : decode cX9_step 61 = .ok (.ifCond .eq 7, 3) := by decide +kernel
theorem dX9_step_64 : decode cX9_step 64 = .ok (.iconst 1, 1) := by decide +kernel
theorem dX9_step_65 : decode cX9_step 65 = .ok (.goto 4, 3) := by decide +kernel
theorem dX9_step_68 : decode cX9_step 68 = .ok (.iconst 0, 1) := by decide +kernel
theorem dX9_step_69 : decode cX9_step 69 = .ok (.iadd, 1) := by decide +kernel
theorem dX9_step_70 : decode cX9_step 70 = .ok (.putfield 159, 3) := by decide +kernel
theorem dX9_step_73 : decode cX9_step 73 = .ok (.bipush 24, 2) := by decide +kernel
theorem dX9_step_75 : decode cX9_step 75 = .ok (.aload_n 0, 1) := by decide +kernel
theorem dX9_step_76 : decode cX9_step 76 = .ok (.getfield 47, 3) := by decide +kernel
theorem dX9_step_79 : decode cX9_step 79 = .ok (.iload_n 2, 1) := by decide +kernel
theorem dX9_step_80 : decode cX9_step 80 = .ok (.iaload, 1) := by decide +kernel
theorem dX9_step_81 : decode cX9_step 81 = .ok (.imul, 1) := by decide +kernel
theorem dX9_step_82 : decode cX9_step 82 = .ok (.iload_n 3, 1) := by decide +kernel
theorem dX9_step_83 : decode cX9_step 83 = .ok (.iadd, 1) := by decide +kernel
theorem dX9_step_84 : decode cX9_step 84 = .ok (.istore 5, 2) := by decide +kernel
theorem dX9_step_86 : decode cX9_step 86 = .ok (.iload_n 3, 1) := by decide +kernel
theorem dX9_step_87 : decode cX9_step 87 = .ok (.iconst 0, 1) := by decide +kernel
theorem dX9_step_88 : decode cX9_step 88 = .ok (.aload_n 0, 1) := by decide +kernel
theorem dX9_step_89 : decode cX9_step 89 = .ok (.getfield 16, 3) := by decide +kernel
theorem dX9_step_92 : decode cX9_step 92 = .ok (.aload_n 0, 1) := by decide +kernel
theorem dX9_step_93 : decode cX9_step 93 = .ok (.getfield 47, 3) := by decide +kernel
theorem dX9_step_96 : decode cX9_step 96 = .ok (.iload_n 2, 1) := by decide +kernel
theorem dX9_step_97 : decode cX9_step 97 = .ok (.iaload, 1) := by decide +kernel
theorem dX9_step_98 : decode cX9_step 98 = .ok (.iaload, 1) := by decide +kernel
theorem dX9_step_99 : decode cX9_step 99 = .ok (.iconst 1, 1) := by decide +kernel
theorem dX9_step_100 : decode cX9_step 100 = .ok (.isub, 1) := by decide +kernel
theorem dX9_step_101 : decode cX9_step 101 = .ok (.invokestatic 68, 3) := by decide +kernel
theorem dX9_step_104 : decode cX9_step 104 = .ok (.istore 6, 2) := by decide +kernel
theorem dX9_step_106 : decode cX9_step 106 = .ok (.bipush 7, 2) := by decide +kernel
theorem dX9_step_108 : decode cX9_step 108 = .ok (.istore 7, 2) := by decide +kernel
theorem dX9_step_110 : decode cX9_step 110 = .ok (.iload 6, 2) := by decide +kernel
theorem dX9_step_112 : decode cX9_step 112 = .ok (.ifCond .eq 75, 3) := by decide +kernel
theorem dX9_step_115 : decode cX9_step 115 = .ok (.aload_n 0, 1) := by decide +kernel
theorem dX9_step_116 : decode cX9_step 116 = .ok (.getfield 19, 3) := by decide +kernel
theorem dX9_step_119 : decode cX9_step 119 = .ok (.iload 5, 2) := by decide +kernel
theorem dX9_step_121 : decode cX9_step 121 = .ok (.iaload, 1) := by decide +kernel
theorem dX9_step_122 : decode cX9_step 122 = .ok (.bipush 18, 2) := by decide +kernel
theorem dX9_step_124 : decode cX9_step 124 = .ok (.if_icmp .ne 15, 3) := by decide +kernel
theorem dX9_step_127 : decode cX9_step 127 = .ok (.aload_n 0, 1) := by decide +kernel
theorem dX9_step_128 : decode cX9_step 128 = .ok (.invokevirtual 103, 3) := by decide +kernel
theorem dX9_step_131 : decode cX9_step 131 = .ok (.iconst 1, 1) := by decide +kernel
theorem dX9_step_132 : decode cX9_step 132 = .ok (.if_icmp .ge 7, 3) := by decide +kernel
theorem dX9_step_135 : decode cX9_step 135 = .ok (.iconst 1, 1) := by decide +kernel
theorem dX9_step_136 : decode cX9_step 136 = .ok (.goto 4, 3) := by decide +kernel
theorem dX9_step_139 : decode cX9_step 139 = .ok (.iconst 0, 1) := by decide +kernel
theorem dX9_step_140 : decode cX9_step 140 = .ok (.istore 8, 2) := by decide +kernel
theorem dX9_step_142 : decode cX9_step 142 = .ok (.aload_n 0, 1) := by decide +kernel
theorem dX9_step_143 : decode cX9_step 143 = .ok (.getfield 50, 3) := by decide +kernel
theorem dX9_step_146 : decode cX9_step 146 = .ok (.iload_n 2, 1) := by decide +kernel
theorem dX9_step_147 : decode cX9_step 147 = .ok (.iload_n 3, 1) := by decide +kernel
theorem dX9_step_148 : decode cX9_step 148 = .ok (.iconst 1, 1) := by decide +kernel
theorem dX9_step_149 : decode cX9_step 149 = .ok (.iadd, 1) := by decide +kernel
theorem dX9_step_150 : decode cX9_step 150 = .ok (.iastore, 1) := by decide +kernel
theorem dX9_step_151 : decode cX9_step 151 = .ok (.iload 8, 2) := by decide +kernel
theorem dX9_step_153 : decode cX9_step 153 = .ok (.ifCond .eq 7, 3) := by decide +kernel
theorem dX9_step_156 : decode cX9_step 156 = .ok (.iconst 1, 1) := by decide +kernel
theorem dX9_step_157 : decode cX9_step 157 = .ok (.goto 28, 3) := by decide +kernel
theorem dX9_step_160 : decode cX9_step 160 = .ok (.aload_n 0, 1) := by decide +kernel
theorem dX9_step_161 : decode cX9_step 161 = .ok (.aload_n 0, 1) := by decide +kernel
theorem dX9_step_162 : decode cX9_step 162 = .ok (.getfield 19, 3) := by decide +kernel
theorem dX9_step_165 : decode cX9_step 165 = .ok (.iload 5, 2) := by decide +kernel
theorem dX9_step_167 : decode cX9_step 167 = .ok (.iaload, 1) := by decide +kernel
theorem dX9_step_168 : decode cX9_step 168 = .ok (.aload_n 0, 1) := by decide +kernel
theorem dX9_step_169 : decode cX9_step 169 = .ok (.getfield 22, 3) := by decide +kernel
theorem dX9_step_172 : decode cX9_step 172 = .ok (.iload 5, 2) := by decide +kernel
theorem dX9_step_174 : decode cX9_step 174 = .ok (.iaload, 1) := by decide +kernel
theorem dX9_step_175 : decode cX9_step 175 = .ok (.aload_n 0, 1) := by decide +kernel
theorem dX9_step_176 : decode cX9_step 176 = .ok (.getfield 25, 3) := by decide +kernel
theorem dX9_step_179 : decode cX9_step 179 = .ok (.iload 5, 2) := by decide +kernel
theorem dX9_step_181 : decode cX9_step 181 = .ok (.iaload, 1) := by decide +kernel
theorem dX9_step_182 : decode cX9_step 182 = .ok (.invokevirtual 162, 3) := by decide +kernel
theorem dX9_step_185 : decode cX9_step 185 = .ok (.istore 7, 2) := by decide +kernel
theorem dX9_step_187 : decode cX9_step 187 = .ok (.iload 7, 2) := by decide +kernel
theorem dX9_step_189 : decode cX9_step 189 = .ok (.ifCond .eq 11, 3) := by decide +kernel
theorem dX9_step_192 : decode cX9_step 192 = .ok (.aload_n 0, 1) := by decide +kernel
theorem dX9_step_193 : decode cX9_step 193 = .ok (.iload 7, 2) := by decide +kernel
theorem dX9_step_195 : decode cX9_step 195 = .ok (.iload_n 3, 1) := by decide +kernel
theorem dX9_step_196 : decode cX9_step 196 = .ok (.invokevirtual 156, 3) := by decide +kernel
theorem dX9_step_199 : decode cX9_step 199 = .ok (.return_, 1) := by decide +kernel
theorem dX9_step_200 : decode cX9_step 200 = .ok (.iload 4, 2) := by decide +kernel
theorem dX9_step_202 : decode cX9_step 202 = .ok (.ifCond .eq 95, 3) := by decide +kernel
theorem dX9_step_205 : decode cX9_step 205 = .ok (.aload_n 0, 1) := by decide +kernel
theorem dX9_step_206 : decode cX9_step 206 = .ok (.getfield 93, 3) := by decide +kernel
theorem dX9_step_209 : decode cX9_step 209 = .ok (.ifCond .ne 88, 3) := by decide +kernel
theorem dX9_step_212 : decode cX9_step 212 = .ok (.aload_n 0, 1) := by decide +kernel
theorem dX9_step_213 : decode cX9_step 213 = .ok (.getfield 37, 3) := by decide +kernel
theorem dX9_step_216 : decode cX9_step 216 = .ok (.ifCond .lt 81, 3) := by decide +kernel
theorem dX9_step_219 : decode cX9_step 219 = .ok (.aload_n 0, 1) := by decide +kernel
theorem dX9_step_220 : decode cX9_step 220 = .ok (.getfield 159, 3) := by decide +kernel
theorem dX9_step_223 : decode cX9_step 223 = .ok (.aload_n 0, 1) := by decide +kernel
theorem dX9_step_224 : decode cX9_step 224 = .ok (.getfield 41, 3) := by decide +kernel
theorem dX9_step_227 : decode cX9_step 227 = .ok (.irem, 1) := by decide +kernel
theorem dX9_step_228 : decode cX9_step 228 = .ok (.ifCond .ne 69, 3) := by decide +kernel
theorem dX9_step_231 : decode cX9_step 231 = .ok (.aload_n 0, 1) := by decide +kernel
theorem dX9_step_232 : decode cX9_step 232 = .ok (.getfield 81, 3) := by decide +kernel
theorem dX9_step_235 : decode cX9_step 235 = .ok (.bipush 25, 2) := by decide +kernel
theorem dX9_step_237 : decode cX9_step 237 = .ok (.if_icmp .ne 28, 3) := by decide +kernel
theorem dX9_step_240 : decode cX9_step 240 = .ok (.aload_n 0, 1) := by decide +kernel
theorem dX9_step_241 : decode cX9_step 241 = .ok (.bipush 25, 2) := by decide +kernel
theorem dX9_step_243 : decode cX9_step 243 = .ok (.putfield 90, 3) := by decide +kernel
theorem dX9_step_246 : decode cX9_step 246 = .ok (.aload_n 0, 1) := by decide +kernel
theorem dX9_step_247 : decode cX9_step 247 = .ok (.iconst 4, 1) := by decide +kernel
theorem dX9_step_248 : decode cX9_step 248 = .ok (.aload_n 0, 1) := by decide +kernel
theorem dX9_step_249 : decode cX9_step 249 = .ok (.getfield 50, 3) := by decide +kernel
theorem dX9_step_252 : decode cX9_step 252 = .ok (.aload_n 0, 1) := by decide +kernel
theorem dX9_step_253 : decode cX9_step 253 = .ok (.getfield 81, 3) := by decide +kernel
theorem dX9_step_256 : decode cX9_step 256 = .ok (.iconst 1, 1) := by decide +kernel
theorem dX9_step_257 : decode cX9_step 257 = .ok (.isub, 1) := by decide +kernel
theorem dX9_step_258 : decode cX9_step 258 = .ok (.iaload, 1) := by decide +kernel
theorem dX9_step_259 : decode cX9_step 259 = .ok (.invokevirtual 156, 3) := by decide +kernel
theorem dX9_step_262 : decode cX9_step 262 = .ok (.goto 35, 3) := by decide +kernel
theorem dX9_step_265 : decode cX9_step 265 = .ok (.aload_n 0, 1) := by decide +kernel
theorem dX9_step_266 : decode cX9_step 266 = .ok (.dup, 1) := by decide +kernel
theorem dX9_step_267 : decode cX9_step 267 = .ok (.getfield 166, 3) := by decide +kernel
theorem dX9_step_270 : decode cX9_step 270 = .ok (.iconst 1, 1) := by decide +kernel
theorem dX9_step_271 : decode cX9_step 271 = .ok (.iadd, 1) := by decide +kernel
theorem dX9_step_272 : decode cX9_step 272 = .ok (.putfield 166, 3) := by decide +kernel
theorem dX9_step_275 : decode cX9_step 275 = .ok (.aload_n 0, 1) := by decide +kernel
theorem dX9_step_276 : decode cX9_step 276 = .ok (.aload_n 0, 1) := by decide +kernel
theorem dX9_step_277 : decode cX9_step 277 = .ok (.getfield 81, 3) := by decide +kernel
theorem dX9_step_280 : decode cX9_step 280 = .ok (.putfield 90, 3) := by decide +kernel
theorem dX9_step_283 : decode cX9_step 283 = .ok (.aload_n 0, 1) := by decide +kernel
theorem dX9_step_284 : decode cX9_step 284 = .ok (.aload_n 0, 1) := by decide +kernel
theorem dX9_step_285 : decode cX9_step 285 = .ok (.getfield 37, 3) := by decide +kernel
theorem dX9_step_288 : decode cX9_step 288 = .ok (.iconst 0, 1) := by decide +kernel
theorem dX9_step_289 : decode cX9_step 289 = .ok (.aload_n 0, 1) := by decide +kernel
theorem dX9_step_290 : decode cX9_step 290 = .ok (.getfield 62, 3) := by decide +kernel
theorem dX9_step_293 : decode cX9_step 293 = .ok (.iconst 0, 1) := by decide +kernel
theorem dX9_step_294 : decode cX9_step 294 = .ok (.invokevirtual 111, 3) := by decide +kernel
theorem dX9_step_297 : decode cX9_step 297 = .ok (.return_, 1) := by decide +kernel
set_option maxRecDepth 20000 in
theorem ggX9_run_X9_isRoutine : GoodIn wsX9_run wsX9_isRoutine := goodIn_r _ [24, 25, 26, 27, 23, 28, 98, 99, 100, 101, 102, 103, 104, 105, 106, 107, 108, 109, 110, 111, 112, 113, 114, 115, 116, 117, 118, 119, 120, 121, 122, 123, 124, 125, 126, 127, 128, 129, 130, 131, 132] (by decide +kernel) (by decide +kernel)
set_option maxRecDepth 20000 in
theorem gX9_run_X9_isRoutine : GoodIn wsX9_run (wsV RX9 74 RX9 yX9_isRoutine wsX9_isRoutine) := goodIn_app (goodIn_of _ (by decide +kernel)) ggX9_run_X9_isRoutine
set_option maxRecDepth 20000 in
theorem ggX9_run_X9_in : GoodIn wsX9_run wsX9_in := goodIn_r _ [28] (by decide +kernel) (by decide +kernel)
set_option maxRecDepth 20000 in
theorem gX9_run_X9_in : GoodIn wsX9_run (va_wsS RX9 68 yX9_in wsX9_in) := goodIn_app (goodIn_of _ (by decide +kernel)) ggX9_run_X9_in
set_option maxRecDepth 20000 in
theorem ggX9_run_X9_opens : GoodIn wsX9_run wsX9_opens := goodIn_r _ [32, 2, 33, 34, 35, 3, 36, 37, 38, 39, 9, 98, 99, 100, 101, 102, 103, 104, 105, 106, 107, 108, 109, 110, 111, 112, 113, 114, 115, 116, 117, 118, 119, 120, 121, 122, 123, 124, 125, 126, 127, 128, 129, 130, 131, 132] (by decide +kernel) (by decide +kernel)
set_option maxRecDepth 20000 in
theorem gX9_run_X9_opens : GoodIn wsX9_run (wsV RX9 111 RX9 yX9_opens wsX9_opens) := goodIn_app (goodIn_of _ (by decide +kernel)) ggX9_run_X9_opens
set_option maxRecDepth 20000 in
theorem ggX9_run_X9_step : GoodIn wsX9_run wsX9_step := goodIn_r _ [43, 2, 34, 6, 4, 7, 33, 44, 45, 46, 47, 5, 48, 49, 8, 50, 51, 52, 53, 23, 54, 16, 18, 10, 11, 12, 13, 26, 27, 28, 55, 56, 57, 58, 3, 35, 59, 60, 61, 62, 36, 63, 64, 65, 66, 67, 68, 69, 70, 37, 38, 71, 72, 73, 74, 75, 76, 77, 78, 20, 21, 22, 24, 25, 29, 30, 31, 32, 39, 9, 79, 80, 81, 82, 19, 83, 84, 85, 86, 87, 88, 89, 90, 91, 92, 93, 94, 95, 96, 97, 98, 99, 100, 101, 102, 103, 104, 105, 106, 107, 108, 109, 110, 111, 112, 113, 114, 115, 116, 117, 118, 119, 120, 121, 122, 123, 124, 125, 126, 127, 128, 129, 130, 131, 132] (by decide +kernel) (by decide +kernel)
set_option maxRecDepth 20000 in
theorem gX9_run_X9_step : GoodIn wsX9_run (wsV RX9 169 RX9 yX9_step wsX9_step) := goodIn_app (goodIn_of _ (by decide +kernel)) ggX9_run_X9_step
theorem dX9_run_0 : decode cX9_run 0 = .ok (.aload_n 0, 1) := by decide +kernel
theorem dX9_run_1 : decode cX9_run 1 = .ok (.iload_n 1, 1) := by decide +kernel
theorem dX9_run_2 : decode cX9_run 2 = .ok (.invokevirtual 74, 3) := by decide +kernel
theorem dX9_run_5 : decode cX9_run 5 = .ok (.ifCond .eq 14, 3) := by decide +kernel
theorem dX9_run_8 : decode cX9_run 8 = .ok (.iload_n 2, 1) := by decide +kernel
theorem dX9_run_9 : decode cX9_run 9 = .ok (.iconst 0, 1) := by decide +kernel
theorem dX9_run_10 : decode cX9_run 10 = .ok (.sipush 2000, 3) := by decide +kernel
theorem dX9_run_13 : decode cX9_run 13 = .ok (.invokestatic 68, 3) := by decide +kernel
theorem dX9_run_16 : decode cX9_run 16 = .ok (.ifCond .ne 6, 3) := by decide +kernel
theorem dX9_run_19 : decode cX9_run 19 = .ok (.ldc 72, 2) := by decide +kernel
theorem dX9_run_21 : decode cX9_run 21 = .ok (.ireturn, 1) := by decide +kernel
theorem dX9_run_22 : decode cX9_run 22 = .ok (.aload_n 0, 1) := by decide +kernel
theorem dX9_run_23 : decode cX9_run 23 = .ok (.iconst 0, 1) := by decide +kernel
theorem dX9_run_24 : decode cX9_run 24 = .ok (.putfield 81, 3) := by decide +kernel
theorem dX9_run_27 : decode cX9_run 27 = .ok (.aload_n 0, 1) := by decide +kernel
theorem dX9_run_28 : decode cX9_run 28 = .ok (.iconst 0, 1) := by decide +kernel
theorem dX9_run_29 : decode cX9_run 29 = .ok (.putfield 84, 3) := by decide +kernel
theorem dX9_run_32 : decode cX9_run 32 = .ok (.aload_n 0, 1) := by decide +kernel
theorem dX9_run_33 : decode cX9_run 33 = .ok (.iconst (-1), 1) := by decide +kernel
theorem dX9_run_34 : decode cX9_run 34 = .ok (.putfield 90, 3) := by decide +kernel
theorem dX9_run_37 : decode cX9_run 37 = .ok (.aload_n 0, 1) := by decide +kernel
theorem dX9_run_38 : decode cX9_run 38 = .ok (.iconst 0, 1) := by decide +kernel
theorem dX9_run_39 : decode cX9_run 39 = .ok (.putfield 93, 3) := by decide +kernel
theorem dX9_run_42 : decode cX9_run 42 = .ok (.aload_n 0, 1) := by decide +kernel
theorem dX9_run_43 : decode cX9_run 43 = .ok (.iconst 0, 1) := by decide +kernel
theorem dX9_run_44 : decode cX9_run 44 = .ok (.putfield 153, 3) := by decide +kernel
theorem dX9_run_47 : decode cX9_run 47 = .ok (.aload_n 0, 1) := by decide +kernel
theorem dX9_run_48 : decode cX9_run 48 = .ok (.iconst 0, 1) := by decide +kernel
theorem dX9_run_49 : decode cX9_run 49 = .ok (.putfield 159, 3) := by decide +kernel
theorem dX9_run_52 : decode cX9_run 52 = .ok (.aload_n 0, 1) := by decide +kernel
theorem dX9_run_53 : decode cX9_run 53 = .ok (.iconst 0, 1) := by decide +kernel
theorem dX9_run_54 : decode cX9_run 54 = .ok (.putfield 166, 3) := by decide +kernel
theorem dX9_run_57 : decode cX9_run 57 = .ok (.aload_n 0, 1) := by decide +kernel
theorem dX9_run_58 : decode cX9_run 58 = .ok (.iconst 0, 1) := by decide +kernel
theorem dX9_run_59 : decode cX9_run 59 = .ok (.putfield 87, 3) := by decide +kernel
theorem dX9_run_62 : decode cX9_run 62 = .ok (.aload_n 0, 1) := by decide +kernel
theorem dX9_run_63 : decode cX9_run 63 = .ok (.iconst 0, 1) := by decide +kernel
theorem dX9_run_64 : decode cX9_run 64 = .ok (.putfield 141, 3) := by decide +kernel
theorem dX9_run_67 : decode cX9_run 67 = .ok (.aload_n 0, 1) := by decide +kernel
theorem dX9_run_68 : decode cX9_run 68 = .ok (.iconst 0, 1) := by decide +kernel
theorem dX9_run_69 : decode cX9_run 69 = .ok (.putfield 144, 3) := by decide +kernel
theorem dX9_run_72 : decode cX9_run 72 = .ok (.aload_n 0, 1) := by decide +kernel
theorem dX9_run_73 : decode cX9_run 73 = .ok (.iconst 0, 1) := by decide +kernel
theorem dX9_run_74 : decode cX9_run 74 = .ok (.putfield 147, 3) := by decide +kernel
theorem dX9_run_77 : decode cX9_run 77 = .ok (.aload_n 0, 1) := by decide +kernel
theorem dX9_run_78 : decode cX9_run 78 = .ok (.iconst 0, 1) := by decide +kernel
theorem dX9_run_79 : decode cX9_run 79 = .ok (.putfield 150, 3) := by decide +kernel
theorem dX9_run_82 : decode cX9_run 82 = .ok (.aload_n 0, 1) := by decide +kernel
theorem dX9_run_83 : decode cX9_run 83 = .ok (.iload_n 1, 1) := by decide +kernel
theorem dX9_run_84 : decode cX9_run 84 = .ok (.aload_n 0, 1) := by decide +kernel
theorem dX9_run_85 : decode cX9_run 85 = .ok (.getfield 78, 3) := by decide +kernel
theorem dX9_run_88 : decode cX9_run 88 = .ok (.aload_n 0, 1) := by decide +kernel
theorem dX9_run_89 : decode cX9_run 89 = .ok (.getfield 44, 3) := by decide +kernel
theorem dX9_run_92 : decode cX9_run 92 = .ok (.iconst 0, 1) := by decide +kernel
theorem dX9_run_93 : decode cX9_run 93 = .ok (.invokevirtual 111, 3) := by decide +kernel
theorem dX9_run_96 : decode cX9_run 96 = .ok (.aload_n 0, 1) := by decide +kernel
theorem dX9_run_97 : decode cX9_run 97 = .ok (.iconst 0, 1) := by decide +kernel
theorem dX9_run_98 : decode cX9_run 98 = .ok (.putfield 78, 3) := by decide +kernel
theorem dX9_run_101 : decode cX9_run 101 = .ok (.aload_n 0, 1) := by decide +kernel
theorem dX9_run_102 : decode cX9_run 102 = .ok (.getfield 93, 3) := by decide +kernel
theorem dX9_run_105 : decode cX9_run 105 = .ok (.ifCond .ne 11, 3) := by decide +kernel
theorem dX9_run_108 : decode cX9_run 108 = .ok (.aload_n 0, 1) := by decide +kernel
theorem dX9_run_109 : decode cX9_run 109 = .ok (.iload_n 2, 1) := by decide +kernel
theorem dX9_run_110 : decode cX9_run 110 = .ok (.invokevirtual 169, 3) := by decide +kernel
theorem dX9_run_113 : decode cX9_run 113 = .ok (.goto (-12), 3) := by decide +kernel
theorem dX9_run_116 : decode cX9_run 116 = .ok (.aload_n 0, 1) := by decide +kernel
theorem dX9_run_117 : decode cX9_run 117 = .ok (.getfield 97, 3) := by decide +kernel
theorem dX9_run_120 : decode cX9_run 120 = .ok (.iconst 3, 1) := by decide +kernel
theorem dX9_run_121 : decode cX9_run 121 = .ok (.if_icmp .ne 13, 3) := by decide +kernel
theorem dX9_run_124 : decode cX9_run 124 = .ok (.ldc 173, 2) := by decide +kernel
theorem dX9_run_126 : decode cX9_run 126 = .ok (.aload_n 0, 1) := by decide +kernel
theorem dX9_run_127 : decode cX9_run 127 = .ok (.getfield 138, 3) := by decide +kernel
theorem dX9_run_130 : decode cX9_run 130 = .ok (.isub, 1) := by decide +kernel
theorem dX9_run_131 : decode cX9_run 131 = .ok (.goto 7, 3) := by decide +kernel
theorem dX9_run_134 : decode cX9_run 134 = .ok (.aload_n 0, 1) := by decide +kernel
theorem dX9_run_135 : decode cX9_run 135 = .ok (.getfield 100, 3) := by decide +kernel
theorem dX9_run_138 : decode cX9_run 138 = .ok (.ireturn, 1) := by decide +kernel
theorem dX9_told_0 : decode cX9_told 0 = .ok (.iload_n 1, 1) := by decide +kernel
theorem dX9_told_1 : decode cX9_told 1 = .ok (.tableswitch 87 0 7 #[47, 52, 57, 62, 67, 72, 77, 82], 47) := by decide +kernel
theorem dX9_told_48 : decode cX9_told 48 = .ok (.aload_n 0, 1) := by decide +kernel
theorem dX9_told_49 : decode cX9_told 49 = .ok (.getfield 97, 3) := by decide +kernel
theorem dX9_told_52 : decode cX9_told 52 = .ok (.ireturn, 1) := by decide +kernel
theorem dX9_told_53 : decode cX9_told 53 = .ok (.aload_n 0, 1) := by decide +kernel
theorem dX9_told_54 : decode cX9_told 54 = .ok (.getfield 141, 3) := by decide +kernel
theorem dX9_told_57 : decode cX9_told 57 = .ok (.ireturn, 1) := by decide +kernel
theorem dX9_told_58 : decode cX9_told 58 = .ok (.aload_n 0, 1) := by decide +kernel
theorem dX9_told_59 : decode cX9_told 59 = .ok (.getfield 144, 3) := by decide +kernel
theorem dX9_told_62 : decode cX9_told 62 = .ok (.ireturn, 1) := by decide +kernel
theorem dX9_told_63 : decode cX9_told 63 = .ok (.aload_n 0, 1) := by decide +kernel
theorem dX9_told_64 : decode cX9_told 64 = .ok (.getfield 147, 3) := by decide +kernel
theorem dX9_told_67 : decode cX9_told 67 = .ok (.ireturn, 1) := by decide +kernel
theorem dX9_told_68 : decode cX9_told 68 = .ok (.aload_n 0, 1) := by decide +kernel
theorem dX9_told_69 : decode cX9_told 69 = .ok (.getfield 150, 3) := by decide +kernel
theorem dX9_told_72 : decode cX9_told 72 = .ok (.ireturn, 1) := by decide +kernel
theorem dX9_told_73 : decode cX9_told 73 = .ok (.aload_n 0, 1) := by decide +kernel
theorem dX9_told_74 : decode cX9_told 74 = .ok (.getfield 153, 3) := by decide +kernel
theorem dX9_told_77 : decode cX9_told 77 = .ok (.ireturn, 1) := by decide +kernel
theorem dX9_told_78 : decode cX9_told 78 = .ok (.aload_n 0, 1) := by decide +kernel
theorem dX9_told_79 : decode cX9_told 79 = .ok (.getfield 166, 3) := by decide +kernel
theorem dX9_told_82 : decode cX9_told 82 = .ok (.ireturn, 1) := by decide +kernel
theorem dX9_told_83 : decode cX9_told 83 = .ok (.aload_n 0, 1) := by decide +kernel
theorem dX9_told_84 : decode cX9_told 84 = .ok (.getfield 87, 3) := by decide +kernel
theorem dX9_told_87 : decode cX9_told 87 = .ok (.ireturn, 1) := by decide +kernel
theorem dX9_told_88 : decode cX9_told 88 = .ok (.ldc 72, 2) := by decide +kernel
theorem dX9_told_90 : decode cX9_told 90 = .ok (.ireturn, 1) := by decide +kernel
set_option maxRecDepth 20000 in
theorem ggX9_size_X9_in : GoodIn wsX9_size wsX9_in := goodIn_r _ [7] (by decide +kernel) (by decide +kernel)
set_option maxRecDepth 20000 in
theorem gX9_size_X9_in : GoodIn wsX9_size (va_wsS RX9 68 yX9_in wsX9_in) := goodIn_app (goodIn_of _ (by decide +kernel)) ggX9_size_X9_in
theorem dX9_size_0 : decode cX9_size 0 = .ok (.iload_n 1, 1) := by decide +kernel
theorem dX9_size_1 : decode cX9_size 1 = .ok (.ifCond .ne 10, 3) := by decide +kernel
theorem dX9_size_4 : decode cX9_size 4 = .ok (.aload_n 0, 1) := by decide +kernel
theorem dX9_size_5 : decode cX9_size 5 = .ok (.getfield 65, 3) := by decide +kernel
theorem dX9_size_8 : decode cX9_size 8 = .ok (.goto 28, 3) := by decide +kernel
theorem dX9_size_11 : decode cX9_size 11 = .ok (.iload_n 1, 1) := by decide +kernel
theorem dX9_size_12 : decode cX9_size 12 = .ok (.iconst 1, 1) := by decide +kernel
theorem dX9_size_13 : decode cX9_size 13 = .ok (.aload_n 0, 1) := by decide +kernel
theorem dX9_size_14 : decode cX9_size 14 = .ok (.getfield 65, 3) := by decide +kernel
theorem dX9_size_17 : decode cX9_size 17 = .ok (.invokestatic 68, 3) := by decide +kernel
theorem dX9_size_20 : decode cX9_size 20 = .ok (.ifCond .eq 14, 3) := by decide +kernel
theorem dX9_size_23 : decode cX9_size 23 = .ok (.aload_n 0, 1) := by decide +kernel
theorem dX9_size_24 : decode cX9_size 24 = .ok (.getfield 16, 3) := by decide +kernel
theorem dX9_size_27 : decode cX9_size 27 = .ok (.iload_n 1, 1) := by decide +kernel
theorem dX9_size_28 : decode cX9_size 28 = .ok (.iconst 1, 1) := by decide +kernel
theorem dX9_size_29 : decode cX9_size 29 = .ok (.isub, 1) := by decide +kernel
theorem dX9_size_30 : decode cX9_size 30 = .ok (.iaload, 1) := by decide +kernel
theorem dX9_size_31 : decode cX9_size 31 = .ok (.goto 5, 3) := by decide +kernel
theorem dX9_size_34 : decode cX9_size 34 = .ok (.ldc 72, 2) := by decide +kernel
theorem dX9_size_36 : decode cX9_size 36 = .ok (.ireturn, 1) := by decide +kernel
