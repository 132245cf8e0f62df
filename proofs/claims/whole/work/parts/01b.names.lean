set_option maxRecDepth 20000 in
theorem ggX0_init_X3_init : GoodIn wsX0_init wsX3_init := goodIn_r _ [11, 12, 2, 3, 13, 14, 15, 16, 17, 18, 19] (by decide +kernel) (by decide +kernel)
set_option maxRecDepth 20000 in
theorem gX0_init_X3_init : GoodIn wsX0_init (wsX3_init) := ggX0_init_X3_init
theorem dX0_init_0 : decode cX0_init 0 = .ok (.aload_n 0, 1) := by decide +kernel
theorem dX0_init_1 : decode cX0_init 1 = .ok (.invokespecial 3, 3) := by decide +kernel
theorem dX0_init_4 : decode cX0_init 4 = .ok (.aload_n 0, 1) := by decide +kernel
theorem dX0_init_5 : decode cX0_init 5 = .ok (.new 9, 3) := by decide +kernel
theorem dX0_init_8 : decode cX0_init 8 = .ok (.dup, 1) := by decide +kernel
theorem dX0_init_9 : decode cX0_init 9 = .ok (.bipush 24, 2) := by decide +kernel
theorem dX0_init_11 : decode cX0_init 11 = .ok (.invokespecial 11, 3) := by decide +kernel
theorem dX0_init_14 : decode cX0_init 14 = .ok (.putfield 14, 3) := by decide +kernel
theorem dX0_init_17 : decode cX0_init 17 = .ok (.aload_n 0, 1) := by decide +kernel
theorem dX0_init_18 : decode cX0_init 18 = .ok (.new 9, 3) := by decide +kernel
theorem dX0_init_21 : decode cX0_init 21 = .ok (.dup, 1) := by decide +kernel
theorem dX0_init_22 : decode cX0_init 22 = .ok (.bipush 24, 2) := by decide +kernel
theorem dX0_init_24 : decode cX0_init 24 = .ok (.invokespecial 11, 3) := by decide +kernel
theorem dX0_init_27 : decode cX0_init 27 = .ok (.putfield 20, 3) := by decide +kernel
theorem dX0_init_30 : decode cX0_init 30 = .ok (.return_, 1) := by decide +kernel
set_option maxRecDepth 20000 in
theorem ggX0_seek_X0_reach : GoodIn wsX0_seek wsX0_reach := goodIn_r _ [9, 1, 3, 4, 10, 11, 12, 13, 14, 15, 16, 17, 18, 19, 80, 81, 82, 83, 84, 85, 86, 99] (by decide +kernel) (by decide +kernel)
set_option maxRecDepth 20000 in
theorem gX0_seek_X0_reach : GoodIn wsX0_seek (wsV RX0 41 RX0 yX0_reach wsX0_reach) := goodIn_app (goodIn_of _ (by decide +kernel)) ggX0_seek_X0_reach
set_option maxRecDepth 20000 in
theorem ggX0_seek_X3_get : GoodIn wsX0_seek wsX3_get := goodIn_r _ [14, 15, 99] (by decide +kernel) (by decide +kernel)
set_option maxRecDepth 20000 in
theorem gX0_seek_X3_get : GoodIn wsX0_seek (wsV RX0 45 RX3 yX3_get wsX3_get) := goodIn_app (goodIn_of _ (by decide +kernel)) ggX0_seek_X3_get
set_option maxRecDepth 20000 in
theorem ggX0_seek_X0_goesOn : GoodIn wsX0_seek wsX0_goesOn := goodIn_r _ [23, 24, 25, 26, 27, 28, 29, 30, 31, 32, 33, 34, 35, 36, 37, 38, 39, 40, 11, 12, 13, 14, 15, 41, 42, 43, 44, 45, 46, 47, 48, 49, 50, 51, 52, 53, 54, 55, 56, 57, 5, 6, 7, 8, 9, 1, 3, 4, 10, 16, 17, 18, 19, 87, 88, 89, 90, 91, 92, 93, 94, 95, 96, 97, 98, 99, 100, 80, 81, 82, 83, 84, 85, 86] (by decide +kernel) (by decide +kernel)
set_option maxRecDepth 20000 in
theorem gX0_seek_X0_goesOn : GoodIn wsX0_seek (wsV RX0 49 RX0 yX0_goesOn wsX0_goesOn) := goodIn_app (goodIn_of _ (by decide +kernel)) ggX0_seek_X0_goesOn
set_option maxRecDepth 20000 in
theorem ggX0_seek_X1_sumOf : GoodIn wsX0_seek wsX1_sumOf := goodIn_r _ [61, 34, 62, 63, 64, 27, 65, 29, 30, 31, 32, 33, 41, 42, 43, 44, 45, 46, 87, 88, 89, 90, 91, 92, 93, 94, 95, 96, 97, 98, 100] (by decide +kernel) (by decide +kernel)
set_option maxRecDepth 20000 in
theorem gX0_seek_X1_sumOf : GoodIn wsX0_seek (wsV RX0 53 RX1 yX1_sumOf wsX1_sumOf) := goodIn_app (goodIn_of _ (by decide +kernel)) ggX0_seek_X1_sumOf
set_option maxRecDepth 20000 in
theorem ggX0_seek_X0_noteEnd : GoodIn wsX0_seek wsX0_noteEnd := goodIn_r _ [69, 2, 70, 71, 72, 73, 74, 75, 76, 77, 78, 79, 80, 81, 82, 83, 84, 85, 86] (by decide +kernel) (by decide +kernel)
set_option maxRecDepth 20000 in
theorem gX0_seek_X0_noteEnd : GoodIn wsX0_seek (wsV RX0 56 RX0 yX0_noteEnd wsX0_noteEnd) := goodIn_app (goodIn_of _ (by decide +kernel)) ggX0_seek_X0_noteEnd
theorem dX0_seek_0 : decode cX0_seek 0 = .ok (.aload_n 0, 1) := by decide +kernel
theorem dX0_seek_1 : decode cX0_seek 1 = .ok (.iconst 0, 1) := by decide +kernel
theorem dX0_seek_2 : decode cX0_seek 2 = .ok (.putfield 23, 3) := by decide +kernel
theorem dX0_seek_5 : decode cX0_seek 5 = .ok (.aload_n 0, 1) := by decide +kernel
theorem dX0_seek_6 : decode cX0_seek 6 = .ok (.iconst 0, 1) := by decide +kernel
theorem dX0_seek_7 : decode cX0_seek 7 = .ok (.putfield 27, 3) := by decide +kernel
theorem dX0_seek_10 : decode cX0_seek 10 = .ok (.aload_n 1, 1) := by decide +kernel
theorem dX0_seek_11 : decode cX0_seek 11 = .ok (.ifnonnull 4, 3) := by decide +kernel
theorem dX0_seek_14 : decode cX0_seek 14 = .ok (.return_, 1) := by decide +kernel
theorem dX0_seek_15 : decode cX0_seek 15 = .ok (.aload_n 0, 1) := by decide +kernel
theorem dX0_seek_16 : decode cX0_seek 16 = .ok (.aload_n 1, 1) := by decide +kernel
theorem dX0_seek_17 : decode cX0_seek 17 = .ok (.getfield 30, 3) := by decide +kernel
theorem dX0_seek_20 : decode cX0_seek 20 = .ok (.getfield 36, 3) := by decide +kernel
theorem dX0_seek_23 : decode cX0_seek 23 = .ok (.iconst 0, 1) := by decide +kernel
theorem dX0_seek_24 : decode cX0_seek 24 = .ok (.invokevirtual 41, 3) := by decide +kernel
theorem dX0_seek_27 : decode cX0_seek 27 = .ok (.iconst 0, 1) := by decide +kernel
theorem dX0_seek_28 : decode cX0_seek 28 = .ok (.istore_n 2, 1) := by decide +kernel
theorem dX0_seek_29 : decode cX0_seek 29 = .ok (.iload_n 2, 1) := by decide +kernel
theorem dX0_seek_30 : decode cX0_seek 30 = .ok (.bipush 24, 2) := by decide +kernel
theorem dX0_seek_32 : decode cX0_seek 32 = .ok (.if_icmp .ge 67, 3) := by decide +kernel
theorem dX0_seek_35 : decode cX0_seek 35 = .ok (.iload_n 2, 1) := by decide +kernel
theorem dX0_seek_36 : decode cX0_seek 36 = .ok (.aload_n 0, 1) := by decide +kernel
theorem dX0_seek_37 : decode cX0_seek 37 = .ok (.getfield 23, 3) := by decide +kernel
theorem dX0_seek_40 : decode cX0_seek 40 = .ok (.if_icmp .ge 59, 3) := by decide +kernel
theorem dX0_seek_43 : decode cX0_seek 43 = .ok (.aload_n 0, 1) := by decide +kernel
theorem dX0_seek_44 : decode cX0_seek 44 = .ok (.aload_n 1, 1) := by decide +kernel
theorem dX0_seek_45 : decode cX0_seek 45 = .ok (.aload_n 0, 1) := by decide +kernel
theorem dX0_seek_46 : decode cX0_seek 46 = .ok (.getfield 14, 3) := by decide +kernel
theorem dX0_seek_49 : decode cX0_seek 49 = .ok (.iload_n 2, 1) := by decide +kernel
theorem dX0_seek_50 : decode cX0_seek 50 = .ok (.invokevirtual 45, 3) := by decide +kernel
theorem dX0_seek_53 : decode cX0_seek 53 = .ok (.aload_n 0, 1) := by decide +kernel
theorem dX0_seek_54 : decode cX0_seek 54 = .ok (.getfield 20, 3) := by decide +kernel
theorem dX0_seek_57 : decode cX0_seek 57 = .ok (.iload_n 2, 1) := by decide +kernel
theorem dX0_seek_58 : decode cX0_seek 58 = .ok (.invokevirtual 45, 3) := by decide +kernel
theorem dX0_seek_61 : decode cX0_seek 61 = .ok (.iconst 1, 1) := by decide +kernel
theorem dX0_seek_62 : decode cX0_seek 62 = .ok (.iadd, 1) := by decide +kernel
theorem dX0_seek_63 : decode cX0_seek 63 = .ok (.invokevirtual 49, 3) := by decide +kernel
theorem dX0_seek_66 : decode cX0_seek 66 = .ok (.ifCond .ne 27, 3) := by decide +kernel
theorem dX0_seek_69 : decode cX0_seek 69 = .ok (.aload_n 0, 1) := by decide +kernel
theorem dX0_seek_70 : decode cX0_seek 70 = .ok (.aload_n 1, 1) := by decide +kernel
theorem dX0_seek_71 : decode cX0_seek 71 = .ok (.aload_n 0, 1) := by decide +kernel
theorem dX0_seek_72 : decode cX0_seek 72 = .ok (.getfield 14, 3) := by decide +kernel
theorem dX0_seek_75 : decode cX0_seek 75 = .ok (.iload_n 2, 1) := by decide +kernel
theorem dX0_seek_76 : decode cX0_seek 76 = .ok (.invokevirtual 45, 3) := by decide +kernel
theorem dX0_seek_79 : decode cX0_seek 79 = .ok (.invokevirtual 53, 3) := by decide +kernel
theorem dX0_seek_82 : decode cX0_seek 82 = .ok (.aload_n 0, 1) := by decide +kernel
theorem dX0_seek_83 : decode cX0_seek 83 = .ok (.getfield 20, 3) := by decide +kernel
theorem dX0_seek_86 : decode cX0_seek 86 = .ok (.iload_n 2, 1) := by decide +kernel
theorem dX0_seek_87 : decode cX0_seek 87 = .ok (.invokevirtual 45, 3) := by decide +kernel
theorem dX0_seek_90 : decode cX0_seek 90 = .ok (.invokevirtual 56, 3) := by decide +kernel
theorem dX0_seek_93 : decode cX0_seek 93 = .ok (.iinc 2 1, 3) := by decide +kernel
theorem dX0_seek_96 : decode cX0_seek 96 = .ok (.goto (-67), 3) := by decide +kernel
theorem dX0_seek_99 : decode cX0_seek 99 = .ok (.return_, 1) := by decide +kernel
set_option maxRecDepth 20000 in
theorem ggX0_goesOn_X1_mayIn : GoodIn wsX0_goesOn wsX1_mayIn := goodIn_r _ [5, 6, 7, 8, 9, 4, 10, 11, 12, 13, 14, 15, 16, 17, 18, 19, 20, 21, 22, 23, 24, 25, 26, 27, 28, 29, 30, 31, 53, 54, 55, 56, 57, 58, 59, 60, 61, 62, 63, 64, 65, 66] (by decide +kernel) (by decide +kernel)
set_option maxRecDepth 20000 in
theorem gX0_goesOn_X1_mayIn : GoodIn wsX0_goesOn (wsV RX0 62 RX1 yX1_mayIn wsX1_mayIn) := goodIn_app (goodIn_of _ (by decide +kernel)) ggX0_goesOn_X1_mayIn
set_option maxRecDepth 20000 in
theorem ggX0_goesOn_X1_changed : GoodIn wsX0_goesOn wsX1_changed := goodIn_r _ [35, 7, 8, 9, 4, 10, 11, 36, 37, 38, 39, 53, 54, 55] (by decide +kernel) (by decide +kernel)
set_option maxRecDepth 20000 in
theorem gX0_goesOn_X1_changed : GoodIn wsX0_goesOn (wsV RX0 66 RX1 yX1_changed wsX1_changed) := goodIn_app (goodIn_of _ (by decide +kernel)) ggX0_goesOn_X1_changed
set_option maxRecDepth 20000 in
theorem ggX0_goesOn_X0_reach : GoodIn wsX0_goesOn wsX0_reach := goodIn_r _ [44, 45, 46, 47, 48, 18, 19, 20, 21, 22, 49, 50, 51, 52, 67, 68, 69, 70, 71, 72, 73, 65] (by decide +kernel) (by decide +kernel)
set_option maxRecDepth 20000 in
theorem gX0_goesOn_X0_reach : GoodIn wsX0_goesOn (wsV RX0 41 RX0 yX0_reach wsX0_reach) := goodIn_app (goodIn_of _ (by decide +kernel)) ggX0_goesOn_X0_reach
theorem dX0_goesOn_0 : decode cX0_goesOn 0 = .ok (.aload_n 1, 1) := by decide +kernel
theorem dX0_goesOn_1 : decode cX0_goesOn 1 = .ok (.ifnonnull 5, 3) := by decide +kernel
theorem dX0_goesOn_4 : decode cX0_goesOn 4 = .ok (.iconst 0, 1) := by decide +kernel
theorem dX0_goesOn_5 : decode cX0_goesOn 5 = .ok (.ireturn, 1) := by decide +kernel
theorem dX0_goesOn_6 : decode cX0_goesOn 6 = .ok (.iconst 0, 1) := by decide +kernel
theorem dX0_goesOn_7 : decode cX0_goesOn 7 = .ok (.istore 4, 2) := by decide +kernel
theorem dX0_goesOn_9 : decode cX0_goesOn 9 = .ok (.iconst 0, 1) := by decide +kernel
theorem dX0_goesOn_10 : decode cX0_goesOn 10 = .ok (.istore 5, 2) := by decide +kernel
theorem dX0_goesOn_12 : decode cX0_goesOn 12 = .ok (.iload 5, 2) := by decide +kernel
theorem dX0_goesOn_14 : decode cX0_goesOn 14 = .ok (.iconst 4, 1) := by decide +kernel
theorem dX0_goesOn_15 : decode cX0_goesOn 15 = .ok (.if_icmp .ge 75, 3) := by decide +kernel
theorem dX0_goesOn_18 : decode cX0_goesOn 18 = .ok (.iload 5, 2) := by decide +kernel
theorem dX0_goesOn_20 : decode cX0_goesOn 20 = .ok (.aload_n 1, 1) := by decide +kernel
theorem dX0_goesOn_21 : decode cX0_goesOn 21 = .ok (.getfield 59, 3) := by decide +kernel
theorem dX0_goesOn_24 : decode cX0_goesOn 24 = .ok (.if_icmp .ge 66, 3) := by decide +kernel
theorem dX0_goesOn_27 : decode cX0_goesOn 27 = .ok (.iload 5, 2) := by decide +kernel
theorem dX0_goesOn_29 : decode cX0_goesOn 29 = .ok (.iconst 1, 1) := by decide +kernel
theorem dX0_goesOn_30 : decode cX0_goesOn 30 = .ok (.iadd, 1) := by decide +kernel
theorem dX0_goesOn_31 : decode cX0_goesOn 31 = .ok (.istore 6, 2) := by decide +kernel
theorem dX0_goesOn_33 : decode cX0_goesOn 33 = .ok (.iload 6, 2) := by decide +kernel
theorem dX0_goesOn_35 : decode cX0_goesOn 35 = .ok (.iconst 4, 1) := by decide +kernel
theorem dX0_goesOn_36 : decode cX0_goesOn 36 = .ok (.if_icmp .ge 48, 3) := by decide +kernel
theorem dX0_goesOn_39 : decode cX0_goesOn 39 = .ok (.iload 6, 2) := by decide +kernel
theorem dX0_goesOn_41 : decode cX0_goesOn 41 = .ok (.aload_n 1, 1) := by decide +kernel
theorem dX0_goesOn_42 : decode cX0_goesOn 42 = .ok (.getfield 59, 3) := by decide +kernel
theorem dX0_goesOn_45 : decode cX0_goesOn 45 = .ok (.if_icmp .ge 39, 3) := by decide +kernel
theorem dX0_goesOn_48 : decode cX0_goesOn 48 = .ok (.aload_n 1, 1) := by decide +kernel
theorem dX0_goesOn_49 : decode cX0_goesOn 49 = .ok (.iload_n 2, 1) := by decide +kernel
theorem dX0_goesOn_50 : decode cX0_goesOn 50 = .ok (.iload 5, 2) := by decide +kernel
theorem dX0_goesOn_52 : decode cX0_goesOn 52 = .ok (.iload 6, 2) := by decide +kernel
theorem dX0_goesOn_54 : decode cX0_goesOn 54 = .ok (.invokevirtual 62, 3) := by decide +kernel
theorem dX0_goesOn_57 : decode cX0_goesOn 57 = .ok (.iconst 3, 1) := by decide +kernel
theorem dX0_goesOn_58 : decode cX0_goesOn 58 = .ok (.if_icmp .ne 20, 3) := by decide +kernel
theorem dX0_goesOn_61 : decode cX0_goesOn 61 = .ok (.iconst 1, 1) := by decide +kernel
theorem dX0_goesOn_62 : decode cX0_goesOn 62 = .ok (.istore 4, 2) := by decide +kernel
theorem dX0_goesOn_64 : decode cX0_goesOn 64 = .ok (.aload_n 0, 1) := by decide +kernel
theorem dX0_goesOn_65 : decode cX0_goesOn 65 = .ok (.aload_n 1, 1) := by decide +kernel
theorem dX0_goesOn_66 : decode cX0_goesOn 66 = .ok (.iload_n 2, 1) := by decide +kernel
theorem dX0_goesOn_67 : decode cX0_goesOn 67 = .ok (.iload 5, 2) := by decide +kernel
theorem dX0_goesOn_69 : decode cX0_goesOn 69 = .ok (.iload 6, 2) := by decide +kernel
theorem dX0_goesOn_71 : decode cX0_goesOn 71 = .ok (.invokevirtual 66, 3) := by decide +kernel
theorem dX0_goesOn_74 : decode cX0_goesOn 74 = .ok (.iload_n 3, 1) := by decide +kernel
theorem dX0_goesOn_75 : decode cX0_goesOn 75 = .ok (.invokevirtual 41, 3) := by decide +kernel
theorem dX0_goesOn_78 : decode cX0_goesOn 78 = .ok (.iinc 6 1, 3) := by decide +kernel
theorem dX0_goesOn_81 : decode cX0_goesOn 81 = .ok (.goto (-48), 3) := by decide +kernel
theorem dX0_goesOn_84 : decode cX0_goesOn 84 = .ok (.iinc 5 1, 3) := by decide +kernel
theorem dX0_goesOn_87 : decode cX0_goesOn 87 = .ok (.goto (-75), 3) := by decide +kernel
theorem dX0_goesOn_90 : decode cX0_goesOn 90 = .ok (.iload 4, 2) := by decide +kernel
theorem dX0_goesOn_92 : decode cX0_goesOn 92 = .ok (.ireturn, 1) := by decide +kernel
set_option maxRecDepth 20000 in
theorem ggX0_reach_X3_get : GoodIn wsX0_reach wsX3_get := goodIn_r _ [8, 9, 21] (by decide +kernel) (by decide +kernel)
set_option maxRecDepth 20000 in
theorem gX0_reach_X3_get : GoodIn wsX0_reach (wsV RX0 45 RX3 yX3_get wsX3_get) := goodIn_app (goodIn_of _ (by decide +kernel)) ggX0_reach_X3_get
set_option maxRecDepth 20000 in
theorem ggX0_reach_X3_set : GoodIn wsX0_reach wsX3_set := goodIn_r _ [13, 9, 21] (by decide +kernel) (by decide +kernel)
set_option maxRecDepth 20000 in
theorem gX0_reach_X3_set : GoodIn wsX0_reach (wsV RX0 69 RX3 yX3_set wsX3_set) := goodIn_app (goodIn_of _ (by decide +kernel)) ggX0_reach_X3_set
theorem dX0_reach_0 : decode cX0_reach 0 = .ok (.iconst 0, 1) := by decide +kernel
theorem dX0_reach_1 : decode cX0_reach 1 = .ok (.istore_n 3, 1) := by decide +kernel
theorem dX0_reach_2 : decode cX0_reach 2 = .ok (.iload_n 3, 1) := by decide +kernel
theorem dX0_reach_3 : decode cX0_reach 3 = .ok (.bipush 24, 2) := by decide +kernel
theorem dX0_reach_5 : decode cX0_reach 5 = .ok (.if_icmp .ge 30, 3) := by decide +kernel
theorem dX0_reach_8 : decode cX0_reach 8 = .ok (.iload_n 3, 1) := by decide +kernel
theorem dX0_reach_9 : decode cX0_reach 9 = .ok (.aload_n 0, 1) := by decide +kernel
theorem dX0_reach_10 : decode cX0_reach 10 = .ok (.getfield 23, 3) := by decide +kernel
theorem dX0_reach_13 : decode cX0_reach 13 = .ok (.if_icmp .ge 22, 3) := by decide +kernel
theorem dX0_reach_16 : decode cX0_reach 16 = .ok (.aload_n 0, 1) := by decide +kernel
theorem dX0_reach_17 : decode cX0_reach 17 = .ok (.getfield 14, 3) := by decide +kernel
theorem dX0_reach_20 : decode cX0_reach 20 = .ok (.iload_n 3, 1) := by decide +kernel
theorem dX0_reach_21 : decode cX0_reach 21 = .ok (.invokevirtual 45, 3) := by decide +kernel
theorem dX0_reach_24 : decode cX0_reach 24 = .ok (.iload_n 1, 1) := by decide +kernel
theorem dX0_reach_25 : decode cX0_reach 25 = .ok (.if_icmp .ne 4, 3) := by decide +kernel
theorem dX0_reach_28 : decode cX0_reach 28 = .ok (.return_, 1) := by decide +kernel
theorem dX0_reach_29 : decode cX0_reach 29 = .ok (.iinc 3 1, 3) := by decide +kernel
theorem dX0_reach_32 : decode cX0_reach 32 = .ok (.goto (-30), 3) := by decide +kernel
theorem dX0_reach_35 : decode cX0_reach 35 = .ok (.aload_n 0, 1) := by decide +kernel
theorem dX0_reach_36 : decode cX0_reach 36 = .ok (.getfield 14, 3) := by decide +kernel
theorem dX0_reach_39 : decode cX0_reach 39 = .ok (.aload_n 0, 1) := by decide +kernel
theorem dX0_reach_40 : decode cX0_reach 40 = .ok (.getfield 23, 3) := by decide +kernel
theorem dX0_reach_43 : decode cX0_reach 43 = .ok (.iload_n 1, 1) := by decide +kernel
theorem dX0_reach_44 : decode cX0_reach 44 = .ok (.invokevirtual 69, 3) := by decide +kernel
theorem dX0_reach_47 : decode cX0_reach 47 = .ok (.aload_n 0, 1) := by decide +kernel
theorem dX0_reach_48 : decode cX0_reach 48 = .ok (.getfield 20, 3) := by decide +kernel
theorem dX0_reach_51 : decode cX0_reach 51 = .ok (.aload_n 0, 1) := by decide +kernel
theorem dX0_reach_52 : decode cX0_reach 52 = .ok (.getfield 23, 3) := by decide +kernel
theorem dX0_reach_55 : decode cX0_reach 55 = .ok (.iload_n 2, 1) := by decide +kernel
theorem dX0_reach_56 : decode cX0_reach 56 = .ok (.invokevirtual 69, 3) := by decide +kernel
theorem dX0_reach_59 : decode cX0_reach 59 = .ok (.aload_n 0, 1) := by decide +kernel
theorem dX0_reach_60 : decode cX0_reach 60 = .ok (.dup, 1) := by decide +kernel
theorem dX0_reach_61 : decode cX0_reach 61 = .ok (.getfield 23, 3) := by decide +kernel
theorem dX0_reach_64 : decode cX0_reach 64 = .ok (.iconst 1, 1) := by decide +kernel
theorem dX0_reach_65 : decode cX0_reach 65 = .ok (.iadd, 1) := by decide +kernel
theorem dX0_reach_66 : decode cX0_reach 66 = .ok (.putfield 23, 3) := by decide +kernel
theorem dX0_reach_69 : decode cX0_reach 69 = .ok (.return_, 1) := by decide +kernel
theorem dX0_noteEnd_0 : decode cX0_noteEnd 0 = .ok (.aload_n 0, 1) := by decide +kernel
theorem dX0_noteEnd_1 : decode cX0_noteEnd 1 = .ok (.aload_n 0, 1) := by decide +kernel
theorem dX0_noteEnd_2 : decode cX0_noteEnd 2 = .ok (.getfield 27, 3) := by decide +kernel
theorem dX0_noteEnd_5 : decode cX0_noteEnd 5 = .ok (.ifCond .ne 7, 3) := by decide +kernel
theorem dX0_noteEnd_8 : decode cX0_noteEnd 8 = .ok (.iload_n 1, 1) := by decide +kernel
theorem dX0_noteEnd_9 : decode cX0_noteEnd 9 = .ok (.goto 11, 3) := by decide +kernel
theorem dX0_noteEnd_12 : decode cX0_noteEnd 12 = .ok (.aload_n 0, 1) := by decide +kernel
theorem dX0_noteEnd_13 : decode cX0_noteEnd 13 = .ok (.getfield 72, 3) := by decide +kernel
theorem dX0_noteEnd_16 : decode cX0_noteEnd 16 = .ok (.iload_n 1, 1) := by decide +kernel
theorem dX0_noteEnd_17 : decode cX0_noteEnd 17 = .ok (.invokestatic 75, 3) := by decide +kernel
theorem dX0_noteEnd_20 : decode cX0_noteEnd 20 = .ok (.putfield 72, 3) := by decide +kernel
theorem dX0_noteEnd_23 : decode cX0_noteEnd 23 = .ok (.aload_n 0, 1) := by decide +kernel
theorem dX0_noteEnd_24 : decode cX0_noteEnd 24 = .ok (.aload_n 0, 1) := by decide +kernel
theorem dX0_noteEnd_25 : decode cX0_noteEnd 25 = .ok (.getfield 27, 3) := by decide +kernel
theorem dX0_noteEnd_28 : decode cX0_noteEnd 28 = .ok (.ifCond .ne 7, 3) := by decide +kernel
theorem dX0_noteEnd_31 : decode cX0_noteEnd 31 = .ok (.iload_n 1, 1) := by decide +kernel
theorem dX0_noteEnd_32 : decode cX0_noteEnd 32 = .ok (.goto 11, 3) := by decide +kernel
theorem dX0_noteEnd_35 : decode cX0_noteEnd 35 = .ok (.aload_n 0, 1) := by decide +kernel
theorem dX0_noteEnd_36 : decode cX0_noteEnd 36 = .ok (.getfield 81, 3) := by decide +kernel
theorem dX0_noteEnd_39 : decode cX0_noteEnd 39 = .ok (.iload_n 1, 1) := by decide +kernel
theorem dX0_noteEnd_40 : decode cX0_noteEnd 40 = .ok (.invokestatic 84, 3) := by decide +kernel
theorem dX0_noteEnd_43 : decode cX0_noteEnd 43 = .ok (.putfield 81, 3) := by decide +kernel
theorem dX0_noteEnd_46 : decode cX0_noteEnd 46 = .ok (.aload_n 0, 1) := by decide +kernel
theorem dX0_noteEnd_47 : decode cX0_noteEnd 47 = .ok (.aload_n 0, 1) := by decide +kernel
theorem dX0_noteEnd_48 : decode cX0_noteEnd 48 = .ok (.getfield 27, 3) := by decide +kernel
theorem dX0_noteEnd_51 : decode cX0_noteEnd 51 = .ok (.ifCond .ne 7, 3) := by decide +kernel
theorem dX0_noteEnd_54 : decode cX0_noteEnd 54 = .ok (.iload_n 2, 1) := by decide +kernel
theorem dX0_noteEnd_55 : decode cX0_noteEnd 55 = .ok (.goto 11, 3) := by decide +kernel
theorem dX0_noteEnd_58 : decode cX0_noteEnd 58 = .ok (.aload_n 0, 1) := by decide +kernel
theorem dX0_noteEnd_59 : decode cX0_noteEnd 59 = .ok (.getfield 87, 3) := by decide +kernel
theorem dX0_noteEnd_62 : decode cX0_noteEnd 62 = .ok (.iload_n 2, 1) := by decide +kernel
theorem dX0_noteEnd_63 : decode cX0_noteEnd 63 = .ok (.invokestatic 84, 3) := by decide +kernel
theorem dX0_noteEnd_66 : decode cX0_noteEnd 66 = .ok (.putfield 87, 3) := by decide +kernel
theorem dX0_noteEnd_69 : decode cX0_noteEnd 69 = .ok (.aload_n 0, 1) := by decide +kernel
theorem dX0_noteEnd_70 : decode cX0_noteEnd 70 = .ok (.dup, 1) := by decide +kernel
theorem dX0_noteEnd_71 : decode cX0_noteEnd 71 = .ok (.getfield 27, 3) := by decide +kernel
theorem dX0_noteEnd_74 : decode cX0_noteEnd 74 = .ok (.iconst 1, 1) := by decide +kernel
theorem dX0_noteEnd_75 : decode cX0_noteEnd 75 = .ok (.iadd, 1) := by decide +kernel
theorem dX0_noteEnd_76 : decode cX0_noteEnd 76 = .ok (.putfield 27, 3) := by decide +kernel
theorem dX0_noteEnd_79 : decode cX0_noteEnd 79 = .ok (.return_, 1) := by decide +kernel
set_option maxRecDepth 20000 in
theorem ggX1_init_X3_init : GoodIn wsX1_init wsX3_init := goodIn_r _ [14, 15, 2, 3, 16, 17, 18, 19, 20, 21, 40] (by decide +kernel) (by decide +kernel)
set_option maxRecDepth 20000 in
theorem gX1_init_X3_init : GoodIn wsX1_init (wsX3_init) := ggX1_init_X3_init
set_option maxRecDepth 20000 in
theorem ggX1_init_X4_init : GoodIn wsX1_init wsX4_init := goodIn_r _ [23, 24, 2, 3, 25, 26, 27, 28, 29, 5, 6, 30, 31, 32, 33, 34, 35, 36, 37, 20, 38, 39, 13, 14, 15, 16, 17, 18, 19, 21, 53, 44, 45, 46, 47, 48, 49, 50, 51, 52, 40] (by decide +kernel) (by decide +kernel)
set_option maxRecDepth 20000 in
theorem gX1_init_X4_init_n22 : GoodIn wsX1_init (wsX4_init) := ggX1_init_X4_init
theorem dX1_init_0 : decode cX1_init 0 = .ok (.aload_n 0, 1) := by decide +kernel
theorem dX1_init_1 : decode cX1_init 1 = .ok (.invokespecial 3, 3) := by decide +kernel
theorem dX1_init_4 : decode cX1_init 4 = .ok (.aload_n 0, 1) := by decide +kernel
theorem dX1_init_5 : decode cX1_init 5 = .ok (.new 9, 3) := by decide +kernel
theorem dX1_init_8 : decode cX1_init 8 = .ok (.dup, 1) := by decide +kernel
theorem dX1_init_9 : decode cX1_init 9 = .ok (.iconst 4, 1) := by decide +kernel
theorem dX1_init_10 : decode cX1_init 10 = .ok (.invokespecial 11, 3) := by decide +kernel
theorem dX1_init_13 : decode cX1_init 13 = .ok (.putfield 14, 3) := by decide +kernel
theorem dX1_init_16 : decode cX1_init 16 = .ok (.aload_n 0, 1) := by decide +kernel
theorem dX1_init_17 : decode cX1_init 17 = .ok (.new 20, 3) := by decide +kernel
theorem dX1_init_20 : decode cX1_init 20 = .ok (.dup, 1) := by decide +kernel
theorem dX1_init_21 : decode cX1_init 21 = .ok (.invokespecial 22, 3) := by decide +kernel
theorem dX1_init_24 : decode cX1_init 24 = .ok (.putfield 23, 3) := by decide +kernel
theorem dX1_init_27 : decode cX1_init 27 = .ok (.return_, 1) := by decide +kernel
set_option maxRecDepth 20000 in
theorem ggX1_takeFrom_X2_kindOf : GoodIn wsX1_takeFrom wsX2_kindOf := goodIn_r _ [8, 9, 10, 11, 12, 13, 14, 15, 16, 17, 7, 18, 19, 20, 21, 22, 23, 24, 25, 26, 27, 28, 29, 30, 31, 32, 33, 34, 35, 36, 37, 38, 39, 40, 41, 42, 43, 44, 45, 46, 47, 48, 49, 50, 51, 52, 53, 54, 55, 56, 57, 58, 59, 60, 61, 62, 63, 64, 65, 66, 67, 68, 69, 70, 71, 72, 73, 74, 75, 76, 77, 78, 79, 80, 81, 82, 83, 84, 85, 86, 87, 88, 89, 90, 91, 92, 93, 94, 95, 96, 97, 98, 99, 100, 101, 102, 103, 104, 105, 106, 107, 168, 169, 170] (by decide +kernel) (by decide +kernel)
set_option maxRecDepth 20000 in
theorem gX1_takeFrom_X2_kindOf : GoodIn wsX1_takeFrom (wsV RX1 31 RX2 yX2_kindOf wsX2_kindOf) := goodIn_app (goodIn_of _ (by decide +kernel)) ggX1_takeFrom_X2_kindOf
set_option maxRecDepth 20000 in
theorem ggX1_takeFrom_X3_set : GoodIn wsX1_takeFrom wsX3_set := goodIn_r _ [111, 15, 170] (by decide +kernel) (by decide +kernel)
set_option maxRecDepth 20000 in
theorem gX1_takeFrom_X3_set : GoodIn wsX1_takeFrom (wsV RX1 37 RX3 yX3_set wsX3_set) := goodIn_app (goodIn_of _ (by decide +kernel)) ggX1_takeFrom_X3_set
set_option maxRecDepth 20000 in
theorem ggX1_takeFrom_X2_digitOf : GoodIn wsX1_takeFrom wsX2_digitOf := goodIn_r _ [115, 9, 10, 11, 12, 13, 14, 15, 168, 169, 170] (by decide +kernel) (by decide +kernel)
set_option maxRecDepth 20000 in
theorem gX1_takeFrom_X2_digitOf : GoodIn wsX1_takeFrom (wsV RX1 45 RX2 yX2_digitOf wsX2_digitOf) := goodIn_app (goodIn_of _ (by decide +kernel)) ggX1_takeFrom_X2_digitOf
set_option maxRecDepth 20000 in
theorem ggX1_takeFrom_X5_put : GoodIn wsX1_takeFrom wsX5_put := goodIn_r _ [120, 121, 171] (by decide +kernel) (by decide +kernel)
set_option maxRecDepth 20000 in
theorem gX1_takeFrom_X5_put : GoodIn wsX1_takeFrom (wsV RX1 49 RX5 yX5_put wsX5_put) := goodIn_app (goodIn_of _ (by decide +kernel)) ggX1_takeFrom_X5_put
set_option maxRecDepth 20000 in
theorem ggX1_takeFrom_X4_forgetAll : GoodIn wsX1_takeFrom wsX4_forgetAll := goodIn_r _ [126, 127, 128, 129, 130, 109, 110, 13, 111, 15, 159, 160, 161, 162, 163, 164, 165, 166, 167, 170] (by decide +kernel) (by decide +kernel)
set_option maxRecDepth 20000 in
theorem gX1_takeFrom_X4_forgetAll : GoodIn wsX1_takeFrom (wsV RX1 55 RX4 yX4_forgetAll wsX4_forgetAll) := goodIn_app (goodIn_of _ (by decide +kernel)) ggX1_takeFrom_X4_forgetAll
set_option maxRecDepth 20000 in
theorem ggX1_takeFrom_X1_dealt : GoodIn wsX1_takeFrom wsX1_dealt := goodIn_r _ [135, 1, 136, 137, 138, 134, 139, 140, 141, 142, 143, 2, 3, 144, 11, 12, 13, 14, 15, 145, 146, 147, 119, 148, 121, 149, 150, 151, 152, 153, 154, 155, 156, 157, 158, 159, 160, 161, 162, 163, 164, 165, 166, 167, 170, 171] (by decide +kernel) (by decide +kernel)
set_option maxRecDepth 20000 in
theorem gX1_takeFrom_X1_dealt : GoodIn wsX1_takeFrom (wsV RX1 58 RX1 yX1_dealt wsX1_dealt) := goodIn_app (goodIn_of _ (by decide +kernel)) ggX1_takeFrom_X1_dealt
theorem dX1_takeFrom_0 : decode cX1_takeFrom 0 = .ok (.aload_n 1, 1) := by decide +kernel
theorem dX1_takeFrom_1 : decode cX1_takeFrom 1 = .ok (.ifnonnull 4, 3) := by decide +kernel
theorem dX1_takeFrom_4 : decode cX1_takeFrom 4 = .ok (.return_, 1) := by decide +kernel
theorem dX1_takeFrom_5 : decode cX1_takeFrom 5 = .ok (.aload_n 0, 1) := by decide +kernel
theorem dX1_takeFrom_6 : decode cX1_takeFrom 6 = .ok (.iload_n 2, 1) := by decide +kernel
theorem dX1_takeFrom_7 : decode cX1_takeFrom 7 = .ok (.putfield 27, 3) := by decide +kernel
theorem dX1_takeFrom_10 : decode cX1_takeFrom 10 = .ok (.iconst 0, 1) := by decide +kernel
theorem dX1_takeFrom_11 : decode cX1_takeFrom 11 = .ok (.istore_n 3, 1) := by decide +kernel
theorem dX1_takeFrom_12 : decode cX1_takeFrom 12 = .ok (.iload_n 3, 1) := by decide +kernel
theorem dX1_takeFrom_13 : decode cX1_takeFrom 13 = .ok (.iconst 4, 1) := by decide +kernel
theorem dX1_takeFrom_14 : decode cX1_takeFrom 14 = .ok (.if_icmp .ge 65, 3) := by decide +kernel
theorem dX1_takeFrom_17 : decode cX1_takeFrom 17 = .ok (.iload_n 3, 1) := by decide +kernel
theorem dX1_takeFrom_18 : decode cX1_takeFrom 18 = .ok (.aload_n 0, 1) := by decide +kernel
theorem dX1_takeFrom_19 : decode cX1_takeFrom 19 = .ok (.getfield 27, 3) := by decide +kernel
theorem dX1_takeFrom_22 : decode cX1_takeFrom 22 = .ok (.if_icmp .ge 57, 3) := by decide +kernel
theorem dX1_takeFrom_25 : decode cX1_takeFrom 25 = .ok (.aload_n 0, 1) := by decide +kernel
theorem dX1_takeFrom_26 : decode cX1_takeFrom 26 = .ok (.getfield 14, 3) := by decide +kernel
theorem dX1_takeFrom_29 : decode cX1_takeFrom 29 = .ok (.iload_n 3, 1) := by decide +kernel
theorem dX1_takeFrom_30 : decode cX1_takeFrom 30 = .ok (.aload_n 1, 1) := by decide +kernel
theorem dX1_takeFrom_31 : decode cX1_takeFrom 31 = .ok (.iload_n 3, 1) := by decide +kernel
theorem dX1_takeFrom_32 : decode cX1_takeFrom 32 = .ok (.invokevirtual 31, 3) := by decide +kernel
theorem dX1_takeFrom_35 : decode cX1_takeFrom 35 = .ok (.invokevirtual 37, 3) := by decide +kernel
theorem dX1_takeFrom_38 : decode cX1_takeFrom 38 = .ok (.iconst 0, 1) := by decide +kernel
theorem dX1_takeFrom_39 : decode cX1_takeFrom 39 = .ok (.istore 4, 2) := by decide +kernel
theorem dX1_takeFrom_41 : decode cX1_takeFrom 41 = .ok (.iload 4, 2) := by decide +kernel
theorem dX1_takeFrom_43 : decode cX1_takeFrom 43 = .ok (.iconst 4, 1) := by decide +kernel
theorem dX1_takeFrom_44 : decode cX1_takeFrom 44 = .ok (.if_icmp .ge 29, 3) := by decide +kernel
theorem dX1_takeFrom_47 : decode cX1_takeFrom 47 = .ok (.aload_n 0, 1) := by decide +kernel
theorem dX1_takeFrom_48 : decode cX1_takeFrom 48 = .ok (.getfield 23, 3) := by decide +kernel
theorem dX1_takeFrom_51 : decode cX1_takeFrom 51 = .ok (.getfield 41, 3) := by decide +kernel
theorem dX1_takeFrom_54 : decode cX1_takeFrom 54 = .ok (.iload_n 3, 1) := by decide +kernel
theorem dX1_takeFrom_55 : decode cX1_takeFrom 55 = .ok (.iload 4, 2) := by decide +kernel
theorem dX1_takeFrom_57 : decode cX1_takeFrom 57 = .ok (.aload_n 1, 1) := by decide +kernel
theorem dX1_takeFrom_58 : decode cX1_takeFrom 58 = .ok (.iload_n 3, 1) := by decide +kernel
theorem dX1_takeFrom_59 : decode cX1_takeFrom 59 = .ok (.iload 4, 2) := by decide +kernel
theorem dX1_takeFrom_61 : decode cX1_takeFrom 61 = .ok (.invokevirtual 45, 3) := by decide +kernel
theorem dX1_takeFrom_64 : decode cX1_takeFrom 64 = .ok (.invokevirtual 49, 3) := by decide +kernel
theorem dX1_takeFrom_67 : decode cX1_takeFrom 67 = .ok (.iinc 4 1, 3) := by decide +kernel
theorem dX1_takeFrom_70 : decode cX1_takeFrom 70 = .ok (.goto (-29), 3) := by decide +kernel
theorem dX1_takeFrom_73 : decode cX1_takeFrom 73 = .ok (.iinc 3 1, 3) := by decide +kernel
theorem dX1_takeFrom_76 : decode cX1_takeFrom 76 = .ok (.goto (-64), 3) := by decide +kernel
theorem dX1_takeFrom_79 : decode cX1_takeFrom 79 = .ok (.aload_n 0, 1) := by decide +kernel
theorem dX1_takeFrom_80 : decode cX1_takeFrom 80 = .ok (.getfield 23, 3) := by decide +kernel
theorem dX1_takeFrom_83 : decode cX1_takeFrom 83 = .ok (.invokevirtual 55, 3) := by decide +kernel
theorem dX1_takeFrom_86 : decode cX1_takeFrom 86 = .ok (.aload_n 0, 1) := by decide +kernel
theorem dX1_takeFrom_87 : decode cX1_takeFrom 87 = .ok (.getfield 23, 3) := by decide +kernel
theorem dX1_takeFrom_90 : decode cX1_takeFrom 90 = .ok (.aload_n 0, 1) := by decide +kernel
theorem dX1_takeFrom_91 : decode cX1_takeFrom 91 = .ok (.invokevirtual 58, 3) := by decide +kernel
theorem dX1_takeFrom_94 : decode cX1_takeFrom 94 = .ok (.putfield 62, 3) := by decide +kernel
theorem dX1_takeFrom_97 : decode cX1_takeFrom 97 = .ok (.return_, 1) := by decide +kernel
theorem dX1_knows_0 : decode cX1_knows 0 = .ok (.iload_n 1, 1) := by decide +kernel
theorem dX1_knows_1 : decode cX1_knows 1 = .ok (.ifCond .lt 15, 3) := by decide +kernel
theorem dX1_knows_4 : decode cX1_knows 4 = .ok (.iload_n 1, 1) := by decide +kernel
theorem dX1_knows_5 : decode cX1_knows 5 = .ok (.aload_n 0, 1) := by decide +kernel
theorem dX1_knows_6 : decode cX1_knows 6 = .ok (.getfield 27, 3) := by decide +kernel
theorem dX1_knows_9 : decode cX1_knows 9 = .ok (.if_icmp .ge 7, 3) := by decide +kernel
theorem dX1_knows_12 : decode cX1_knows 12 = .ok (.iconst 1, 1) := by decide +kernel
theorem dX1_knows_13 : decode cX1_knows 13 = .ok (.goto 4, 3) := by decide +kernel
theorem dX1_knows_16 : decode cX1_knows 16 = .ok (.iconst 0, 1) := by decide +kernel
theorem dX1_knows_17 : decode cX1_knows 17 = .ok (.ireturn, 1) := by decide +kernel
set_option maxRecDepth 20000 in
theorem ggX1_saidBy_X3_get : GoodIn wsX1_saidBy wsX3_get := goodIn_r _ [7, 8, 31] (by decide +kernel) (by decide +kernel)
set_option maxRecDepth 20000 in
theorem gX1_saidBy_X3_get : GoodIn wsX1_saidBy (wsV RX1 65 RX3 yX3_get wsX3_get) := goodIn_app (goodIn_of _ (by decide +kernel)) ggX1_saidBy_X3_get
set_option maxRecDepth 20000 in
theorem ggX1_saidBy_X5_at : GoodIn wsX1_saidBy wsX5_at := goodIn_r _ [13, 14, 32] (by decide +kernel) (by decide +kernel)
set_option maxRecDepth 20000 in
theorem gX1_saidBy_X5_at : GoodIn wsX1_saidBy (wsV RX1 68 RX5 yX5_at wsX5_at) := goodIn_app (goodIn_of _ (by decide +kernel)) ggX1_saidBy_X5_at
set_option maxRecDepth 20000 in
theorem ggX1_saidBy_X1_saidAs : GoodIn wsX1_saidBy wsX1_saidAs := goodIn_r _ [18] (by decide +kernel) (by decide +kernel)
set_option maxRecDepth 20000 in
theorem gX1_saidBy_X1_saidAs : GoodIn wsX1_saidBy (va_wsS RX1 71 yX1_saidAs wsX1_saidAs) := goodIn_app (goodIn_of _ (by decide +kernel)) ggX1_saidBy_X1_saidAs
theorem dX1_saidBy_0 : decode cX1_saidBy 0 = .ok (.iconst 0, 1) := by decide +kernel
theorem dX1_saidBy_1 : decode cX1_saidBy 1 = .ok (.istore_n 3, 1) := by decide +kernel
theorem dX1_saidBy_2 : decode cX1_saidBy 2 = .ok (.iconst 0, 1) := by decide +kernel
theorem dX1_saidBy_3 : decode cX1_saidBy 3 = .ok (.istore 4, 2) := by decide +kernel
theorem dX1_saidBy_5 : decode cX1_saidBy 5 = .ok (.iload 4, 2) := by decide +kernel
theorem dX1_saidBy_7 : decode cX1_saidBy 7 = .ok (.iconst 4, 1) := by decide +kernel
theorem dX1_saidBy_8 : decode cX1_saidBy 8 = .ok (.if_icmp .ge 42, 3) := by decide +kernel
theorem dX1_saidBy_11 : decode cX1_saidBy 11 = .ok (.iload 4, 2) := by decide +kernel
theorem dX1_saidBy_13 : decode cX1_saidBy 13 = .ok (.iload_n 1, 1) := by decide +kernel
theorem dX1_saidBy_14 : decode cX1_saidBy 14 = .ok (.if_icmp .gt 36, 3) := by decide +kernel
theorem dX1_saidBy_17 : decode cX1_saidBy 17 = .ok (.aload_n 0, 1) := by decide +kernel
theorem dX1_saidBy_18 : decode cX1_saidBy 18 = .ok (.getfield 14, 3) := by decide +kernel
theorem dX1_saidBy_21 : decode cX1_saidBy 21 = .ok (.iload 4, 2) := by decide +kernel
theorem dX1_saidBy_23 : decode cX1_saidBy 23 = .ok (.invokevirtual 65, 3) := by decide +kernel
theorem dX1_saidBy_26 : decode cX1_saidBy 26 = .ok (.aload_n 0, 1) := by decide +kernel
theorem dX1_saidBy_27 : decode cX1_saidBy 27 = .ok (.getfield 23, 3) := by decide +kernel
theorem dX1_saidBy_30 : decode cX1_saidBy 30 = .ok (.getfield 41, 3) := by decide +kernel
theorem dX1_saidBy_33 : decode cX1_saidBy 33 = .ok (.iload 4, 2) := by decide +kernel
theorem dX1_saidBy_35 : decode cX1_saidBy 35 = .ok (.iload_n 2, 1) := by decide +kernel
theorem dX1_saidBy_36 : decode cX1_saidBy 36 = .ok (.invokevirtual 68, 3) := by decide +kernel
theorem dX1_saidBy_39 : decode cX1_saidBy 39 = .ok (.iload_n 3, 1) := by decide +kernel
theorem dX1_saidBy_40 : decode cX1_saidBy 40 = .ok (.invokestatic 71, 3) := by decide +kernel
theorem dX1_saidBy_43 : decode cX1_saidBy 43 = .ok (.istore_n 3, 1) := by decide +kernel
theorem dX1_saidBy_44 : decode cX1_saidBy 44 = .ok (.iinc 4 1, 3) := by decide +kernel
theorem dX1_saidBy_47 : decode cX1_saidBy 47 = .ok (.goto (-42), 3) := by decide +kernel
theorem dX1_saidBy_50 : decode cX1_saidBy 50 = .ok (.iload_n 3, 1) := by decide +kernel
theorem dX1_saidBy_51 : decode cX1_saidBy 51 = .ok (.ireturn, 1) := by decide +kernel
theorem dX1_saidAs_0 : decode cX1_saidAs 0 = .ok (.iload_n 0, 1) := by decide +kernel
theorem dX1_saidAs_1 : decode cX1_saidAs 1 = .ok (.tableswitch 57 1 4 #[31, 36, 38, 43], 31) := by decide +kernel
theorem dX1_saidAs_32 : decode cX1_saidAs 32 = .ok (.bipush 9, 2) := by decide +kernel
theorem dX1_saidAs_34 : decode cX1_saidAs 34 = .ok (.iload_n 1, 1) := by decide +kernel
theorem dX1_saidAs_35 : decode cX1_saidAs 35 = .ok (.isub, 1) := by decide +kernel
theorem dX1_saidAs_36 : decode cX1_saidAs 36 = .ok (.ireturn, 1) := by decide +kernel
theorem dX1_saidAs_37 : decode cX1_saidAs 37 = .ok (.iconst 5, 1) := by decide +kernel
theorem dX1_saidAs_38 : decode cX1_saidAs 38 = .ok (.ireturn, 1) := by decide +kernel
theorem dX1_saidAs_39 : decode cX1_saidAs 39 = .ok (.bipush 9, 2) := by decide +kernel
theorem dX1_saidAs_41 : decode cX1_saidAs 41 = .ok (.iload_n 2, 1) := by decide +kernel
theorem dX1_saidAs_42 : decode cX1_saidAs 42 = .ok (.isub, 1) := by decide +kernel
theorem dX1_saidAs_43 : decode cX1_saidAs 43 = .ok (.ireturn, 1) := by decide +kernel
theorem dX1_saidAs_44 : decode cX1_saidAs 44 = .ok (.iload_n 1, 1) := by decide +kernel
theorem dX1_saidAs_45 : decode cX1_saidAs 45 = .ok (.iconst 5, 1) := by decide +kernel
theorem dX1_saidAs_46 : decode cX1_saidAs 46 = .ok (.if_icmp .lt 10, 3) := by decide +kernel
theorem dX1_saidAs_49 : decode cX1_saidAs 49 = .ok (.bipush 9, 2) := by decide +kernel
theorem dX1_saidAs_51 : decode cX1_saidAs 51 = .ok (.iload_n 1, 1) := by decide +kernel
theorem dX1_saidAs_52 : decode cX1_saidAs 52 = .ok (.isub, 1) := by decide +kernel
theorem dX1_saidAs_53 : decode cX1_saidAs 53 = .ok (.goto 4, 3) := by decide +kernel
theorem dX1_saidAs_56 : decode cX1_saidAs 56 = .ok (.iconst 0, 1) := by decide +kernel
theorem dX1_saidAs_57 : decode cX1_saidAs 57 = .ok (.ireturn, 1) := by decide +kernel
theorem dX1_saidAs_58 : decode cX1_saidAs 58 = .ok (.iload_n 1, 1) := by decide +kernel
theorem dX1_saidAs_59 : decode cX1_saidAs 59 = .ok (.ireturn, 1) := by decide +kernel
set_option maxRecDepth 20000 in
theorem ggX1_dealt_X1_leastSaid : GoodIn wsX1_dealt wsX1_leastSaid := goodIn_r _ [6, 7, 8, 9, 5, 10, 11, 12, 13, 14, 15, 16, 17, 18, 19, 20, 21, 22, 23, 24, 25, 26, 27, 32, 33, 34, 35, 36, 37, 38, 39, 40, 41, 42, 43, 44, 45] (by decide +kernel) (by decide +kernel)
set_option maxRecDepth 20000 in
theorem gX1_dealt_X1_leastSaid : GoodIn wsX1_dealt (wsV RX1 75 RX1 yX1_leastSaid wsX1_leastSaid) := goodIn_app (goodIn_of _ (by decide +kernel)) ggX1_dealt_X1_leastSaid
set_option maxRecDepth 20000 in
theorem ggX1_dealt_X1_placed : GoodIn wsX1_dealt wsX1_placed := goodIn_r _ [31, 1, 32, 33, 34] (by decide +kernel) (by decide +kernel)
set_option maxRecDepth 20000 in
theorem gX1_dealt_X1_placed : GoodIn wsX1_dealt (wsV RX1 78 RX1 yX1_placed wsX1_placed) := goodIn_app (goodIn_of _ (by decide +kernel)) ggX1_dealt_X1_placed
theorem dX1_dealt_0 : decode cX1_dealt 0 = .ok (.iconst 0, 1) := by decide +kernel
theorem dX1_dealt_1 : decode cX1_dealt 1 = .ok (.istore_n 1, 1) := by decide +kernel
theorem dX1_dealt_2 : decode cX1_dealt 2 = .ok (.iconst 0, 1) := by decide +kernel
theorem dX1_dealt_3 : decode cX1_dealt 3 = .ok (.istore_n 2, 1) := by decide +kernel
theorem dX1_dealt_4 : decode cX1_dealt 4 = .ok (.iconst 0, 1) := by decide +kernel
theorem dX1_dealt_5 : decode cX1_dealt 5 = .ok (.istore_n 3, 1) := by decide +kernel
theorem dX1_dealt_6 : decode cX1_dealt 6 = .ok (.iload_n 3, 1) := by decide +kernel
theorem dX1_dealt_7 : decode cX1_dealt 7 = .ok (.iconst 4, 1) := by decide +kernel
theorem dX1_dealt_8 : decode cX1_dealt 8 = .ok (.if_icmp .ge 41, 3) := by decide +kernel
theorem dX1_dealt_11 : decode cX1_dealt 11 = .ok (.iload_n 3, 1) := by decide +kernel
theorem dX1_dealt_12 : decode cX1_dealt 12 = .ok (.aload_n 0, 1) := by decide +kernel
theorem dX1_dealt_13 : decode cX1_dealt 13 = .ok (.getfield 27, 3) := by decide +kernel
theorem dX1_dealt_16 : decode cX1_dealt 16 = .ok (.if_icmp .ge 33, 3) := by decide +kernel
theorem dX1_dealt_19 : decode cX1_dealt 19 = .ok (.aload_n 0, 1) := by decide +kernel
theorem dX1_dealt_20 : decode cX1_dealt 20 = .ok (.iload_n 3, 1) := by decide +kernel
theorem dX1_dealt_21 : decode cX1_dealt 21 = .ok (.iload_n 2, 1) := by decide +kernel
theorem dX1_dealt_22 : decode cX1_dealt 22 = .ok (.invokevirtual 75, 3) := by decide +kernel
theorem dX1_dealt_25 : decode cX1_dealt 25 = .ok (.istore 4, 2) := by decide +kernel
theorem dX1_dealt_27 : decode cX1_dealt 27 = .ok (.iload_n 2, 1) := by decide +kernel
theorem dX1_dealt_28 : decode cX1_dealt 28 = .ok (.iconst 1, 1) := by decide +kernel
theorem dX1_dealt_29 : decode cX1_dealt 29 = .ok (.iload 4, 2) := by decide +kernel
theorem dX1_dealt_31 : decode cX1_dealt 31 = .ok (.ishl, 1) := by decide +kernel
theorem dX1_dealt_32 : decode cX1_dealt 32 = .ok (.ior, 1) := by decide +kernel
theorem dX1_dealt_33 : decode cX1_dealt 33 = .ok (.istore_n 2, 1) := by decide +kernel
theorem dX1_dealt_34 : decode cX1_dealt 34 = .ok (.aload_n 0, 1) := by decide +kernel
theorem dX1_dealt_35 : decode cX1_dealt 35 = .ok (.iload_n 1, 1) := by decide +kernel
theorem dX1_dealt_36 : decode cX1_dealt 36 = .ok (.iload_n 3, 1) := by decide +kernel
theorem dX1_dealt_37 : decode cX1_dealt 37 = .ok (.iload 4, 2) := by decide +kernel
theorem dX1_dealt_39 : decode cX1_dealt 39 = .ok (.invokevirtual 78, 3) := by decide +kernel
theorem dX1_dealt_42 : decode cX1_dealt 42 = .ok (.istore_n 1, 1) := by decide +kernel
theorem dX1_dealt_43 : decode cX1_dealt 43 = .ok (.iinc 3 1, 3) := by decide +kernel
theorem dX1_dealt_46 : decode cX1_dealt 46 = .ok (.goto (-40), 3) := by decide +kernel
theorem dX1_dealt_49 : decode cX1_dealt 49 = .ok (.iload_n 1, 1) := by decide +kernel
theorem dX1_dealt_50 : decode cX1_dealt 50 = .ok (.ireturn, 1) := by decide +kernel
set_option maxRecDepth 20000 in
theorem ggX1_leastSaid_X1_saidBy : GoodIn wsX1_leastSaid wsX1_saidBy := goodIn_r _ [5, 6, 7, 8, 9, 10, 11, 12, 13, 14, 15, 16, 17, 18, 19, 20, 21, 4, 22, 23, 24, 25, 26, 27, 28, 29, 30, 31, 32, 33, 34, 35, 36] (by decide +kernel) (by decide +kernel)
set_option maxRecDepth 20000 in
theorem gX1_leastSaid_X1_saidBy : GoodIn wsX1_leastSaid (wsV RX1 81 RX1 yX1_saidBy wsX1_saidBy) := goodIn_app (goodIn_of _ (by decide +kernel)) ggX1_leastSaid_X1_saidBy
theorem dX1_leastSaid_0 : decode cX1_leastSaid 0 = .ok (.iconst 0, 1) := by decide +kernel
theorem dX1_leastSaid_1 : decode cX1_leastSaid 1 = .ok (.istore_n 3, 1) := by decide +kernel
theorem dX1_leastSaid_2 : decode cX1_leastSaid 2 = .ok (.bipush 10, 2) := by decide +kernel
theorem dX1_leastSaid_4 : decode cX1_leastSaid 4 = .ok (.istore 4, 2) := by decide +kernel
theorem dX1_leastSaid_6 : decode cX1_leastSaid 6 = .ok (.iconst 0, 1) := by decide +kernel
theorem dX1_leastSaid_7 : decode cX1_leastSaid 7 = .ok (.istore 5, 2) := by decide +kernel
theorem dX1_leastSaid_9 : decode cX1_leastSaid 9 = .ok (.iload 5, 2) := by decide +kernel
theorem dX1_leastSaid_11 : decode cX1_leastSaid 11 = .ok (.iconst 4, 1) := by decide +kernel
theorem dX1_leastSaid_12 : decode cX1_leastSaid 12 = .ok (.if_icmp .ge 41, 3) := by decide +kernel
theorem dX1_leastSaid_15 : decode cX1_leastSaid 15 = .ok (.aload_n 0, 1) := by decide +kernel
theorem dX1_leastSaid_16 : decode cX1_leastSaid 16 = .ok (.iload_n 1, 1) := by decide +kernel
theorem dX1_leastSaid_17 : decode cX1_leastSaid 17 = .ok (.iload 5, 2) := by decide +kernel
theorem dX1_leastSaid_19 : decode cX1_leastSaid 19 = .ok (.invokevirtual 81, 3) := by decide +kernel
theorem dX1_leastSaid_22 : decode cX1_leastSaid 22 = .ok (.istore 6, 2) := by decide +kernel
theorem dX1_leastSaid_24 : decode cX1_leastSaid 24 = .ok (.iload_n 2, 1) := by decide +kernel
theorem dX1_leastSaid_25 : decode cX1_leastSaid 25 = .ok (.iload 5, 2) := by decide +kernel
theorem dX1_leastSaid_27 : decode cX1_leastSaid 27 = .ok (.ishr, 1) := by decide +kernel
theorem dX1_leastSaid_28 : decode cX1_leastSaid 28 = .ok (.iconst 1, 1) := by decide +kernel
theorem dX1_leastSaid_29 : decode cX1_leastSaid 29 = .ok (.iand, 1) := by decide +kernel
theorem dX1_leastSaid_30 : decode cX1_leastSaid 30 = .ok (.ifCond .ne 17, 3) := by decide +kernel
theorem dX1_leastSaid_33 : decode cX1_leastSaid 33 = .ok (.iload 6, 2) := by decide +kernel
theorem dX1_leastSaid_35 : decode cX1_leastSaid 35 = .ok (.iload 4, 2) := by decide +kernel
theorem dX1_leastSaid_37 : decode cX1_leastSaid 37 = .ok (.if_icmp .ge 10, 3) := by decide +kernel
theorem dX1_leastSaid_40 : decode cX1_leastSaid 40 = .ok (.iload 5, 2) := by decide +kernel
theorem dX1_leastSaid_42 : decode cX1_leastSaid 42 = .ok (.istore_n 3, 1) := by decide +kernel
theorem dX1_leastSaid_43 : decode cX1_leastSaid 43 = .ok (.iload 6, 2) := by decide +kernel
theorem dX1_leastSaid_45 : decode cX1_leastSaid 45 = .ok (.istore 4, 2) := by decide +kernel
theorem dX1_leastSaid_47 : decode cX1_leastSaid 47 = .ok (.iinc 5 1, 3) := by decide +kernel
theorem dX1_leastSaid_50 : decode cX1_leastSaid 50 = .ok (.goto (-41), 3) := by decide +kernel
theorem dX1_leastSaid_53 : decode cX1_leastSaid 53 = .ok (.iload_n 3, 1) := by decide +kernel
theorem dX1_leastSaid_54 : decode cX1_leastSaid 54 = .ok (.ireturn, 1) := by decide +kernel
theorem dX1_thingIn_0 : decode cX1_thingIn 0 = .ok (.iload_n 1, 1) := by decide +kernel
theorem dX1_thingIn_1 : decode cX1_thingIn 1 = .ok (.iconst 2, 1) := by decide +kernel
theorem dX1_thingIn_2 : decode cX1_thingIn 2 = .ok (.aload_n 0, 1) := by decide +kernel
theorem dX1_thingIn_3 : decode cX1_thingIn 3 = .ok (.getfield 27, 3) := by decide +kernel
theorem dX1_thingIn_6 : decode cX1_thingIn 6 = .ok (.iconst 1, 1) := by decide +kernel
theorem dX1_thingIn_7 : decode cX1_thingIn 7 = .ok (.isub, 1) := by decide +kernel
theorem dX1_thingIn_8 : decode cX1_thingIn 8 = .ok (.iload_n 2, 1) := by decide +kernel
theorem dX1_thingIn_9 : decode cX1_thingIn 9 = .ok (.isub, 1) := by decide +kernel
theorem dX1_thingIn_10 : decode cX1_thingIn 10 = .ok (.imul, 1) := by decide +kernel
theorem dX1_thingIn_11 : decode cX1_thingIn 11 = .ok (.ishr, 1) := by decide +kernel
theorem dX1_thingIn_12 : decode cX1_thingIn 12 = .ok (.iconst 3, 1) := by decide +kernel
theorem dX1_thingIn_13 : decode cX1_thingIn 13 = .ok (.iand, 1) := by decide +kernel
theorem dX1_thingIn_14 : decode cX1_thingIn 14 = .ok (.ireturn, 1) := by decide +kernel
theorem dX1_placed_0 : decode cX1_placed 0 = .ok (.iconst 2, 1) := by decide +kernel
theorem dX1_placed_1 : decode cX1_placed 1 = .ok (.aload_n 0, 1) := by decide +kernel
theorem dX1_placed_2 : decode cX1_placed 2 = .ok (.getfield 27, 3) := by decide +kernel
theorem dX1_placed_5 : decode cX1_placed 5 = .ok (.iconst 1, 1) := by decide +kernel
theorem dX1_placed_6 : decode cX1_placed 6 = .ok (.isub, 1) := by decide +kernel
theorem dX1_placed_7 : decode cX1_placed 7 = .ok (.iload_n 2, 1) := by decide +kernel
theorem dX1_placed_8 : decode cX1_placed 8 = .ok (.isub, 1) := by decide +kernel
theorem dX1_placed_9 : decode cX1_placed 9 = .ok (.imul, 1) := by decide +kernel
theorem dX1_placed_10 : decode cX1_placed 10 = .ok (.istore 4, 2) := by decide +kernel
theorem dX1_placed_12 : decode cX1_placed 12 = .ok (.iload_n 1, 1) := by decide +kernel
theorem dX1_placed_13 : decode cX1_placed 13 = .ok (.iconst 3, 1) := by decide +kernel
theorem dX1_placed_14 : decode cX1_placed 14 = .ok (.iload 4, 2) := by decide +kernel
theorem dX1_placed_16 : decode cX1_placed 16 = .ok (.ishl, 1) := by decide +kernel
theorem dX1_placed_17 : decode cX1_placed 17 = .ok (.iconst (-1), 1) := by decide +kernel
theorem dX1_placed_18 : decode cX1_placed 18 = .ok (.ixor, 1) := by decide +kernel
theorem dX1_placed_19 : decode cX1_placed 19 = .ok (.iand, 1) := by decide +kernel
theorem dX1_placed_20 : decode cX1_placed 20 = .ok (.iload_n 3, 1) := by decide +kernel
theorem dX1_placed_21 : decode cX1_placed 21 = .ok (.iload 4, 2) := by decide +kernel
theorem dX1_placed_23 : decode cX1_placed 23 = .ok (.ishl, 1) := by decide +kernel
theorem dX1_placed_24 : decode cX1_placed 24 = .ok (.ior, 1) := by decide +kernel
theorem dX1_placed_25 : decode cX1_placed 25 = .ok (.ireturn, 1) := by decide +kernel
set_option maxRecDepth 20000 in
theorem ggX1_thingOf_X1_thingIn : GoodIn wsX1_thingOf wsX1_thingIn := goodIn_r _ [6, 7, 8, 9, 10] (by decide +kernel) (by decide +kernel)
set_option maxRecDepth 20000 in
theorem gX1_thingOf_X1_thingIn : GoodIn wsX1_thingOf (wsV RX1 84 RX1 yX1_thingIn wsX1_thingIn) := goodIn_app (goodIn_of _ (by decide +kernel)) ggX1_thingOf_X1_thingIn
theorem dX1_thingOf_0 : decode cX1_thingOf 0 = .ok (.aload_n 0, 1) := by decide +kernel
theorem dX1_thingOf_1 : decode cX1_thingOf 1 = .ok (.aload_n 0, 1) := by decide +kernel
theorem dX1_thingOf_2 : decode cX1_thingOf 2 = .ok (.getfield 23, 3) := by decide +kernel
theorem dX1_thingOf_5 : decode cX1_thingOf 5 = .ok (.getfield 62, 3) := by decide +kernel
theorem dX1_thingOf_8 : decode cX1_thingOf 8 = .ok (.iload_n 1, 1) := by decide +kernel
theorem dX1_thingOf_9 : decode cX1_thingOf 9 = .ok (.invokevirtual 84, 3) := by decide +kernel
theorem dX1_thingOf_12 : decode cX1_thingOf 12 = .ok (.ireturn, 1) := by decide +kernel
set_option maxRecDepth 20000 in
theorem ggX1_ownerOf_X1_thingOf : GoodIn wsX1_ownerOf wsX1_thingOf := goodIn_r _ [6, 7, 8, 9, 10, 5, 11, 1, 12, 13, 14, 15, 16, 17, 18, 19, 20, 21, 22, 23] (by decide +kernel) (by decide +kernel)
set_option maxRecDepth 20000 in
theorem gX1_ownerOf_X1_thingOf : GoodIn wsX1_ownerOf (wsV RX1 87 RX1 yX1_thingOf wsX1_thingOf) := goodIn_app (goodIn_of _ (by decide +kernel)) ggX1_ownerOf_X1_thingOf
theorem dX1_ownerOf_0 : decode cX1_ownerOf 0 = .ok (.iconst 0, 1) := by decide +kernel
theorem dX1_ownerOf_1 : decode cX1_ownerOf 1 = .ok (.istore_n 2, 1) := by decide +kernel
theorem dX1_ownerOf_2 : decode cX1_ownerOf 2 = .ok (.iload_n 2, 1) := by decide +kernel
theorem dX1_ownerOf_3 : decode cX1_ownerOf 3 = .ok (.iconst 4, 1) := by decide +kernel
theorem dX1_ownerOf_4 : decode cX1_ownerOf 4 = .ok (.if_icmp .ge 28, 3) := by decide +kernel
theorem dX1_ownerOf_7 : decode cX1_ownerOf 7 = .ok (.iload_n 2, 1) := by decide +kernel
theorem dX1_ownerOf_8 : decode cX1_ownerOf 8 = .ok (.aload_n 0, 1) := by decide +kernel
theorem dX1_ownerOf_9 : decode cX1_ownerOf 9 = .ok (.getfield 27, 3) := by decide +kernel
theorem dX1_ownerOf_12 : decode cX1_ownerOf 12 = .ok (.if_icmp .ge 20, 3) := by decide +kernel
theorem dX1_ownerOf_15 : decode cX1_ownerOf 15 = .ok (.aload_n 0, 1) := by decide +kernel
theorem dX1_ownerOf_16 : decode cX1_ownerOf 16 = .ok (.iload_n 2, 1) := by decide +kernel
theorem dX1_ownerOf_17 : decode cX1_ownerOf 17 = .ok (.invokevirtual 87, 3) := by decide +kernel
theorem dX1_ownerOf_20 : decode cX1_ownerOf 20 = .ok (.iload_n 1, 1) := by decide +kernel
theorem dX1_ownerOf_21 : decode cX1_ownerOf 21 = .ok (.if_icmp .ne 5, 3) := by decide +kernel
theorem dX1_ownerOf_24 : decode cX1_ownerOf 24 = .ok (.iload_n 2, 1) := by decide +kernel
theorem dX1_ownerOf_25 : decode cX1_ownerOf 25 = .ok (.ireturn, 1) := by decide +kernel
theorem dX1_ownerOf_26 : decode cX1_ownerOf 26 = .ok (.iinc 2 1, 3) := by decide +kernel
theorem dX1_ownerOf_29 : decode cX1_ownerOf 29 = .ok (.goto (-27), 3) := by decide +kernel
theorem dX1_ownerOf_32 : decode cX1_ownerOf 32 = .ok (.iconst (-1), 1) := by decide +kernel
theorem dX1_ownerOf_33 : decode cX1_ownerOf 33 = .ok (.ireturn, 1) := by decide +kernel
set_option maxRecDepth 20000 in
theorem ggX1_unlikeIn_X1_thingIn : GoodIn wsX1_unlikeIn wsX1_thingIn := goodIn_r _ [6, 1, 7, 8, 9] (by decide +kernel) (by decide +kernel)
set_option maxRecDepth 20000 in
theorem gX1_unlikeIn_X1_thingIn : GoodIn wsX1_unlikeIn (wsV RX1 84 RX1 yX1_thingIn wsX1_thingIn) := goodIn_app (goodIn_of _ (by decide +kernel)) ggX1_unlikeIn_X1_thingIn
theorem dX1_unlikeIn_0 : decode cX1_unlikeIn 0 = .ok (.iconst 0, 1) := by decide +kernel
theorem dX1_unlikeIn_1 : decode cX1_unlikeIn 1 = .ok (.istore_n 3, 1) := by decide +kernel
theorem dX1_unlikeIn_2 : decode cX1_unlikeIn 2 = .ok (.iconst 0, 1) := by decide +kernel
theorem dX1_unlikeIn_3 : decode cX1_unlikeIn 3 = .ok (.istore 4, 2) := by decide +kernel
theorem dX1_unlikeIn_5 : decode cX1_unlikeIn 5 = .ok (.iload 4, 2) := by decide +kernel
theorem dX1_unlikeIn_7 : decode cX1_unlikeIn 7 = .ok (.iconst 4, 1) := by decide +kernel
theorem dX1_unlikeIn_8 : decode cX1_unlikeIn 8 = .ok (.if_icmp .ge 38, 3) := by decide +kernel
theorem dX1_unlikeIn_11 : decode cX1_unlikeIn 11 = .ok (.iload 4, 2) := by decide +kernel
theorem dX1_unlikeIn_13 : decode cX1_unlikeIn 13 = .ok (.aload_n 0, 1) := by decide +kernel
theorem dX1_unlikeIn_14 : decode cX1_unlikeIn 14 = .ok (.getfield 27, 3) := by decide +kernel
theorem dX1_unlikeIn_17 : decode cX1_unlikeIn 17 = .ok (.if_icmp .ge 29, 3) := by decide +kernel
theorem dX1_unlikeIn_20 : decode cX1_unlikeIn 20 = .ok (.aload_n 0, 1) := by decide +kernel
theorem dX1_unlikeIn_21 : decode cX1_unlikeIn 21 = .ok (.iload_n 1, 1) := by decide +kernel
theorem dX1_unlikeIn_22 : decode cX1_unlikeIn 22 = .ok (.iload 4, 2) := by decide +kernel
theorem dX1_unlikeIn_24 : decode cX1_unlikeIn 24 = .ok (.invokevirtual 84, 3) := by decide +kernel
theorem dX1_unlikeIn_27 : decode cX1_unlikeIn 27 = .ok (.aload_n 0, 1) := by decide +kernel
theorem dX1_unlikeIn_28 : decode cX1_unlikeIn 28 = .ok (.iload_n 2, 1) := by decide +kernel
theorem dX1_unlikeIn_29 : decode cX1_unlikeIn 29 = .ok (.iload 4, 2) := by decide +kernel
theorem dX1_unlikeIn_31 : decode cX1_unlikeIn 31 = .ok (.invokevirtual 84, 3) := by decide +kernel
theorem dX1_unlikeIn_34 : decode cX1_unlikeIn 34 = .ok (.if_icmp .eq 6, 3) := by decide +kernel
theorem dX1_unlikeIn_37 : decode cX1_unlikeIn 37 = .ok (.iinc 3 1, 3) := by decide +kernel
theorem dX1_unlikeIn_40 : decode cX1_unlikeIn 40 = .ok (.iinc 4 1, 3) := by decide +kernel
theorem dX1_unlikeIn_43 : decode cX1_unlikeIn 43 = .ok (.goto (-38), 3) := by decide +kernel
theorem dX1_unlikeIn_46 : decode cX1_unlikeIn 46 = .ok (.iload_n 3, 1) := by decide +kernel
theorem dX1_unlikeIn_47 : decode cX1_unlikeIn 47 = .ok (.ireturn, 1) := by decide +kernel
set_option maxRecDepth 20000 in
theorem ggX1_worthIn_X1_thingIn : GoodIn wsX1_worthIn wsX1_thingIn := goodIn_r _ [6, 7, 14, 15, 16] (by decide +kernel) (by decide +kernel)
set_option maxRecDepth 20000 in
theorem gX1_worthIn_X1_thingIn : GoodIn wsX1_worthIn (wsV RX1 84 RX1 yX1_thingIn wsX1_thingIn) := goodIn_app (goodIn_of _ (by decide +kernel)) ggX1_worthIn_X1_thingIn
set_option maxRecDepth 20000 in
theorem ggX1_worthIn_X5_at : GoodIn wsX1_worthIn wsX5_at := goodIn_r _ [12, 13, 26] (by decide +kernel) (by decide +kernel)
set_option maxRecDepth 20000 in
theorem gX1_worthIn_X5_at : GoodIn wsX1_worthIn (wsV RX1 68 RX5 yX5_at wsX5_at) := goodIn_app (goodIn_of _ (by decide +kernel)) ggX1_worthIn_X5_at
theorem dX1_worthIn_0 : decode cX1_worthIn 0 = .ok (.aload_n 0, 1) := by decide +kernel
theorem dX1_worthIn_1 : decode cX1_worthIn 1 = .ok (.getfield 23, 3) := by decide +kernel
theorem dX1_worthIn_4 : decode cX1_worthIn 4 = .ok (.getfield 41, 3) := by decide +kernel
theorem dX1_worthIn_7 : decode cX1_worthIn 7 = .ok (.iload_n 2, 1) := by decide +kernel
theorem dX1_worthIn_8 : decode cX1_worthIn 8 = .ok (.aload_n 0, 1) := by decide +kernel
theorem dX1_worthIn_9 : decode cX1_worthIn 9 = .ok (.iload_n 1, 1) := by decide +kernel
theorem dX1_worthIn_10 : decode cX1_worthIn 10 = .ok (.iload_n 2, 1) := by decide +kernel
theorem dX1_worthIn_11 : decode cX1_worthIn 11 = .ok (.invokevirtual 84, 3) := by decide +kernel
theorem dX1_worthIn_14 : decode cX1_worthIn 14 = .ok (.invokevirtual 68, 3) := by decide +kernel
theorem dX1_worthIn_17 : decode cX1_worthIn 17 = .ok (.ireturn, 1) := by decide +kernel
set_option maxRecDepth 20000 in
theorem ggX1_sumOf_X1_worthIn : GoodIn wsX1_sumOf wsX1_worthIn := goodIn_r _ [6, 7, 8, 9, 10, 5, 11, 1, 12, 13, 14, 15, 16, 17, 18, 19, 20, 21, 22, 23, 24, 25, 26, 27, 28, 29, 30] (by decide +kernel) (by decide +kernel)
set_option maxRecDepth 20000 in
theorem gX1_sumOf_X1_worthIn : GoodIn wsX1_sumOf (wsV RX1 90 RX1 yX1_worthIn wsX1_worthIn) := goodIn_app (goodIn_of _ (by decide +kernel)) ggX1_sumOf_X1_worthIn
theorem dX1_sumOf_0 : decode cX1_sumOf 0 = .ok (.iconst 0, 1) := by decide +kernel
theorem dX1_sumOf_1 : decode cX1_sumOf 1 = .ok (.istore_n 2, 1) := by decide +kernel
theorem dX1_sumOf_2 : decode cX1_sumOf 2 = .ok (.iconst 0, 1) := by decide +kernel
theorem dX1_sumOf_3 : decode cX1_sumOf 3 = .ok (.istore_n 3, 1) := by decide +kernel
theorem dX1_sumOf_4 : decode cX1_sumOf 4 = .ok (.iload_n 3, 1) := by decide +kernel
theorem dX1_sumOf_5 : decode cX1_sumOf 5 = .ok (.iconst 4, 1) := by decide +kernel
theorem dX1_sumOf_6 : decode cX1_sumOf 6 = .ok (.if_icmp .ge 26, 3) := by decide +kernel
theorem dX1_sumOf_9 : decode cX1_sumOf 9 = .ok (.iload_n 3, 1) := by decide +kernel
theorem dX1_sumOf_10 : decode cX1_sumOf 10 = .ok (.aload_n 0, 1) := by decide +kernel
theorem dX1_sumOf_11 : decode cX1_sumOf 11 = .ok (.getfield 27, 3) := by decide +kernel
theorem dX1_sumOf_14 : decode cX1_sumOf 14 = .ok (.if_icmp .ge 18, 3) := by decide +kernel
theorem dX1_sumOf_17 : decode cX1_sumOf 17 = .ok (.iload_n 2, 1) := by decide +kernel
theorem dX1_sumOf_18 : decode cX1_sumOf 18 = .ok (.aload_n 0, 1) := by decide +kernel
theorem dX1_sumOf_19 : decode cX1_sumOf 19 = .ok (.iload_n 1, 1) := by decide +kernel
theorem dX1_sumOf_20 : decode cX1_sumOf 20 = .ok (.iload_n 3, 1) := by decide +kernel
theorem dX1_sumOf_21 : decode cX1_sumOf 21 = .ok (.invokevirtual 90, 3) := by decide +kernel
theorem dX1_sumOf_24 : decode cX1_sumOf 24 = .ok (.iadd, 1) := by decide +kernel
theorem dX1_sumOf_25 : decode cX1_sumOf 25 = .ok (.istore_n 2, 1) := by decide +kernel
theorem dX1_sumOf_26 : decode cX1_sumOf 26 = .ok (.iinc 3 1, 3) := by decide +kernel
theorem dX1_sumOf_29 : decode cX1_sumOf 29 = .ok (.goto (-25), 3) := by decide +kernel
theorem dX1_sumOf_32 : decode cX1_sumOf 32 = .ok (.iload_n 2, 1) := by decide +kernel
theorem dX1_sumOf_33 : decode cX1_sumOf 33 = .ok (.ireturn, 1) := by decide +kernel
set_option maxRecDepth 20000 in
theorem ggX1_isContent_X1_worthIn : GoodIn wsX1_isContent wsX1_worthIn := goodIn_r _ [5, 6, 7, 8, 9, 4, 10, 11, 12, 13, 14, 15, 16, 17, 18, 19, 20, 21, 22, 23, 24, 25, 26, 27, 28, 29, 30] (by decide +kernel) (by decide +kernel)
set_option maxRecDepth 20000 in
theorem gX1_isContent_X1_worthIn : GoodIn wsX1_isContent (wsV RX1 90 RX1 yX1_worthIn wsX1_worthIn) := goodIn_app (goodIn_of _ (by decide +kernel)) ggX1_isContent_X1_worthIn
theorem dX1_isContent_0 : decode cX1_isContent 0 = .ok (.aload_n 0, 1) := by decide +kernel
theorem dX1_isContent_1 : decode cX1_isContent 1 = .ok (.iload_n 1, 1) := by decide +kernel
theorem dX1_isContent_2 : decode cX1_isContent 2 = .ok (.iload_n 2, 1) := by decide +kernel
theorem dX1_isContent_3 : decode cX1_isContent 3 = .ok (.invokevirtual 90, 3) := by decide +kernel
theorem dX1_isContent_6 : decode cX1_isContent 6 = .ok (.iconst 5, 1) := by decide +kernel
theorem dX1_isContent_7 : decode cX1_isContent 7 = .ok (.if_icmp .lt 7, 3) := by decide +kernel
theorem dX1_isContent_10 : decode cX1_isContent 10 = .ok (.iconst 1, 1) := by decide +kernel
theorem dX1_isContent_11 : decode cX1_isContent 11 = .ok (.goto 4, 3) := by decide +kernel
theorem dX1_isContent_14 : decode cX1_isContent 14 = .ok (.iconst 0, 1) := by decide +kernel
theorem dX1_isContent_15 : decode cX1_isContent 15 = .ok (.ireturn, 1) := by decide +kernel
set_option maxRecDepth 20000 in
theorem ggX1_contentIn_X1_isContent : GoodIn wsX1_contentIn wsX1_isContent := goodIn_r _ [6, 7, 8, 9, 5, 10, 11, 12, 13, 14, 15, 1, 16, 17, 18, 19, 20, 21, 22, 23, 24, 25, 26, 27, 28, 29, 30, 31, 32, 33, 34] (by decide +kernel) (by decide +kernel)
set_option maxRecDepth 20000 in
theorem gX1_contentIn_X1_isContent : GoodIn wsX1_contentIn (wsV RX1 93 RX1 yX1_isContent wsX1_isContent) := goodIn_app (goodIn_of _ (by decide +kernel)) ggX1_contentIn_X1_isContent
theorem dX1_contentIn_0 : decode cX1_contentIn 0 = .ok (.iconst 0, 1) := by decide +kernel
theorem dX1_contentIn_1 : decode cX1_contentIn 1 = .ok (.istore_n 2, 1) := by decide +kernel
theorem dX1_contentIn_2 : decode cX1_contentIn 2 = .ok (.iconst 0, 1) := by decide +kernel
theorem dX1_contentIn_3 : decode cX1_contentIn 3 = .ok (.istore_n 3, 1) := by decide +kernel
theorem dX1_contentIn_4 : decode cX1_contentIn 4 = .ok (.iload_n 3, 1) := by decide +kernel
theorem dX1_contentIn_5 : decode cX1_contentIn 5 = .ok (.iconst 4, 1) := by decide +kernel
theorem dX1_contentIn_6 : decode cX1_contentIn 6 = .ok (.if_icmp .ge 29, 3) := by decide +kernel
theorem dX1_contentIn_9 : decode cX1_contentIn 9 = .ok (.iload_n 3, 1) := by decide +kernel
theorem dX1_contentIn_10 : decode cX1_contentIn 10 = .ok (.aload_n 0, 1) := by decide +kernel
theorem dX1_contentIn_11 : decode cX1_contentIn 11 = .ok (.getfield 27, 3) := by decide +kernel
theorem dX1_contentIn_14 : decode cX1_contentIn 14 = .ok (.if_icmp .ge 21, 3) := by decide +kernel
theorem dX1_contentIn_17 : decode cX1_contentIn 17 = .ok (.aload_n 0, 1) := by decide +kernel
theorem dX1_contentIn_18 : decode cX1_contentIn 18 = .ok (.iload_n 1, 1) := by decide +kernel
theorem dX1_contentIn_19 : decode cX1_contentIn 19 = .ok (.iload_n 3, 1) := by decide +kernel
theorem dX1_contentIn_20 : decode cX1_contentIn 20 = .ok (.invokevirtual 93, 3) := by decide +kernel
theorem dX1_contentIn_23 : decode cX1_contentIn 23 = .ok (.ifCond .eq 6, 3) := by decide +kernel
theorem dX1_contentIn_26 : decode cX1_contentIn 26 = .ok (.iinc 2 1, 3) := by decide +kernel
theorem dX1_contentIn_29 : decode cX1_contentIn 29 = .ok (.iinc 3 1, 3) := by decide +kernel
theorem dX1_contentIn_32 : decode cX1_contentIn 32 = .ok (.goto (-28), 3) := by decide +kernel
theorem dX1_contentIn_35 : decode cX1_contentIn 35 = .ok (.iload_n 2, 1) := by decide +kernel
theorem dX1_contentIn_36 : decode cX1_contentIn 36 = .ok (.ireturn, 1) := by decide +kernel
set_option maxRecDepth 20000 in
theorem ggX1_mayIn_X1_thingIn : GoodIn wsX1_mayIn wsX1_thingIn := goodIn_r _ [6, 7, 28, 29, 30] (by decide +kernel) (by decide +kernel)
set_option maxRecDepth 20000 in
theorem gX1_mayIn_X1_thingIn : GoodIn wsX1_mayIn (wsV RX1 84 RX1 yX1_thingIn wsX1_thingIn) := goodIn_app (goodIn_of _ (by decide +kernel)) ggX1_mayIn_X1_thingIn
set_option maxRecDepth 20000 in
theorem ggX1_mayIn_X1_saidBy : GoodIn wsX1_mayIn wsX1_saidBy := goodIn_r _ [11, 12, 1, 13, 14, 15, 16, 17, 18, 19, 20, 21, 22, 23, 24, 25, 26, 5, 27, 28, 29, 30, 31, 32, 33, 34, 35, 36, 37, 38, 39, 40, 41] (by decide +kernel) (by decide +kernel)
set_option maxRecDepth 20000 in
theorem gX1_mayIn_X1_saidBy : GoodIn wsX1_mayIn (wsV RX1 81 RX1 yX1_saidBy wsX1_saidBy) := goodIn_app (goodIn_of _ (by decide +kernel)) ggX1_mayIn_X1_saidBy
set_option maxRecDepth 20000 in
theorem ggX1_mayIn_X5_at : GoodIn wsX1_mayIn wsX5_at := goodIn_r _ [23, 24, 41] (by decide +kernel) (by decide +kernel)
set_option maxRecDepth 20000 in
theorem gX1_mayIn_X5_at : GoodIn wsX1_mayIn (wsV RX1 68 RX5 yX5_at wsX5_at) := goodIn_app (goodIn_of _ (by decide +kernel)) ggX1_mayIn_X5_at
theorem dX1_mayIn_0 : decode cX1_mayIn 0 = .ok (.aload_n 0, 1) := by decide +kernel
theorem dX1_mayIn_1 : decode cX1_mayIn 1 = .ok (.iload_n 1, 1) := by decide +kernel
theorem dX1_mayIn_2 : decode cX1_mayIn 2 = .ok (.iload_n 2, 1) := by decide +kernel
theorem dX1_mayIn_3 : decode cX1_mayIn 3 = .ok (.invokevirtual 84, 3) := by decide +kernel
theorem dX1_mayIn_6 : decode cX1_mayIn 6 = .ok (.istore 4, 2) := by decide +kernel
theorem dX1_mayIn_8 : decode cX1_mayIn 8 = .ok (.aload_n 0, 1) := by decide +kernel
theorem dX1_mayIn_9 : decode cX1_mayIn 9 = .ok (.iload_n 1, 1) := by decide +kernel
theorem dX1_mayIn_10 : decode cX1_mayIn 10 = .ok (.iload_n 3, 1) := by decide +kernel
theorem dX1_mayIn_11 : decode cX1_mayIn 11 = .ok (.invokevirtual 84, 3) := by decide +kernel
theorem dX1_mayIn_14 : decode cX1_mayIn 14 = .ok (.istore 5, 2) := by decide +kernel
theorem dX1_mayIn_16 : decode cX1_mayIn 16 = .ok (.aload_n 0, 1) := by decide +kernel
theorem dX1_mayIn_17 : decode cX1_mayIn 17 = .ok (.iload_n 2, 1) := by decide +kernel
theorem dX1_mayIn_18 : decode cX1_mayIn 18 = .ok (.iload 5, 2) := by decide +kernel
theorem dX1_mayIn_20 : decode cX1_mayIn 20 = .ok (.invokevirtual 81, 3) := by decide +kernel
theorem dX1_mayIn_23 : decode cX1_mayIn 23 = .ok (.aload_n 0, 1) := by decide +kernel
theorem dX1_mayIn_24 : decode cX1_mayIn 24 = .ok (.iload_n 3, 1) := by decide +kernel
theorem dX1_mayIn_25 : decode cX1_mayIn 25 = .ok (.iload 5, 2) := by decide +kernel
theorem dX1_mayIn_27 : decode cX1_mayIn 27 = .ok (.invokevirtual 81, 3) := by decide +kernel
theorem dX1_mayIn_30 : decode cX1_mayIn 30 = .ok (.if_icmp .ge 24, 3) := by decide +kernel
theorem dX1_mayIn_33 : decode cX1_mayIn 33 = .ok (.aload_n 0, 1) := by decide +kernel
theorem dX1_mayIn_34 : decode cX1_mayIn 34 = .ok (.iload_n 3, 1) := by decide +kernel
theorem dX1_mayIn_35 : decode cX1_mayIn 35 = .ok (.iload 4, 2) := by decide +kernel
theorem dX1_mayIn_37 : decode cX1_mayIn 37 = .ok (.invokevirtual 81, 3) := by decide +kernel
theorem dX1_mayIn_40 : decode cX1_mayIn 40 = .ok (.aload_n 0, 1) := by decide +kernel
theorem dX1_mayIn_41 : decode cX1_mayIn 41 = .ok (.iload_n 2, 1) := by decide +kernel
theorem dX1_mayIn_42 : decode cX1_mayIn 42 = .ok (.iload 4, 2) := by decide +kernel
theorem dX1_mayIn_44 : decode cX1_mayIn 44 = .ok (.invokevirtual 81, 3) := by decide +kernel
theorem dX1_mayIn_47 : decode cX1_mayIn 47 = .ok (.if_icmp .ge 7, 3) := by decide +kernel
theorem dX1_mayIn_50 : decode cX1_mayIn 50 = .ok (.iconst 1, 1) := by decide +kernel
theorem dX1_mayIn_51 : decode cX1_mayIn 51 = .ok (.goto 4, 3) := by decide +kernel
theorem dX1_mayIn_54 : decode cX1_mayIn 54 = .ok (.iconst 0, 1) := by decide +kernel
theorem dX1_mayIn_55 : decode cX1_mayIn 55 = .ok (.istore 6, 2) := by decide +kernel
theorem dX1_mayIn_57 : decode cX1_mayIn 57 = .ok (.aload_n 0, 1) := by decide +kernel
theorem dX1_mayIn_58 : decode cX1_mayIn 58 = .ok (.getfield 23, 3) := by decide +kernel
theorem dX1_mayIn_61 : decode cX1_mayIn 61 = .ok (.getfield 41, 3) := by decide +kernel
theorem dX1_mayIn_64 : decode cX1_mayIn 64 = .ok (.iload_n 2, 1) := by decide +kernel
theorem dX1_mayIn_65 : decode cX1_mayIn 65 = .ok (.iload 5, 2) := by decide +kernel
theorem dX1_mayIn_67 : decode cX1_mayIn 67 = .ok (.invokevirtual 68, 3) := by decide +kernel
theorem dX1_mayIn_70 : decode cX1_mayIn 70 = .ok (.aload_n 0, 1) := by decide +kernel
theorem dX1_mayIn_71 : decode cX1_mayIn 71 = .ok (.getfield 23, 3) := by decide +kernel
theorem dX1_mayIn_74 : decode cX1_mayIn 74 = .ok (.getfield 41, 3) := by decide +kernel
theorem dX1_mayIn_77 : decode cX1_mayIn 77 = .ok (.iload_n 2, 1) := by decide +kernel
theorem dX1_mayIn_78 : decode cX1_mayIn 78 = .ok (.iload 4, 2) := by decide +kernel
theorem dX1_mayIn_80 : decode cX1_mayIn 80 = .ok (.invokevirtual 68, 3) := by decide +kernel
theorem dX1_mayIn_83 : decode cX1_mayIn 83 = .ok (.if_icmp .le 36, 3) := by decide +kernel
theorem dX1_mayIn_86 : decode cX1_mayIn 86 = .ok (.aload_n 0, 1) := by decide +kernel
theorem dX1_mayIn_87 : decode cX1_mayIn 87 = .ok (.getfield 23, 3) := by decide +kernel
theorem dX1_mayIn_90 : decode cX1_mayIn 90 = .ok (.getfield 41, 3) := by decide +kernel
theorem dX1_mayIn_93 : decode cX1_mayIn 93 = .ok (.iload_n 3, 1) := by decide +kernel
theorem dX1_mayIn_94 : decode cX1_mayIn 94 = .ok (.iload 4, 2) := by decide +kernel
theorem dX1_mayIn_96 : decode cX1_mayIn 96 = .ok (.invokevirtual 68, 3) := by decide +kernel
theorem dX1_mayIn_99 : decode cX1_mayIn 99 = .ok (.aload_n 0, 1) := by decide +kernel
theorem dX1_mayIn_100 : decode cX1_mayIn 100 = .ok (.getfield 23, 3) := by decide +kernel
theorem dX1_mayIn_103 : decode cX1_mayIn 103 = .ok (.getfield 41, 3) := by decide +kernel
theorem dX1_mayIn_106 : decode cX1_mayIn 106 = .ok (.iload_n 3, 1) := by decide +kernel
theorem dX1_mayIn_107 : decode cX1_mayIn 107 = .ok (.iload 5, 2) := by decide +kernel
theorem dX1_mayIn_109 : decode cX1_mayIn 109 = .ok (.invokevirtual 68, 3) := by decide +kernel
theorem dX1_mayIn_112 : decode cX1_mayIn 112 = .ok (.if_icmp .le 7, 3) := by decide +kernel
theorem dX1_mayIn_115 : decode cX1_mayIn 115 = .ok (.iconst 1, 1) := by decide +kernel
theorem dX1_mayIn_116 : decode cX1_mayIn 116 = .ok (.goto 4, 3) := by decide +kernel
theorem dX1_mayIn_119 : decode cX1_mayIn 119 = .ok (.iconst 0, 1) := by decide +kernel
theorem dX1_mayIn_120 : decode cX1_mayIn 120 = .ok (.istore 7, 2) := by decide +kernel
theorem dX1_mayIn_122 : decode cX1_mayIn 122 = .ok (.iload 6, 2) := by decide +kernel
theorem dX1_mayIn_124 : decode cX1_mayIn 124 = .ok (.ifCond .eq 7, 3) := by decide +kernel
theorem dX1_mayIn_127 : decode cX1_mayIn 127 = .ok (.iconst 2, 1) := by decide +kernel
theorem dX1_mayIn_128 : decode cX1_mayIn 128 = .ok (.goto 4, 3) := by decide +kernel
theorem dX1_mayIn_131 : decode cX1_mayIn 131 = .ok (.iconst 0, 1) := by decide +kernel
theorem dX1_mayIn_132 : decode cX1_mayIn 132 = .ok (.iload 7, 2) := by decide +kernel
theorem dX1_mayIn_134 : decode cX1_mayIn 134 = .ok (.ifCond .eq 7, 3) := by decide +kernel
theorem dX1_mayIn_137 : decode cX1_mayIn 137 = .ok (.iconst 1, 1) := by decide +kernel
theorem dX1_mayIn_138 : decode cX1_mayIn 138 = .ok (.goto 4, 3) := by decide +kernel
theorem dX1_mayIn_141 : decode cX1_mayIn 141 = .ok (.iconst 0, 1) := by decide +kernel
theorem dX1_mayIn_142 : decode cX1_mayIn 142 = .ok (.iadd, 1) := by decide +kernel
theorem dX1_mayIn_143 : decode cX1_mayIn 143 = .ok (.ireturn, 1) := by decide +kernel
set_option maxRecDepth 20000 in
theorem ggX1_changed_X1_thingIn : GoodIn wsX1_changed wsX1_thingIn := goodIn_r _ [5, 6, 11, 12, 13] (by decide +kernel) (by decide +kernel)
set_option maxRecDepth 20000 in
theorem gX1_changed_X1_thingIn : GoodIn wsX1_changed (wsV RX1 84 RX1 yX1_thingIn wsX1_thingIn) := goodIn_app (goodIn_of _ (by decide +kernel)) ggX1_changed_X1_thingIn
set_option maxRecDepth 20000 in
theorem ggX1_changed_X1_placed : GoodIn wsX1_changed wsX1_placed := goodIn_r _ [10, 6, 11, 12, 13] (by decide +kernel) (by decide +kernel)
set_option maxRecDepth 20000 in
theorem gX1_changed_X1_placed : GoodIn wsX1_changed (wsV RX1 78 RX1 yX1_placed wsX1_placed) := goodIn_app (goodIn_of _ (by decide +kernel)) ggX1_changed_X1_placed
theorem dX1_changed_0 : decode cX1_changed 0 = .ok (.aload_n 0, 1) := by decide +kernel
theorem dX1_changed_1 : decode cX1_changed 1 = .ok (.aload_n 0, 1) := by decide +kernel
theorem dX1_changed_2 : decode cX1_changed 2 = .ok (.iload_n 1, 1) := by decide +kernel
theorem dX1_changed_3 : decode cX1_changed 3 = .ok (.iload_n 2, 1) := by decide +kernel
theorem dX1_changed_4 : decode cX1_changed 4 = .ok (.aload_n 0, 1) := by decide +kernel
theorem dX1_changed_5 : decode cX1_changed 5 = .ok (.iload_n 1, 1) := by decide +kernel
theorem dX1_changed_6 : decode cX1_changed 6 = .ok (.iload_n 3, 1) := by decide +kernel
theorem dX1_changed_7 : decode cX1_changed 7 = .ok (.invokevirtual 84, 3) := by decide +kernel
theorem dX1_changed_10 : decode cX1_changed 10 = .ok (.invokevirtual 78, 3) := by decide +kernel
theorem dX1_changed_13 : decode cX1_changed 13 = .ok (.iload_n 3, 1) := by decide +kernel
theorem dX1_changed_14 : decode cX1_changed 14 = .ok (.aload_n 0, 1) := by decide +kernel
theorem dX1_changed_15 : decode cX1_changed 15 = .ok (.iload_n 1, 1) := by decide +kernel
theorem dX1_changed_16 : decode cX1_changed 16 = .ok (.iload_n 2, 1) := by decide +kernel
theorem dX1_changed_17 : decode cX1_changed 17 = .ok (.invokevirtual 84, 3) := by decide +kernel
theorem dX1_changed_20 : decode cX1_changed 20 = .ok (.invokevirtual 78, 3) := by decide +kernel
theorem dX1_changed_23 : decode cX1_changed 23 = .ok (.ireturn, 1) := by decide +kernel
set_option maxRecDepth 20000 in
theorem ggX1_worstLie_X1_isParted : GoodIn wsX1_worstLie wsX1_isParted := goodIn_r _ [6, 1, 7, 8, 9, 5, 10, 11, 12, 13, 14, 15, 16, 17, 33, 34, 35] (by decide +kernel) (by decide +kernel)
set_option maxRecDepth 20000 in
theorem gX1_worstLie_X1_isParted : GoodIn wsX1_worstLie (wsV RX1 97 RX1 yX1_isParted wsX1_isParted) := goodIn_app (goodIn_of _ (by decide +kernel)) ggX1_worstLie_X1_isParted
set_option maxRecDepth 20000 in
theorem ggX1_worstLie_X1_sumOf : GoodIn wsX1_worstLie wsX1_sumOf := goodIn_r _ [21, 1, 22, 23, 24, 5, 25, 26, 7, 8, 9, 10, 27, 28, 29, 30, 31, 32, 33, 34, 35, 36, 37, 38, 39, 40, 41, 42, 43, 44, 45] (by decide +kernel) (by decide +kernel)
set_option maxRecDepth 20000 in
theorem gX1_worstLie_X1_sumOf : GoodIn wsX1_worstLie (wsV RX1 101 RX1 yX1_sumOf wsX1_sumOf) := goodIn_app (goodIn_of _ (by decide +kernel)) ggX1_worstLie_X1_sumOf
theorem dX1_worstLie_0 : decode cX1_worstLie 0 = .ok (.iconst 0, 1) := by decide +kernel
theorem dX1_worstLie_1 : decode cX1_worstLie 1 = .ok (.istore_n 1, 1) := by decide +kernel
theorem dX1_worstLie_2 : decode cX1_worstLie 2 = .ok (.bipush 37, 2) := by decide +kernel
theorem dX1_worstLie_4 : decode cX1_worstLie 4 = .ok (.istore_n 2, 1) := by decide +kernel
theorem dX1_worstLie_5 : decode cX1_worstLie 5 = .ok (.iconst 0, 1) := by decide +kernel
theorem dX1_worstLie_6 : decode cX1_worstLie 6 = .ok (.istore_n 3, 1) := by decide +kernel
theorem dX1_worstLie_7 : decode cX1_worstLie 7 = .ok (.iload_n 3, 1) := by decide +kernel
theorem dX1_worstLie_8 : decode cX1_worstLie 8 = .ok (.sipush 256, 3) := by decide +kernel
theorem dX1_worstLie_11 : decode cX1_worstLie 11 = .ok (.if_icmp .ge 46, 3) := by decide +kernel
theorem dX1_worstLie_14 : decode cX1_worstLie 14 = .ok (.iload_n 3, 1) := by decide +kernel
theorem dX1_worstLie_15 : decode cX1_worstLie 15 = .ok (.iconst 1, 1) := by decide +kernel
theorem dX1_worstLie_16 : decode cX1_worstLie 16 = .ok (.iconst 2, 1) := by decide +kernel
theorem dX1_worstLie_17 : decode cX1_worstLie 17 = .ok (.aload_n 0, 1) := by decide +kernel
theorem dX1_worstLie_18 : decode cX1_worstLie 18 = .ok (.getfield 27, 3) := by decide +kernel
theorem dX1_worstLie_21 : decode cX1_worstLie 21 = .ok (.imul, 1) := by decide +kernel
theorem dX1_worstLie_22 : decode cX1_worstLie 22 = .ok (.ishl, 1) := by decide +kernel
theorem dX1_worstLie_23 : decode cX1_worstLie 23 = .ok (.if_icmp .ge 34, 3) := by decide +kernel
theorem dX1_worstLie_26 : decode cX1_worstLie 26 = .ok (.aload_n 0, 1) := by decide +kernel
theorem dX1_worstLie_27 : decode cX1_worstLie 27 = .ok (.iload_n 3, 1) := by decide +kernel
theorem dX1_worstLie_28 : decode cX1_worstLie 28 = .ok (.invokevirtual 97, 3) := by decide +kernel
theorem dX1_worstLie_31 : decode cX1_worstLie 31 = .ok (.ifCond .eq 20, 3) := by decide +kernel
theorem dX1_worstLie_34 : decode cX1_worstLie 34 = .ok (.aload_n 0, 1) := by decide +kernel
theorem dX1_worstLie_35 : decode cX1_worstLie 35 = .ok (.iload_n 3, 1) := by decide +kernel
theorem dX1_worstLie_36 : decode cX1_worstLie 36 = .ok (.invokevirtual 101, 3) := by decide +kernel
theorem dX1_worstLie_39 : decode cX1_worstLie 39 = .ok (.iload_n 2, 1) := by decide +kernel
theorem dX1_worstLie_40 : decode cX1_worstLie 40 = .ok (.if_icmp .ge 11, 3) := by decide +kernel
theorem dX1_worstLie_43 : decode cX1_worstLie 43 = .ok (.iload_n 3, 1) := by decide +kernel
theorem dX1_worstLie_44 : decode cX1_worstLie 44 = .ok (.istore_n 1, 1) := by decide +kernel
theorem dX1_worstLie_45 : decode cX1_worstLie 45 = .ok (.aload_n 0, 1) := by decide +kernel
theorem dX1_worstLie_46 : decode cX1_worstLie 46 = .ok (.iload_n 3, 1) := by decide +kernel
theorem dX1_worstLie_47 : decode cX1_worstLie 47 = .ok (.invokevirtual 101, 3) := by decide +kernel
theorem dX1_worstLie_50 : decode cX1_worstLie 50 = .ok (.istore_n 2, 1) := by decide +kernel
theorem dX1_worstLie_51 : decode cX1_worstLie 51 = .ok (.iinc 3 1, 3) := by decide +kernel
theorem dX1_worstLie_54 : decode cX1_worstLie 54 = .ok (.goto (-47), 3) := by decide +kernel
theorem dX1_worstLie_57 : decode cX1_worstLie 57 = .ok (.iload_n 1, 1) := by decide +kernel
theorem dX1_worstLie_58 : decode cX1_worstLie 58 = .ok (.ireturn, 1) := by decide +kernel
set_option maxRecDepth 20000 in
theorem ggX1_isParted_X1_thingIn : GoodIn wsX1_isParted wsX1_thingIn := goodIn_r _ [6, 1, 14, 15, 16] (by decide +kernel) (by decide +kernel)
set_option maxRecDepth 20000 in
theorem gX1_isParted_X1_thingIn : GoodIn wsX1_isParted (wsV RX1 84 RX1 yX1_thingIn wsX1_thingIn) := goodIn_app (goodIn_of _ (by decide +kernel)) ggX1_isParted_X1_thingIn
set_option maxRecDepth 20000 in
theorem ggX1_isParted_J6_bitCount_0f7a4 : GoodIn wsX1_isParted wsJ6_bitCount_0f7a4 := goodIn_r _ [10, 11, 12, 13] (by decide +kernel) (by decide +kernel)
set_option maxRecDepth 20000 in
theorem gX1_isParted_J6_bitCount_0f7a4 : GoodIn wsX1_isParted (va_wsS RX1 104 yJ6_bitCount_0f7a4 wsJ6_bitCount_0f7a4) := goodIn_app (goodIn_of _ (by decide +kernel)) ggX1_isParted_J6_bitCount_0f7a4
theorem dX1_isParted_0 : decode cX1_isParted 0 = .ok (.iconst 0, 1) := by decide +kernel
theorem dX1_isParted_1 : decode cX1_isParted 1 = .ok (.istore_n 2, 1) := by decide +kernel
theorem dX1_isParted_2 : decode cX1_isParted 2 = .ok (.iconst 0, 1) := by decide +kernel
theorem dX1_isParted_3 : decode cX1_isParted 3 = .ok (.istore_n 3, 1) := by decide +kernel
theorem dX1_isParted_4 : decode cX1_isParted 4 = .ok (.iload_n 3, 1) := by decide +kernel
theorem dX1_isParted_5 : decode cX1_isParted 5 = .ok (.iconst 4, 1) := by decide +kernel
theorem dX1_isParted_6 : decode cX1_isParted 6 = .ok (.if_icmp .ge 28, 3) := by decide +kernel
theorem dX1_isParted_9 : decode cX1_isParted 9 = .ok (.iload_n 3, 1) := by decide +kernel
theorem dX1_isParted_10 : decode cX1_isParted 10 = .ok (.aload_n 0, 1) := by decide +kernel
theorem dX1_isParted_11 : decode cX1_isParted 11 = .ok (.getfield 27, 3) := by decide +kernel
theorem dX1_isParted_14 : decode cX1_isParted 14 = .ok (.if_icmp .ge 20, 3) := by decide +kernel
theorem dX1_isParted_17 : decode cX1_isParted 17 = .ok (.iload_n 2, 1) := by decide +kernel
theorem dX1_isParted_18 : decode cX1_isParted 18 = .ok (.iconst 1, 1) := by decide +kernel
theorem dX1_isParted_19 : decode cX1_isParted 19 = .ok (.aload_n 0, 1) := by decide +kernel
theorem dX1_isParted_20 : decode cX1_isParted 20 = .ok (.iload_n 1, 1) := by decide +kernel
theorem dX1_isParted_21 : decode cX1_isParted 21 = .ok (.iload_n 3, 1) := by decide +kernel
theorem dX1_isParted_22 : decode cX1_isParted 22 = .ok (.invokevirtual 84, 3) := by decide +kernel
theorem dX1_isParted_25 : decode cX1_isParted 25 = .ok (.ishl, 1) := by decide +kernel
theorem dX1_isParted_26 : decode cX1_isParted 26 = .ok (.ior, 1) := by decide +kernel
theorem dX1_isParted_27 : decode cX1_isParted 27 = .ok (.istore_n 2, 1) := by decide +kernel
theorem dX1_isParted_28 : decode cX1_isParted 28 = .ok (.iinc 3 1, 3) := by decide +kernel
theorem dX1_isParted_31 : decode cX1_isParted 31 = .ok (.goto (-27), 3) := by decide +kernel
theorem dX1_isParted_34 : decode cX1_isParted 34 = .ok (.iload_n 2, 1) := by decide +kernel
theorem dX1_isParted_35 : decode cX1_isParted 35 = .ok (.invokestatic 104, 3) := by decide +kernel
theorem dX1_isParted_38 : decode cX1_isParted 38 = .ok (.aload_n 0, 1) := by decide +kernel
theorem dX1_isParted_39 : decode cX1_isParted 39 = .ok (.getfield 27, 3) := by decide +kernel
theorem dX1_isParted_42 : decode cX1_isParted 42 = .ok (.if_icmp .ne 7, 3) := by decide +kernel
theorem dX1_isParted_45 : decode cX1_isParted 45 = .ok (.iconst 1, 1) := by decide +kernel
theorem dX1_isParted_46 : decode cX1_isParted 46 = .ok (.goto 4, 3) := by decide +kernel
theorem dX1_isParted_49 : decode cX1_isParted 49 = .ok (.iconst 0, 1) := by decide +kernel
theorem dX1_isParted_50 : decode cX1_isParted 50 = .ok (.ireturn, 1) := by decide +kernel
set_option maxRecDepth 20000 in
theorem ggX1_wouldBeSo_X3_get : GoodIn wsX1_wouldBeSo wsX3_get := goodIn_r _ [6, 7, 26] (by decide +kernel) (by decide +kernel)
set_option maxRecDepth 20000 in
theorem gX1_wouldBeSo_X3_get : GoodIn wsX1_wouldBeSo (wsV RX1 65 RX3 yX3_get wsX3_get) := goodIn_app (goodIn_of _ (by decide +kernel)) ggX1_wouldBeSo_X3_get
set_option maxRecDepth 20000 in
theorem ggX1_wouldBeSo_X5_at : GoodIn wsX1_wouldBeSo wsX5_at := goodIn_r _ [12, 13, 27] (by decide +kernel) (by decide +kernel)
set_option maxRecDepth 20000 in
theorem gX1_wouldBeSo_X5_at : GoodIn wsX1_wouldBeSo (wsV RX1 68 RX5 yX5_at wsX5_at) := goodIn_app (goodIn_of _ (by decide +kernel)) ggX1_wouldBeSo_X5_at
theorem dX1_wouldBeSo_0 : decode cX1_wouldBeSo 0 = .ok (.iconst 0, 1) := by decide +kernel
theorem dX1_wouldBeSo_1 : decode cX1_wouldBeSo 1 = .ok (.istore 4, 2) := by decide +kernel
theorem dX1_wouldBeSo_3 : decode cX1_wouldBeSo 3 = .ok (.iload 4, 2) := by decide +kernel
theorem dX1_wouldBeSo_5 : decode cX1_wouldBeSo 5 = .ok (.bipush 6, 2) := by decide +kernel
theorem dX1_wouldBeSo_7 : decode cX1_wouldBeSo 7 = .ok (.if_icmp .ge 157, 3) := by decide +kernel
theorem dX1_wouldBeSo_10 : decode cX1_wouldBeSo 10 = .ok (.iload 4, 2) := by decide +kernel
theorem dX1_wouldBeSo_12 : decode cX1_wouldBeSo 12 = .ok (.aload_n 0, 1) := by decide +kernel
theorem dX1_wouldBeSo_13 : decode cX1_wouldBeSo 13 = .ok (.getfield 23, 3) := by decide +kernel
theorem dX1_wouldBeSo_16 : decode cX1_wouldBeSo 16 = .ok (.getfield 109, 3) := by decide +kernel
theorem dX1_wouldBeSo_19 : decode cX1_wouldBeSo 19 = .ok (.if_icmp .ge 145, 3) := by decide +kernel
theorem dX1_wouldBeSo_22 : decode cX1_wouldBeSo 22 = .ok (.aload_n 0, 1) := by decide +kernel
theorem dX1_wouldBeSo_23 : decode cX1_wouldBeSo 23 = .ok (.getfield 23, 3) := by decide +kernel
theorem dX1_wouldBeSo_26 : decode cX1_wouldBeSo 26 = .ok (.getfield 112, 3) := by decide +kernel
theorem dX1_wouldBeSo_29 : decode cX1_wouldBeSo 29 = .ok (.iload 4, 2) := by decide +kernel
theorem dX1_wouldBeSo_31 : decode cX1_wouldBeSo 31 = .ok (.invokevirtual 65, 3) := by decide +kernel
theorem dX1_wouldBeSo_34 : decode cX1_wouldBeSo 34 = .ok (.istore 5, 2) := by decide +kernel
theorem dX1_wouldBeSo_36 : decode cX1_wouldBeSo 36 = .ok (.aload_n 0, 1) := by decide +kernel
theorem dX1_wouldBeSo_37 : decode cX1_wouldBeSo 37 = .ok (.getfield 23, 3) := by decide +kernel
theorem dX1_wouldBeSo_40 : decode cX1_wouldBeSo 40 = .ok (.getfield 115, 3) := by decide +kernel
theorem dX1_wouldBeSo_43 : decode cX1_wouldBeSo 43 = .ok (.iload 4, 2) := by decide +kernel
theorem dX1_wouldBeSo_45 : decode cX1_wouldBeSo 45 = .ok (.invokevirtual 65, 3) := by decide +kernel
theorem dX1_wouldBeSo_48 : decode cX1_wouldBeSo 48 = .ok (.istore 6, 2) := by decide +kernel
theorem dX1_wouldBeSo_50 : decode cX1_wouldBeSo 50 = .ok (.iload 5, 2) := by decide +kernel
theorem dX1_wouldBeSo_52 : decode cX1_wouldBeSo 52 = .ok (.iload_n 2, 1) := by decide +kernel
theorem dX1_wouldBeSo_53 : decode cX1_wouldBeSo 53 = .ok (.if_icmp .ne 7, 3) := by decide +kernel
theorem dX1_wouldBeSo_56 : decode cX1_wouldBeSo 56 = .ok (.iload_n 3, 1) := by decide +kernel
theorem dX1_wouldBeSo_57 : decode cX1_wouldBeSo 57 = .ok (.goto 16, 3) := by decide +kernel
theorem dX1_wouldBeSo_60 : decode cX1_wouldBeSo 60 = .ok (.aload_n 0, 1) := by decide +kernel
theorem dX1_wouldBeSo_61 : decode cX1_wouldBeSo 61 = .ok (.getfield 23, 3) := by decide +kernel
theorem dX1_wouldBeSo_64 : decode cX1_wouldBeSo 64 = .ok (.getfield 41, 3) := by decide +kernel
theorem dX1_wouldBeSo_67 : decode cX1_wouldBeSo 67 = .ok (.iload_n 1, 1) := by decide +kernel
theorem dX1_wouldBeSo_68 : decode cX1_wouldBeSo 68 = .ok (.iload 5, 2) := by decide +kernel
theorem dX1_wouldBeSo_70 : decode cX1_wouldBeSo 70 = .ok (.invokevirtual 68, 3) := by decide +kernel
theorem dX1_wouldBeSo_73 : decode cX1_wouldBeSo 73 = .ok (.istore 7, 2) := by decide +kernel
theorem dX1_wouldBeSo_75 : decode cX1_wouldBeSo 75 = .ok (.iload 6, 2) := by decide +kernel
theorem dX1_wouldBeSo_77 : decode cX1_wouldBeSo 77 = .ok (.iload_n 2, 1) := by decide +kernel
theorem dX1_wouldBeSo_78 : decode cX1_wouldBeSo 78 = .ok (.if_icmp .ne 7, 3) := by decide +kernel
theorem dX1_wouldBeSo_81 : decode cX1_wouldBeSo 81 = .ok (.iload_n 3, 1) := by decide +kernel
theorem dX1_wouldBeSo_82 : decode cX1_wouldBeSo 82 = .ok (.goto 16, 3) := by decide +kernel
theorem dX1_wouldBeSo_85 : decode cX1_wouldBeSo 85 = .ok (.aload_n 0, 1) := by decide +kernel
theorem dX1_wouldBeSo_86 : decode cX1_wouldBeSo 86 = .ok (.getfield 23, 3) := by decide +kernel
theorem dX1_wouldBeSo_89 : decode cX1_wouldBeSo 89 = .ok (.getfield 41, 3) := by decide +kernel
theorem dX1_wouldBeSo_92 : decode cX1_wouldBeSo 92 = .ok (.iload_n 1, 1) := by decide +kernel
theorem dX1_wouldBeSo_93 : decode cX1_wouldBeSo 93 = .ok (.iload 6, 2) := by decide +kernel
theorem dX1_wouldBeSo_95 : decode cX1_wouldBeSo 95 = .ok (.invokevirtual 68, 3) := by decide +kernel
theorem dX1_wouldBeSo_98 : decode cX1_wouldBeSo 98 = .ok (.istore 8, 2) := by decide +kernel
theorem dX1_wouldBeSo_100 : decode cX1_wouldBeSo 100 = .ok (.aload_n 0, 1) := by decide +kernel
theorem dX1_wouldBeSo_101 : decode cX1_wouldBeSo 101 = .ok (.getfield 23, 3) := by decide +kernel
theorem dX1_wouldBeSo_104 : decode cX1_wouldBeSo 104 = .ok (.getfield 118, 3) := by decide +kernel
theorem dX1_wouldBeSo_107 : decode cX1_wouldBeSo 107 = .ok (.iload 4, 2) := by decide +kernel
theorem dX1_wouldBeSo_109 : decode cX1_wouldBeSo 109 = .ok (.invokevirtual 65, 3) := by decide +kernel
theorem dX1_wouldBeSo_112 : decode cX1_wouldBeSo 112 = .ok (.iconst 1, 1) := by decide +kernel
theorem dX1_wouldBeSo_113 : decode cX1_wouldBeSo 113 = .ok (.if_icmp .ne 7, 3) := by decide +kernel
theorem dX1_wouldBeSo_116 : decode cX1_wouldBeSo 116 = .ok (.iconst 1, 1) := by decide +kernel
theorem dX1_wouldBeSo_117 : decode cX1_wouldBeSo 117 = .ok (.goto 4, 3) := by decide +kernel
theorem dX1_wouldBeSo_120 : decode cX1_wouldBeSo 120 = .ok (.iconst 0, 1) := by decide +kernel
theorem dX1_wouldBeSo_121 : decode cX1_wouldBeSo 121 = .ok (.istore 9, 2) := by decide +kernel
theorem dX1_wouldBeSo_123 : decode cX1_wouldBeSo 123 = .ok (.aload_n 0, 1) := by decide +kernel
theorem dX1_wouldBeSo_124 : decode cX1_wouldBeSo 124 = .ok (.getfield 23, 3) := by decide +kernel
theorem dX1_wouldBeSo_127 : decode cX1_wouldBeSo 127 = .ok (.getfield 121, 3) := by decide +kernel
theorem dX1_wouldBeSo_130 : decode cX1_wouldBeSo 130 = .ok (.iload 4, 2) := by decide +kernel
theorem dX1_wouldBeSo_132 : decode cX1_wouldBeSo 132 = .ok (.invokevirtual 65, 3) := by decide +kernel
theorem dX1_wouldBeSo_135 : decode cX1_wouldBeSo 135 = .ok (.iload_n 1, 1) := by decide +kernel
theorem dX1_wouldBeSo_136 : decode cX1_wouldBeSo 136 = .ok (.if_icmp .ne 22, 3) := by decide +kernel
theorem dX1_wouldBeSo_139 : decode cX1_wouldBeSo 139 = .ok (.iload 9, 2) := by decide +kernel
theorem dX1_wouldBeSo_141 : decode cX1_wouldBeSo 141 = .ok (.iload 7, 2) := by decide +kernel
theorem dX1_wouldBeSo_143 : decode cX1_wouldBeSo 143 = .ok (.iload 8, 2) := by decide +kernel
theorem dX1_wouldBeSo_145 : decode cX1_wouldBeSo 145 = .ok (.if_icmp .le 7, 3) := by decide +kernel
theorem dX1_wouldBeSo_148 : decode cX1_wouldBeSo 148 = .ok (.iconst 1, 1) := by decide +kernel
theorem dX1_wouldBeSo_149 : decode cX1_wouldBeSo 149 = .ok (.goto 4, 3) := by decide +kernel
theorem dX1_wouldBeSo_152 : decode cX1_wouldBeSo 152 = .ok (.iconst 0, 1) := by decide +kernel
theorem dX1_wouldBeSo_153 : decode cX1_wouldBeSo 153 = .ok (.if_icmp .eq 5, 3) := by decide +kernel
theorem dX1_wouldBeSo_156 : decode cX1_wouldBeSo 156 = .ok (.iconst 0, 1) := by decide +kernel
theorem dX1_wouldBeSo_157 : decode cX1_wouldBeSo 157 = .ok (.ireturn, 1) := by decide +kernel
theorem dX1_wouldBeSo_158 : decode cX1_wouldBeSo 158 = .ok (.iinc 4 1, 3) := by decide +kernel
theorem dX1_wouldBeSo_161 : decode cX1_wouldBeSo 161 = .ok (.goto (-158), 3) := by decide +kernel
theorem dX1_wouldBeSo_164 : decode cX1_wouldBeSo 164 = .ok (.iconst 1, 1) := by decide +kernel
theorem dX1_wouldBeSo_165 : decode cX1_wouldBeSo 165 = .ok (.ireturn, 1) := by decide +kernel
set_option maxRecDepth 20000 in
theorem ggX2_init_X3_init : GoodIn wsX2_init wsX3_init := goodIn_r _ [10, 11, 2, 3, 12, 13, 14, 15, 16, 17, 18] (by decide +kernel) (by decide +kernel)
set_option maxRecDepth 20000 in
theorem gX2_init_X3_init : GoodIn wsX2_init (wsX3_init) := ggX2_init_X3_init
theorem dX2_init_0 : decode cX2_init 0 = .ok (.aload_n 0, 1) := by decide +kernel
theorem dX2_init_1 : decode cX2_init 1 = .ok (.invokespecial 3, 3) := by decide +kernel
theorem dX2_init_4 : decode cX2_init 4 = .ok (.aload_n 0, 1) := by decide +kernel
theorem dX2_init_5 : decode cX2_init 5 = .ok (.new 9, 3) := by decide +kernel
theorem dX2_init_8 : decode cX2_init 8 = .ok (.dup, 1) := by decide +kernel
theorem dX2_init_9 : decode cX2_init 9 = .ok (.bipush 25, 2) := by decide +kernel
theorem dX2_init_11 : decode cX2_init 11 = .ok (.invokespecial 11, 3) := by decide +kernel
theorem dX2_init_14 : decode cX2_init 14 = .ok (.putfield 14, 3) := by decide +kernel
theorem dX2_init_17 : decode cX2_init 17 = .ok (.return_, 1) := by decide +kernel
set_option maxRecDepth 20000 in
theorem ggX2_write_X3_set : GoodIn wsX2_write wsX3_set := goodIn_r _ [7, 8, 11] (by decide +kernel) (by decide +kernel)
set_option maxRecDepth 20000 in
theorem gX2_write_X3_set : GoodIn wsX2_write (wsV RX2 24 RX3 yX3_set wsX3_set) := goodIn_app (goodIn_of _ (by decide +kernel)) ggX2_write_X3_set
theorem dX2_write_0 : decode cX2_write 0 = .ok (.aload_n 0, 1) := by decide +kernel
theorem dX2_write_1 : decode cX2_write 1 = .ok (.getfield 14, 3) := by decide +kernel
theorem dX2_write_4 : decode cX2_write 4 = .ok (.aload_n 0, 1) := by decide +kernel
theorem dX2_write_5 : decode cX2_write 5 = .ok (.getfield 20, 3) := by decide +kernel
theorem dX2_write_8 : decode cX2_write 8 = .ok (.iload_n 1, 1) := by decide +kernel
theorem dX2_write_9 : decode cX2_write 9 = .ok (.invokevirtual 24, 3) := by decide +kernel
theorem dX2_write_12 : decode cX2_write 12 = .ok (.aload_n 0, 1) := by decide +kernel
theorem dX2_write_13 : decode cX2_write 13 = .ok (.dup, 1) := by decide +kernel
theorem dX2_write_14 : decode cX2_write 14 = .ok (.getfield 20, 3) := by decide +kernel
theorem dX2_write_17 : decode cX2_write 17 = .ok (.iconst 1, 1) := by decide +kernel
theorem dX2_write_18 : decode cX2_write 18 = .ok (.iadd, 1) := by decide +kernel
theorem dX2_write_19 : decode cX2_write 19 = .ok (.putfield 20, 3) := by decide +kernel
theorem dX2_write_22 : decode cX2_write 22 = .ok (.return_, 1) := by decide +kernel
set_option maxRecDepth 20000 in
theorem ggX2_firstFault_X3_get : GoodIn wsX2_firstFault wsX3_get := goodIn_r _ [7, 8, 107] (by decide +kernel) (by decide +kernel)
set_option maxRecDepth 20000 in
theorem gX2_firstFault_X3_get : GoodIn wsX2_firstFault (wsV RX2 28 RX3 yX3_get wsX3_get) := goodIn_app (goodIn_of _ (by decide +kernel)) ggX2_firstFault_X3_get
set_option maxRecDepth 20000 in
theorem ggX2_firstFault_X2_fits : GoodIn wsX2_firstFault wsX2_fits := goodIn_r _ [12, 13, 14, 11, 15, 16, 17, 18, 19, 20, 21, 22, 23, 24, 25, 26, 27, 28, 29, 30, 31, 32, 33, 34, 35, 36, 37, 38, 39, 40, 41, 42, 43, 44, 45, 46, 47, 48, 49, 50, 51, 52, 53, 54, 55, 56, 57, 58, 59, 60, 61, 62, 63, 64, 65, 66, 67, 68, 69, 70, 71, 72, 73, 74, 75, 76, 77, 78, 79, 80, 81, 82, 83, 84, 85, 86, 87, 88, 89, 90, 91, 92, 93, 94, 95, 96, 97, 98, 99, 100, 101, 102, 103, 104] (by decide +kernel) (by decide +kernel)
set_option maxRecDepth 20000 in
theorem gX2_firstFault_X2_fits : GoodIn wsX2_firstFault (va_wsS RX2 32 yX2_fits wsX2_fits) := goodIn_app (goodIn_of _ (by decide +kernel)) ggX2_firstFault_X2_fits
theorem dX2_firstFault_0 : decode cX2_firstFault 0 = .ok (.iconst 0, 1) := by decide +kernel
theorem dX2_firstFault_1 : decode cX2_firstFault 1 = .ok (.istore_n 1, 1) := by decide +kernel
theorem dX2_firstFault_2 : decode cX2_firstFault 2 = .ok (.iload_n 1, 1) := by decide +kernel
theorem dX2_firstFault_3 : decode cX2_firstFault 3 = .ok (.bipush 25, 2) := by decide +kernel
theorem dX2_firstFault_5 : decode cX2_firstFault 5 = .ok (.if_icmp .ge 34, 3) := by decide +kernel
theorem dX2_firstFault_8 : decode cX2_firstFault 8 = .ok (.iload_n 1, 1) := by decide +kernel
theorem dX2_firstFault_9 : decode cX2_firstFault 9 = .ok (.aload_n 0, 1) := by decide +kernel
theorem dX2_firstFault_10 : decode cX2_firstFault 10 = .ok (.getfield 20, 3) := by decide +kernel
theorem dX2_firstFault_13 : decode cX2_firstFault 13 = .ok (.if_icmp .ge 26, 3) := by decide +kernel
theorem dX2_firstFault_16 : decode cX2_firstFault 16 = .ok (.iload_n 1, 1) := by decide +kernel
theorem dX2_firstFault_17 : decode cX2_firstFault 17 = .ok (.aload_n 0, 1) := by decide +kernel
theorem dX2_firstFault_18 : decode cX2_firstFault 18 = .ok (.getfield 14, 3) := by decide +kernel
theorem dX2_firstFault_21 : decode cX2_firstFault 21 = .ok (.iload_n 1, 1) := by decide +kernel
theorem dX2_firstFault_22 : decode cX2_firstFault 22 = .ok (.invokevirtual 28, 3) := by decide +kernel
theorem dX2_firstFault_25 : decode cX2_firstFault 25 = .ok (.invokestatic 32, 3) := by decide +kernel
theorem dX2_firstFault_28 : decode cX2_firstFault 28 = .ok (.ifCond .ne 5, 3) := by decide +kernel
theorem dX2_firstFault_31 : decode cX2_firstFault 31 = .ok (.iload_n 1, 1) := by decide +kernel
theorem dX2_firstFault_32 : decode cX2_firstFault 32 = .ok (.ireturn, 1) := by decide +kernel
theorem dX2_firstFault_33 : decode cX2_firstFault 33 = .ok (.iinc 1 1, 3) := by decide +kernel
theorem dX2_firstFault_36 : decode cX2_firstFault 36 = .ok (.goto (-34), 3) := by decide +kernel
theorem dX2_firstFault_39 : decode cX2_firstFault 39 = .ok (.aload_n 0, 1) := by decide +kernel
theorem dX2_firstFault_40 : decode cX2_firstFault 40 = .ok (.getfield 20, 3) := by decide +kernel
theorem dX2_firstFault_43 : decode cX2_firstFault 43 = .ok (.ireturn, 1) := by decide +kernel
set_option maxRecDepth 20000 in
theorem ggX2_heirsNamed_X2_firstFault : GoodIn wsX2_heirsNamed wsX2_firstFault := goodIn_r _ [6, 1, 7, 8, 9, 10, 11, 12, 13, 14, 15, 5, 16, 17, 18, 19, 20, 21, 22, 23, 24, 25, 26, 27, 28, 29, 30, 31, 32, 33, 34, 35, 36, 37, 38, 39, 40, 41, 42, 43, 44, 45, 46, 47, 48, 49, 50, 51, 52, 53, 54, 55, 56, 57, 58, 59, 60, 61, 62, 63, 64, 65, 66, 67, 68, 69, 70, 71, 72, 73, 74, 75, 76, 77, 78, 79, 80, 81, 82, 83, 84, 85, 86, 87, 88, 89, 90, 91, 92, 93, 94, 95, 96, 97, 98, 99, 100, 101, 102, 103, 104, 105, 106, 107, 108, 109, 110, 111] (by decide +kernel) (by decide +kernel)
set_option maxRecDepth 20000 in
theorem gX2_heirsNamed_X2_firstFault : GoodIn wsX2_heirsNamed (wsV RX2 36 RX2 yX2_firstFault wsX2_firstFault) := goodIn_app (goodIn_of _ (by decide +kernel)) ggX2_heirsNamed_X2_firstFault
theorem dX2_heirsNamed_0 : decode cX2_heirsNamed 0 = .ok (.aload_n 0, 1) := by decide +kernel
theorem dX2_heirsNamed_1 : decode cX2_heirsNamed 1 = .ok (.getfield 20, 3) := by decide +kernel
theorem dX2_heirsNamed_4 : decode cX2_heirsNamed 4 = .ok (.iconst 1, 1) := by decide +kernel
theorem dX2_heirsNamed_5 : decode cX2_heirsNamed 5 = .ok (.iadd, 1) := by decide +kernel
theorem dX2_heirsNamed_6 : decode cX2_heirsNamed 6 = .ok (.bipush 6, 2) := by decide +kernel
theorem dX2_heirsNamed_8 : decode cX2_heirsNamed 8 = .ok (.idiv, 1) := by decide +kernel
theorem dX2_heirsNamed_9 : decode cX2_heirsNamed 9 = .ok (.istore_n 1, 1) := by decide +kernel
theorem dX2_heirsNamed_10 : decode cX2_heirsNamed 10 = .ok (.aload_n 0, 1) := by decide +kernel
theorem dX2_heirsNamed_11 : decode cX2_heirsNamed 11 = .ok (.getfield 20, 3) := by decide +kernel
theorem dX2_heirsNamed_14 : decode cX2_heirsNamed 14 = .ok (.iconst 1, 1) := by decide +kernel
theorem dX2_heirsNamed_15 : decode cX2_heirsNamed 15 = .ok (.iadd, 1) := by decide +kernel
theorem dX2_heirsNamed_16 : decode cX2_heirsNamed 16 = .ok (.bipush 6, 2) := by decide +kernel
theorem dX2_heirsNamed_18 : decode cX2_heirsNamed 18 = .ok (.irem, 1) := by decide +kernel
theorem dX2_heirsNamed_19 : decode cX2_heirsNamed 19 = .ok (.ifCond .ne 12, 3) := by decide +kernel
theorem dX2_heirsNamed_22 : decode cX2_heirsNamed 22 = .ok (.iload_n 1, 1) := by decide +kernel
theorem dX2_heirsNamed_23 : decode cX2_heirsNamed 23 = .ok (.iconst 2, 1) := by decide +kernel
theorem dX2_heirsNamed_24 : decode cX2_heirsNamed 24 = .ok (.if_icmp .lt 7, 3) := by decide +kernel
theorem dX2_heirsNamed_27 : decode cX2_heirsNamed 27 = .ok (.iconst 1, 1) := by decide +kernel
theorem dX2_heirsNamed_28 : decode cX2_heirsNamed 28 = .ok (.goto 4, 3) := by decide +kernel
theorem dX2_heirsNamed_31 : decode cX2_heirsNamed 31 = .ok (.iconst 0, 1) := by decide +kernel
theorem dX2_heirsNamed_32 : decode cX2_heirsNamed 32 = .ok (.istore_n 2, 1) := by decide +kernel
theorem dX2_heirsNamed_33 : decode cX2_heirsNamed 33 = .ok (.iload_n 2, 1) := by decide +kernel
theorem dX2_heirsNamed_34 : decode cX2_heirsNamed 34 = .ok (.ifCond .eq 18, 3) := by decide +kernel
theorem dX2_heirsNamed_37 : decode cX2_heirsNamed 37 = .ok (.aload_n 0, 1) := by decide +kernel
theorem dX2_heirsNamed_38 : decode cX2_heirsNamed 38 = .ok (.invokevirtual 36, 3) := by decide +kernel
theorem dX2_heirsNamed_41 : decode cX2_heirsNamed 41 = .ok (.aload_n 0, 1) := by decide +kernel
theorem dX2_heirsNamed_42 : decode cX2_heirsNamed 42 = .ok (.getfield 20, 3) := by decide +kernel
theorem dX2_heirsNamed_45 : decode cX2_heirsNamed 45 = .ok (.if_icmp .ne 7, 3) := by decide +kernel
theorem dX2_heirsNamed_48 : decode cX2_heirsNamed 48 = .ok (.iload_n 1, 1) := by decide +kernel
theorem dX2_heirsNamed_49 : decode cX2_heirsNamed 49 = .ok (.goto 4, 3) := by decide +kernel
theorem dX2_heirsNamed_52 : decode cX2_heirsNamed 52 = .ok (.iconst 0, 1) := by decide +kernel
theorem dX2_heirsNamed_53 : decode cX2_heirsNamed 53 = .ok (.ireturn, 1) := by decide +kernel
set_option maxRecDepth 20000 in
theorem ggX2_kindOf_X3_get : GoodIn wsX2_kindOf wsX3_get := goodIn_r _ [6, 7, 103] (by decide +kernel) (by decide +kernel)
set_option maxRecDepth 20000 in
theorem gX2_kindOf_X3_get : GoodIn wsX2_kindOf (wsV RX2 28 RX3 yX3_get wsX3_get) := goodIn_app (goodIn_of _ (by decide +kernel)) ggX2_kindOf_X3_get
set_option maxRecDepth 20000 in
theorem ggX2_kindOf_X2_kindCalled : GoodIn wsX2_kindOf wsX2_kindCalled := goodIn_r _ [11, 12, 13, 14, 15, 16, 17, 18, 19, 20, 21, 22, 23, 24, 25, 26, 27, 28, 29, 30, 31, 32, 33, 34, 35, 36, 37, 38, 39, 40, 41, 42, 43, 44, 45, 46, 47, 48, 49, 50, 51, 52, 53, 54, 55, 56, 57, 58, 59, 60, 61, 62, 63, 64, 65, 66, 67, 68, 69, 70, 71, 72, 73, 74, 75, 76, 77, 78, 79, 80, 81, 82, 83, 84, 85, 86, 87, 88, 89, 90, 91, 92, 93, 94, 95, 96, 97, 98, 99, 100] (by decide +kernel) (by decide +kernel)
set_option maxRecDepth 20000 in
theorem gX2_kindOf_X2_kindCalled : GoodIn wsX2_kindOf (va_wsS RX2 40 yX2_kindCalled wsX2_kindCalled) := goodIn_app (goodIn_of _ (by decide +kernel)) ggX2_kindOf_X2_kindCalled
theorem dX2_kindOf_0 : decode cX2_kindOf 0 = .ok (.aload_n 0, 1) := by decide +kernel
theorem dX2_kindOf_1 : decode cX2_kindOf 1 = .ok (.getfield 14, 3) := by decide +kernel
theorem dX2_kindOf_4 : decode cX2_kindOf 4 = .ok (.iload_n 1, 1) := by decide +kernel
theorem dX2_kindOf_5 : decode cX2_kindOf 5 = .ok (.bipush 6, 2) := by decide +kernel
theorem dX2_kindOf_7 : decode cX2_kindOf 7 = .ok (.imul, 1) := by decide +kernel
theorem dX2_kindOf_8 : decode cX2_kindOf 8 = .ok (.invokevirtual 28, 3) := by decide +kernel
theorem dX2_kindOf_11 : decode cX2_kindOf 11 = .ok (.invokestatic 40, 3) := by decide +kernel
theorem dX2_kindOf_14 : decode cX2_kindOf 14 = .ok (.ireturn, 1) := by decide +kernel
set_option maxRecDepth 20000 in
theorem ggX2_digitOf_X3_get : GoodIn wsX2_digitOf wsX3_get := goodIn_r _ [6, 7, 10] (by decide +kernel) (by decide +kernel)
set_option maxRecDepth 20000 in
theorem gX2_digitOf_X3_get : GoodIn wsX2_digitOf (wsV RX2 28 RX3 yX3_get wsX3_get) := goodIn_app (goodIn_of _ (by decide +kernel)) ggX2_digitOf_X3_get
theorem dX2_digitOf_0 : decode cX2_digitOf 0 = .ok (.aload_n 0, 1) := by decide +kernel
theorem dX2_digitOf_1 : decode cX2_digitOf 1 = .ok (.getfield 14, 3) := by decide +kernel
theorem dX2_digitOf_4 : decode cX2_digitOf 4 = .ok (.iload_n 1, 1) := by decide +kernel
theorem dX2_digitOf_5 : decode cX2_digitOf 5 = .ok (.bipush 6, 2) := by decide +kernel
theorem dX2_digitOf_7 : decode cX2_digitOf 7 = .ok (.imul, 1) := by decide +kernel
theorem dX2_digitOf_8 : decode cX2_digitOf 8 = .ok (.iconst 1, 1) := by decide +kernel
theorem dX2_digitOf_9 : decode cX2_digitOf 9 = .ok (.iadd, 1) := by decide +kernel
theorem dX2_digitOf_10 : decode cX2_digitOf 10 = .ok (.iload_n 2, 1) := by decide +kernel
theorem dX2_digitOf_11 : decode cX2_digitOf 11 = .ok (.iadd, 1) := by decide +kernel
theorem dX2_digitOf_12 : decode cX2_digitOf 12 = .ok (.invokevirtual 28, 3) := by decide +kernel
theorem dX2_digitOf_15 : decode cX2_digitOf 15 = .ok (.bipush 48, 2) := by decide +kernel
theorem dX2_digitOf_17 : decode cX2_digitOf 17 = .ok (.isub, 1) := by decide +kernel
theorem dX2_digitOf_18 : decode cX2_digitOf 18 = .ok (.ireturn, 1) := by decide +kernel
set_option maxRecDepth 20000 in
theorem ggX2_fits_X2_kindCalled : GoodIn wsX2_fits wsX2_kindCalled := goodIn_r _ [4, 5, 6, 7, 8, 9, 10, 11, 12, 13, 14, 15, 16, 17, 18, 19, 20, 21, 22, 23, 24, 25, 26, 27, 28, 29, 30, 31, 32, 33, 34, 35, 36, 37, 38, 39, 40, 41, 42, 43, 44, 45, 46, 47, 48, 49, 50, 51, 52, 53, 54, 55, 56, 57, 58, 59, 60, 61, 62, 63, 64, 65, 66, 67, 68, 69, 70, 71, 72, 73, 74, 75, 76, 77, 78, 79, 80, 81, 82, 83, 84, 85, 86, 87, 88, 89, 90, 91, 92, 93] (by decide +kernel) (by decide +kernel)
set_option maxRecDepth 20000 in
theorem gX2_fits_X2_kindCalled : GoodIn wsX2_fits (va_wsS RX2 40 yX2_kindCalled wsX2_kindCalled) := goodIn_app (goodIn_of _ (by decide +kernel)) ggX2_fits_X2_kindCalled
theorem dX2_fits_0 : decode cX2_fits 0 = .ok (.iload_n 0, 1) := by decide +kernel
theorem dX2_fits_1 : decode cX2_fits 1 = .ok (.bipush 23, 2) := by decide +kernel
theorem dX2_fits_3 : decode cX2_fits 3 = .ok (.if_icmp .lt 5, 3) := by decide +kernel
theorem dX2_fits_6 : decode cX2_fits 6 = .ok (.iconst 0, 1) := by decide +kernel
theorem dX2_fits_7 : decode cX2_fits 7 = .ok (.ireturn, 1) := by decide +kernel
theorem dX2_fits_8 : decode cX2_fits 8 = .ok (.iload_n 0, 1) := by decide +kernel
theorem dX2_fits_9 : decode cX2_fits 9 = .ok (.bipush 6, 2) := by decide +kernel
theorem dX2_fits_11 : decode cX2_fits 11 = .ok (.irem, 1) := by decide +kernel
theorem dX2_fits_12 : decode cX2_fits 12 = .ok (.istore_n 2, 1) := by decide +kernel
theorem dX2_fits_13 : decode cX2_fits 13 = .ok (.iload_n 2, 1) := by decide +kernel
theorem dX2_fits_14 : decode cX2_fits 14 = .ok (.ifCond .ne 17, 3) := by decide +kernel
theorem dX2_fits_17 : decode cX2_fits 17 = .ok (.iload_n 1, 1) := by decide +kernel
theorem dX2_fits_18 : decode cX2_fits 18 = .ok (.invokestatic 40, 3) := by decide +kernel
theorem dX2_fits_21 : decode cX2_fits 21 = .ok (.iconst (-1), 1) := by decide +kernel
theorem dX2_fits_22 : decode cX2_fits 22 = .ok (.if_icmp .eq 7, 3) := by decide +kernel
theorem dX2_fits_25 : decode cX2_fits 25 = .ok (.iconst 1, 1) := by decide +kernel
theorem dX2_fits_26 : decode cX2_fits 26 = .ok (.goto 4, 3) := by decide +kernel
theorem dX2_fits_29 : decode cX2_fits 29 = .ok (.iconst 0, 1) := by decide +kernel
theorem dX2_fits_30 : decode cX2_fits 30 = .ok (.ireturn, 1) := by decide +kernel
theorem dX2_fits_31 : decode cX2_fits 31 = .ok (.iload_n 2, 1) := by decide +kernel
theorem dX2_fits_32 : decode cX2_fits 32 = .ok (.iconst 4, 1) := by decide +kernel
theorem dX2_fits_33 : decode cX2_fits 33 = .ok (.if_icmp .gt 23, 3) := by decide +kernel
theorem dX2_fits_36 : decode cX2_fits 36 = .ok (.iload_n 1, 1) := by decide +kernel
theorem dX2_fits_37 : decode cX2_fits 37 = .ok (.bipush 48, 2) := by decide +kernel
theorem dX2_fits_39 : decode cX2_fits 39 = .ok (.if_icmp .lt 13, 3) := by decide +kernel
theorem dX2_fits_42 : decode cX2_fits 42 = .ok (.iload_n 1, 1) := by decide +kernel
theorem dX2_fits_43 : decode cX2_fits 43 = .ok (.bipush 57, 2) := by decide +kernel
theorem dX2_fits_45 : decode cX2_fits 45 = .ok (.if_icmp .gt 7, 3) := by decide +kernel
theorem dX2_fits_48 : decode cX2_fits 48 = .ok (.iconst 1, 1) := by decide +kernel
theorem dX2_fits_49 : decode cX2_fits 49 = .ok (.goto 18, 3) := by decide +kernel
theorem dX2_fits_52 : decode cX2_fits 52 = .ok (.iconst 0, 1) := by decide +kernel
theorem dX2_fits_53 : decode cX2_fits 53 = .ok (.goto 14, 3) := by decide +kernel
theorem dX2_fits_56 : decode cX2_fits 56 = .ok (.iload_n 1, 1) := by decide +kernel
theorem dX2_fits_57 : decode cX2_fits 57 = .ok (.bipush 44, 2) := by decide +kernel
theorem dX2_fits_59 : decode cX2_fits 59 = .ok (.if_icmp .ne 7, 3) := by decide +kernel
theorem dX2_fits_62 : decode cX2_fits 62 = .ok (.iconst 1, 1) := by decide +kernel
theorem dX2_fits_63 : decode cX2_fits 63 = .ok (.goto 4, 3) := by decide +kernel
theorem dX2_fits_66 : decode cX2_fits 66 = .ok (.iconst 0, 1) := by decide +kernel
theorem dX2_fits_67 : decode cX2_fits 67 = .ok (.ireturn, 1) := by decide +kernel
set_option maxRecDepth 20000 in
theorem ggX2_kindCalled_J0_indexOf_0f7a4 : GoodIn wsX2_kindCalled wsJ0_indexOf_0f7a4 := goodIn_r _ [5, 6, 7, 8, 4, 9, 10, 11, 12, 13, 14, 15, 16, 17, 18, 19, 20, 21, 22, 23, 24, 25, 26, 27, 28, 29, 30, 31, 32, 33, 34, 35, 36, 37, 38, 39, 40, 41, 42, 43, 44, 45, 46, 47, 48, 49, 50, 51, 52, 53, 54, 55, 56, 57, 58, 59, 60, 61, 62, 63, 64, 65, 66, 67, 68, 69, 70, 71, 72, 73, 74, 75, 76, 77, 78, 79, 80, 81, 82, 83, 84, 85, 86, 87, 88, 89] (by decide +kernel) (by decide +kernel)
set_option maxRecDepth 20000 in
theorem gX2_kindCalled_J0_indexOf_0f7a4 : GoodIn wsX2_kindCalled (wsV RX2 45 RJ0 yJ0_indexOf_0f7a4 wsJ0_indexOf_0f7a4) := goodIn_app (goodIn_of _ (by decide +kernel)) ggX2_kindCalled_J0_indexOf_0f7a4
theorem dX2_kindCalled_0 : decode cX2_kindCalled 0 = .ok (.ldc 43, 2) := by decide +kernel
theorem dX2_kindCalled_2 : decode cX2_kindCalled 2 = .ok (.iload_n 0, 1) := by decide +kernel
theorem dX2_kindCalled_3 : decode cX2_kindCalled 3 = .ok (.i2c, 1) := by decide +kernel
theorem dX2_kindCalled_4 : decode cX2_kindCalled 4 = .ok (.invokevirtual 45, 3) := by decide +kernel
theorem dX2_kindCalled_7 : decode cX2_kindCalled 7 = .ok (.ireturn, 1) := by decide +kernel
theorem dX3_init_0 : decode cX3_init 0 = .ok (.aload_n 0, 1) := by decide +kernel
theorem dX3_init_1 : decode cX3_init 1 = .ok (.invokespecial 1, 3) := by decide +kernel
theorem dX3_init_4 : decode cX3_init 4 = .ok (.aload_n 0, 1) := by decide +kernel
theorem dX3_init_5 : decode cX3_init 5 = .ok (.iconst 0, 1) := by decide +kernel
theorem dX3_init_6 : decode cX3_init 6 = .ok (.iload_n 1, 1) := by decide +kernel
theorem dX3_init_7 : decode cX3_init 7 = .ok (.invokestatic 7, 3) := by decide +kernel
theorem dX3_init_10 : decode cX3_init 10 = .ok (.newarray .int, 2) := by decide +kernel
theorem dX3_init_12 : decode cX3_init 12 = .ok (.putfield 13, 3) := by decide +kernel
theorem dX3_init_15 : decode cX3_init 15 = .ok (.return_, 1) := by decide +kernel
theorem dX3_get_0 : decode cX3_get 0 = .ok (.iload_n 1, 1) := by decide +kernel
theorem dX3_get_1 : decode cX3_get 1 = .ok (.ifCond .lt 21, 3) := by decide +kernel
theorem dX3_get_4 : decode cX3_get 4 = .ok (.iload_n 1, 1) := by decide +kernel
theorem dX3_get_5 : decode cX3_get 5 = .ok (.aload_n 0, 1) := by decide +kernel
theorem dX3_get_6 : decode cX3_get 6 = .ok (.getfield 13, 3) := by decide +kernel
theorem dX3_get_9 : decode cX3_get 9 = .ok (.arraylength, 1) := by decide +kernel
theorem dX3_get_10 : decode cX3_get 10 = .ok (.if_icmp .ge 12, 3) := by decide +kernel
theorem dX3_get_13 : decode cX3_get 13 = .ok (.aload_n 0, 1) := by decide +kernel
theorem dX3_get_14 : decode cX3_get 14 = .ok (.getfield 13, 3) := by decide +kernel
theorem dX3_get_17 : decode cX3_get 17 = .ok (.iload_n 1, 1) := by decide +kernel
theorem dX3_get_18 : decode cX3_get 18 = .ok (.iaload, 1) := by decide +kernel
theorem dX3_get_19 : decode cX3_get 19 = .ok (.goto 4, 3) := by decide +kernel
theorem dX3_get_22 : decode cX3_get 22 = .ok (.iconst 0, 1) := by decide +kernel
theorem dX3_get_23 : decode cX3_get 23 = .ok (.ireturn, 1) := by decide +kernel
theorem dX3_set_0 : decode cX3_set 0 = .ok (.iload_n 1, 1) := by decide +kernel
theorem dX3_set_1 : decode cX3_set 1 = .ok (.ifCond .lt 19, 3) := by decide +kernel
theorem dX3_set_4 : decode cX3_set 4 = .ok (.iload_n 1, 1) := by decide +kernel
theorem dX3_set_5 : decode cX3_set 5 = .ok (.aload_n 0, 1) := by decide +kernel
theorem dX3_set_6 : decode cX3_set 6 = .ok (.getfield 13, 3) := by decide +kernel
theorem dX3_set_9 : decode cX3_set 9 = .ok (.arraylength, 1) := by decide +kernel
theorem dX3_set_10 : decode cX3_set 10 = .ok (.if_icmp .ge 10, 3) := by decide +kernel
theorem dX3_set_13 : decode cX3_set 13 = .ok (.aload_n 0, 1) := by decide +kernel
theorem dX3_set_14 : decode cX3_set 14 = .ok (.getfield 13, 3) := by decide +kernel
theorem dX3_set_17 : decode cX3_set 17 = .ok (.iload_n 1, 1) := by decide +kernel
theorem dX3_set_18 : decode cX3_set 18 = .ok (.iload_n 2, 1) := by decide +kernel
theorem dX3_set_19 : decode cX3_set 19 = .ok (.iastore, 1) := by decide +kernel
theorem dX3_set_20 : decode cX3_set 20 = .ok (.return_, 1) := by decide +kernel
theorem dX3_takeFrom_0 : decode cX3_takeFrom 0 = .ok (.iconst 0, 1) := by decide +kernel
theorem dX3_takeFrom_1 : decode cX3_takeFrom 1 = .ok (.istore_n 2, 1) := by decide +kernel
theorem dX3_takeFrom_2 : decode cX3_takeFrom 2 = .ok (.aload_n 1, 1) := by decide +kernel
theorem dX3_takeFrom_3 : decode cX3_takeFrom 3 = .ok (.ifnull 39, 3) := by decide +kernel
theorem dX3_takeFrom_6 : decode cX3_takeFrom 6 = .ok (.iload_n 2, 1) := by decide +kernel
theorem dX3_takeFrom_7 : decode cX3_takeFrom 7 = .ok (.aload_n 0, 1) := by decide +kernel
theorem dX3_takeFrom_8 : decode cX3_takeFrom 8 = .ok (.getfield 13, 3) := by decide +kernel
theorem dX3_takeFrom_11 : decode cX3_takeFrom 11 = .ok (.arraylength, 1) := by decide +kernel
theorem dX3_takeFrom_12 : decode cX3_takeFrom 12 = .ok (.if_icmp .ge 30, 3) := by decide +kernel
theorem dX3_takeFrom_15 : decode cX3_takeFrom 15 = .ok (.iload_n 2, 1) := by decide +kernel
theorem dX3_takeFrom_16 : decode cX3_takeFrom 16 = .ok (.aload_n 1, 1) := by decide +kernel
theorem dX3_takeFrom_17 : decode cX3_takeFrom 17 = .ok (.getfield 13, 3) := by decide +kernel
theorem dX3_takeFrom_20 : decode cX3_takeFrom 20 = .ok (.arraylength, 1) := by decide +kernel
theorem dX3_takeFrom_21 : decode cX3_takeFrom 21 = .ok (.if_icmp .ge 21, 3) := by decide +kernel
theorem dX3_takeFrom_24 : decode cX3_takeFrom 24 = .ok (.aload_n 0, 1) := by decide +kernel
theorem dX3_takeFrom_25 : decode cX3_takeFrom 25 = .ok (.getfield 13, 3) := by decide +kernel
theorem dX3_takeFrom_28 : decode cX3_takeFrom 28 = .ok (.iload_n 2, 1) := by decide +kernel
theorem dX3_takeFrom_29 : decode cX3_takeFrom 29 = .ok (.aload_n 1, 1) := by decide +kernel
theorem dX3_takeFrom_30 : decode cX3_takeFrom 30 = .ok (.getfield 13, 3) := by decide +kernel
theorem dX3_takeFrom_33 : decode cX3_takeFrom 33 = .ok (.iload_n 2, 1) := by decide +kernel
theorem dX3_takeFrom_34 : decode cX3_takeFrom 34 = .ok (.iaload, 1) := by decide +kernel
theorem dX3_takeFrom_35 : decode cX3_takeFrom 35 = .ok (.iastore, 1) := by decide +kernel
theorem dX3_takeFrom_36 : decode cX3_takeFrom 36 = .ok (.iinc 2 1, 3) := by decide +kernel
theorem dX3_takeFrom_39 : decode cX3_takeFrom 39 = .ok (.goto (-37), 3) := by decide +kernel
theorem dX3_takeFrom_42 : decode cX3_takeFrom 42 = .ok (.return_, 1) := by decide +kernel
set_option maxRecDepth 20000 in
theorem ggX4_init_X5_init : GoodIn wsX4_init wsX5_init := goodIn_r _ [17, 18, 2, 3, 19, 20, 30] (by decide +kernel) (by decide +kernel)
set_option maxRecDepth 20000 in
theorem gX4_init_X5_init_n11 : GoodIn wsX4_init (wsX5_init) := ggX4_init_X5_init
set_option maxRecDepth 20000 in
theorem ggX4_init_X3_init : GoodIn wsX4_init wsX3_init := goodIn_r _ [23, 24, 2, 3, 25, 26, 27, 28, 19, 29, 40] (by decide +kernel) (by decide +kernel)
set_option maxRecDepth 20000 in
theorem gX4_init_X3_init : GoodIn wsX4_init (wsX3_init) := ggX4_init_X3_init
theorem dX4_init_0 : decode cX4_init 0 = .ok (.aload_n 0, 1) := by decide +kernel
theorem dX4_init_1 : decode cX4_init 1 = .ok (.invokespecial 3, 3) := by decide +kernel
theorem dX4_init_4 : decode cX4_init 4 = .ok (.aload_n 0, 1) := by decide +kernel
theorem dX4_init_5 : decode cX4_init 5 = .ok (.new 9, 3) := by decide +kernel
theorem dX4_init_8 : decode cX4_init 8 = .ok (.dup, 1) := by decide +kernel
theorem dX4_init_9 : decode cX4_init 9 = .ok (.invokespecial 11, 3) := by decide +kernel
theorem dX4_init_12 : decode cX4_init 12 = .ok (.putfield 12, 3) := by decide +kernel
theorem dX4_init_15 : decode cX4_init 15 = .ok (.aload_n 0, 1) := by decide +kernel
theorem dX4_init_16 : decode cX4_init 16 = .ok (.new 18, 3) := by decide +kernel
theorem dX4_init_19 : decode cX4_init 19 = .ok (.dup, 1) := by decide +kernel
theorem dX4_init_20 : decode cX4_init 20 = .ok (.iconst 4, 1) := by decide +kernel
theorem dX4_init_21 : decode cX4_init 21 = .ok (.invokespecial 20, 3) := by decide +kernel
theorem dX4_init_24 : decode cX4_init 24 = .ok (.putfield 23, 3) := by decide +kernel
theorem dX4_init_27 : decode cX4_init 27 = .ok (.aload_n 0, 1) := by decide +kernel
theorem dX4_init_28 : decode cX4_init 28 = .ok (.new 18, 3) := by decide +kernel
theorem dX4_init_31 : decode cX4_init 31 = .ok (.dup, 1) := by decide +kernel
theorem dX4_init_32 : decode cX4_init 32 = .ok (.bipush 6, 2) := by decide +kernel
theorem dX4_init_34 : decode cX4_init 34 = .ok (.invokespecial 20, 3) := by decide +kernel
theorem dX4_init_37 : decode cX4_init 37 = .ok (.putfield 27, 3) := by decide +kernel
theorem dX4_init_40 : decode cX4_init 40 = .ok (.aload_n 0, 1) := by decide +kernel
theorem dX4_init_41 : decode cX4_init 41 = .ok (.new 18, 3) := by decide +kernel
theorem dX4_init_44 : decode cX4_init 44 = .ok (.dup, 1) := by decide +kernel
theorem dX4_init_45 : decode cX4_init 45 = .ok (.bipush 6, 2) := by decide +kernel
theorem dX4_init_47 : decode cX4_init 47 = .ok (.invokespecial 20, 3) := by decide +kernel
theorem dX4_init_50 : decode cX4_init 50 = .ok (.putfield 30, 3) := by decide +kernel
theorem dX4_init_53 : decode cX4_init 53 = .ok (.aload_n 0, 1) := by decide +kernel
theorem dX4_init_54 : decode cX4_init 54 = .ok (.new 18, 3) := by decide +kernel
theorem dX4_init_57 : decode cX4_init 57 = .ok (.dup, 1) := by decide +kernel
theorem dX4_init_58 : decode cX4_init 58 = .ok (.bipush 6, 2) := by decide +kernel
theorem dX4_init_60 : decode cX4_init 60 = .ok (.invokespecial 20, 3) := by decide +kernel
theorem dX4_init_63 : decode cX4_init 63 = .ok (.putfield 33, 3) := by decide +kernel
theorem dX4_init_66 : decode cX4_init 66 = .ok (.aload_n 0, 1) := by decide +kernel
theorem dX4_init_67 : decode cX4_init 67 = .ok (.new 18, 3) := by decide +kernel
theorem dX4_init_70 : decode cX4_init 70 = .ok (.dup, 1) := by decide +kernel
theorem dX4_init_71 : decode cX4_init 71 = .ok (.bipush 6, 2) := by decide +kernel
theorem dX4_init_73 : decode cX4_init 73 = .ok (.invokespecial 20, 3) := by decide +kernel
theorem dX4_init_76 : decode cX4_init 76 = .ok (.putfield 36, 3) := by decide +kernel
theorem dX4_init_79 : decode cX4_init 79 = .ok (.return_, 1) := by decide +kernel
set_option maxRecDepth 20000 in
theorem ggX4_forgetAll_X3_set : GoodIn wsX4_forgetAll wsX3_set := goodIn_r _ [8, 9, 19] (by decide +kernel) (by decide +kernel)
set_option maxRecDepth 20000 in
theorem gX4_forgetAll_X3_set : GoodIn wsX4_forgetAll (wsV RX4 39 RX3 yX3_set wsX3_set) := goodIn_app (goodIn_of _ (by decide +kernel)) ggX4_forgetAll_X3_set
theorem dX4_forgetAll_0 : decode cX4_forgetAll 0 = .ok (.iconst 0, 1) := by decide +kernel
theorem dX4_forgetAll_1 : decode cX4_forgetAll 1 = .ok (.istore_n 1, 1) := by decide +kernel
theorem dX4_forgetAll_2 : decode cX4_forgetAll 2 = .ok (.iload_n 1, 1) := by decide +kernel
theorem dX4_forgetAll_3 : decode cX4_forgetAll 3 = .ok (.iconst 4, 1) := by decide +kernel
theorem dX4_forgetAll_4 : decode cX4_forgetAll 4 = .ok (.if_icmp .ge 18, 3) := by decide +kernel
theorem dX4_forgetAll_7 : decode cX4_forgetAll 7 = .ok (.aload_n 0, 1) := by decide +kernel
theorem dX4_forgetAll_8 : decode cX4_forgetAll 8 = .ok (.getfield 23, 3) := by decide +kernel
theorem dX4_forgetAll_11 : decode cX4_forgetAll 11 = .ok (.iload_n 1, 1) := by decide +kernel
theorem dX4_forgetAll_12 : decode cX4_forgetAll 12 = .ok (.iconst 0, 1) := by decide +kernel
theorem dX4_forgetAll_13 : decode cX4_forgetAll 13 = .ok (.invokevirtual 39, 3) := by decide +kernel
theorem dX4_forgetAll_16 : decode cX4_forgetAll 16 = .ok (.iinc 1 1, 3) := by decide +kernel
theorem dX4_forgetAll_19 : decode cX4_forgetAll 19 = .ok (.goto (-17), 3) := by decide +kernel
theorem dX4_forgetAll_22 : decode cX4_forgetAll 22 = .ok (.aload_n 0, 1) := by decide +kernel
theorem dX4_forgetAll_23 : decode cX4_forgetAll 23 = .ok (.iconst 0, 1) := by decide +kernel
theorem dX4_forgetAll_24 : decode cX4_forgetAll 24 = .ok (.putfield 43, 3) := by decide +kernel
theorem dX4_forgetAll_27 : decode cX4_forgetAll 27 = .ok (.aload_n 0, 1) := by decide +kernel
theorem dX4_forgetAll_28 : decode cX4_forgetAll 28 = .ok (.iconst 0, 1) := by decide +kernel
theorem dX4_forgetAll_29 : decode cX4_forgetAll 29 = .ok (.putfield 47, 3) := by decide +kernel
theorem dX4_forgetAll_32 : decode cX4_forgetAll 32 = .ok (.return_, 1) := by decide +kernel
set_option maxRecDepth 20000 in
theorem ggX4_noteChange_X3_get : GoodIn wsX4_noteChange wsX3_get := goodIn_r _ [7, 8, 22] (by decide +kernel) (by decide +kernel)
set_option maxRecDepth 20000 in
theorem gX4_noteChange_X3_get : GoodIn wsX4_noteChange (wsV RX4 50 RX3 yX3_get wsX3_get) := goodIn_app (goodIn_of _ (by decide +kernel)) ggX4_noteChange_X3_get
set_option maxRecDepth 20000 in
theorem ggX4_noteChange_X3_set : GoodIn wsX4_noteChange wsX3_set := goodIn_r _ [12, 8, 22] (by decide +kernel) (by decide +kernel)
set_option maxRecDepth 20000 in
theorem gX4_noteChange_X3_set : GoodIn wsX4_noteChange (wsV RX4 39 RX3 yX3_set wsX3_set) := goodIn_app (goodIn_of _ (by decide +kernel)) ggX4_noteChange_X3_set
theorem dX4_noteChange_0 : decode cX4_noteChange 0 = .ok (.aload_n 0, 1) := by decide +kernel
theorem dX4_noteChange_1 : decode cX4_noteChange 1 = .ok (.getfield 23, 3) := by decide +kernel
theorem dX4_noteChange_4 : decode cX4_noteChange 4 = .ok (.iload_n 1, 1) := by decide +kernel
theorem dX4_noteChange_5 : decode cX4_noteChange 5 = .ok (.aload_n 0, 1) := by decide +kernel
theorem dX4_noteChange_6 : decode cX4_noteChange 6 = .ok (.getfield 23, 3) := by decide +kernel
theorem dX4_noteChange_9 : decode cX4_noteChange 9 = .ok (.iload_n 1, 1) := by decide +kernel
theorem dX4_noteChange_10 : decode cX4_noteChange 10 = .ok (.invokevirtual 50, 3) := by decide +kernel
theorem dX4_noteChange_13 : decode cX4_noteChange 13 = .ok (.iconst 1, 1) := by decide +kernel
theorem dX4_noteChange_14 : decode cX4_noteChange 14 = .ok (.iadd, 1) := by decide +kernel
theorem dX4_noteChange_15 : decode cX4_noteChange 15 = .ok (.invokevirtual 39, 3) := by decide +kernel
theorem dX4_noteChange_18 : decode cX4_noteChange 18 = .ok (.aload_n 0, 1) := by decide +kernel
theorem dX4_noteChange_19 : decode cX4_noteChange 19 = .ok (.getfield 23, 3) := by decide +kernel
theorem dX4_noteChange_22 : decode cX4_noteChange 22 = .ok (.iload_n 2, 1) := by decide +kernel
theorem dX4_noteChange_23 : decode cX4_noteChange 23 = .ok (.aload_n 0, 1) := by decide +kernel
theorem dX4_noteChange_24 : decode cX4_noteChange 24 = .ok (.getfield 23, 3) := by decide +kernel
theorem dX4_noteChange_27 : decode cX4_noteChange 27 = .ok (.iload_n 2, 1) := by decide +kernel
theorem dX4_noteChange_28 : decode cX4_noteChange 28 = .ok (.invokevirtual 50, 3) := by decide +kernel
theorem dX4_noteChange_31 : decode cX4_noteChange 31 = .ok (.iconst 1, 1) := by decide +kernel
theorem dX4_noteChange_32 : decode cX4_noteChange 32 = .ok (.iadd, 1) := by decide +kernel
theorem dX4_noteChange_33 : decode cX4_noteChange 33 = .ok (.invokevirtual 39, 3) := by decide +kernel
theorem dX4_noteChange_36 : decode cX4_noteChange 36 = .ok (.aload_n 0, 1) := by decide +kernel
theorem dX4_noteChange_37 : decode cX4_noteChange 37 = .ok (.dup, 1) := by decide +kernel
theorem dX4_noteChange_38 : decode cX4_noteChange 38 = .ok (.getfield 43, 3) := by decide +kernel
theorem dX4_noteChange_41 : decode cX4_noteChange 41 = .ok (.iconst 1, 1) := by decide +kernel
theorem dX4_noteChange_42 : decode cX4_noteChange 42 = .ok (.iadd, 1) := by decide +kernel
theorem dX4_noteChange_43 : decode cX4_noteChange 43 = .ok (.putfield 43, 3) := by decide +kernel
theorem dX4_noteChange_46 : decode cX4_noteChange 46 = .ok (.return_, 1) := by decide +kernel
set_option maxRecDepth 20000 in
theorem ggX4_noteHeard_X3_set : GoodIn wsX4_noteHeard wsX3_set := goodIn_r _ [10, 11, 21] (by decide +kernel) (by decide +kernel)
set_option maxRecDepth 20000 in
theorem gX4_noteHeard_X3_set : GoodIn wsX4_noteHeard (wsV RX4 39 RX3 yX3_set wsX3_set) := goodIn_app (goodIn_of _ (by decide +kernel)) ggX4_noteHeard_X3_set
theorem dX4_noteHeard_0 : decode cX4_noteHeard 0 = .ok (.aload_n 0, 1) := by decide +kernel
theorem dX4_noteHeard_1 : decode cX4_noteHeard 1 = .ok (.getfield 27, 3) := by decide +kernel
theorem dX4_noteHeard_4 : decode cX4_noteHeard 4 = .ok (.aload_n 0, 1) := by decide +kernel
theorem dX4_noteHeard_5 : decode cX4_noteHeard 5 = .ok (.getfield 47, 3) := by decide +kernel
theorem dX4_noteHeard_8 : decode cX4_noteHeard 8 = .ok (.iload_n 1, 1) := by decide +kernel
theorem dX4_noteHeard_9 : decode cX4_noteHeard 9 = .ok (.invokevirtual 39, 3) := by decide +kernel
theorem dX4_noteHeard_12 : decode cX4_noteHeard 12 = .ok (.aload_n 0, 1) := by decide +kernel
theorem dX4_noteHeard_13 : decode cX4_noteHeard 13 = .ok (.getfield 30, 3) := by decide +kernel
theorem dX4_noteHeard_16 : decode cX4_noteHeard 16 = .ok (.aload_n 0, 1) := by decide +kernel
theorem dX4_noteHeard_17 : decode cX4_noteHeard 17 = .ok (.getfield 47, 3) := by decide +kernel
theorem dX4_noteHeard_20 : decode cX4_noteHeard 20 = .ok (.iload_n 2, 1) := by decide +kernel
theorem dX4_noteHeard_21 : decode cX4_noteHeard 21 = .ok (.invokevirtual 39, 3) := by decide +kernel
theorem dX4_noteHeard_24 : decode cX4_noteHeard 24 = .ok (.aload_n 0, 1) := by decide +kernel
theorem dX4_noteHeard_25 : decode cX4_noteHeard 25 = .ok (.getfield 33, 3) := by decide +kernel
theorem dX4_noteHeard_28 : decode cX4_noteHeard 28 = .ok (.aload_n 0, 1) := by decide +kernel
theorem dX4_noteHeard_29 : decode cX4_noteHeard 29 = .ok (.getfield 47, 3) := by decide +kernel
theorem dX4_noteHeard_32 : decode cX4_noteHeard 32 = .ok (.iload_n 3, 1) := by decide +kernel
theorem dX4_noteHeard_33 : decode cX4_noteHeard 33 = .ok (.invokevirtual 39, 3) := by decide +kernel
theorem dX4_noteHeard_36 : decode cX4_noteHeard 36 = .ok (.aload_n 0, 1) := by decide +kernel
theorem dX4_noteHeard_37 : decode cX4_noteHeard 37 = .ok (.getfield 36, 3) := by decide +kernel
theorem dX4_noteHeard_40 : decode cX4_noteHeard 40 = .ok (.aload_n 0, 1) := by decide +kernel
theorem dX4_noteHeard_41 : decode cX4_noteHeard 41 = .ok (.getfield 47, 3) := by decide +kernel
theorem dX4_noteHeard_44 : decode cX4_noteHeard 44 = .ok (.iload 4, 2) := by decide +kernel
theorem dX4_noteHeard_46 : decode cX4_noteHeard 46 = .ok (.ifCond .eq 7, 3) := by decide +kernel
theorem dX4_noteHeard_49 : decode cX4_noteHeard 49 = .ok (.iconst 1, 1) := by decide +kernel
theorem dX4_noteHeard_50 : decode cX4_noteHeard 50 = .ok (.goto 4, 3) := by decide +kernel
theorem dX4_noteHeard_53 : decode cX4_noteHeard 53 = .ok (.iconst 0, 1) := by decide +kernel
theorem dX4_noteHeard_54 : decode cX4_noteHeard 54 = .ok (.invokevirtual 39, 3) := by decide +kernel
theorem dX4_noteHeard_57 : decode cX4_noteHeard 57 = .ok (.aload_n 0, 1) := by decide +kernel
theorem dX4_noteHeard_58 : decode cX4_noteHeard 58 = .ok (.dup, 1) := by decide +kernel
theorem dX4_noteHeard_59 : decode cX4_noteHeard 59 = .ok (.getfield 47, 3) := by decide +kernel
theorem dX4_noteHeard_62 : decode cX4_noteHeard 62 = .ok (.iconst 1, 1) := by decide +kernel
theorem dX4_noteHeard_63 : decode cX4_noteHeard 63 = .ok (.iadd, 1) := by decide +kernel
theorem dX4_noteHeard_64 : decode cX4_noteHeard 64 = .ok (.putfield 47, 3) := by decide +kernel
theorem dX4_noteHeard_67 : decode cX4_noteHeard 67 = .ok (.return_, 1) := by decide +kernel
set_option maxRecDepth 20000 in
theorem ggX4_takeFrom_X5_takeFrom : GoodIn wsX4_takeFrom wsX5_takeFrom := goodIn_r _ [14, 15, 31] (by decide +kernel) (by decide +kernel)
set_option maxRecDepth 20000 in
theorem gX4_takeFrom_X5_takeFrom : GoodIn wsX4_takeFrom (wsV RX4 54 RX5 yX5_takeFrom wsX5_takeFrom) := goodIn_app (goodIn_of _ (by decide +kernel)) ggX4_takeFrom_X5_takeFrom
set_option maxRecDepth 20000 in
theorem ggX4_takeFrom_X3_takeFrom : GoodIn wsX4_takeFrom wsX3_takeFrom := goodIn_r _ [20, 21, 32] (by decide +kernel) (by decide +kernel)
set_option maxRecDepth 20000 in
theorem gX4_takeFrom_X3_takeFrom : GoodIn wsX4_takeFrom (wsV RX4 58 RX3 yX3_takeFrom wsX3_takeFrom) := goodIn_app (goodIn_of _ (by decide +kernel)) ggX4_takeFrom_X3_takeFrom
theorem dX4_takeFrom_0 : decode cX4_takeFrom 0 = .ok (.aload_n 1, 1) := by decide +kernel
theorem dX4_takeFrom_1 : decode cX4_takeFrom 1 = .ok (.ifnonnull 4, 3) := by decide +kernel
theorem dX4_takeFrom_4 : decode cX4_takeFrom 4 = .ok (.return_, 1) := by decide +kernel
theorem dX4_takeFrom_5 : decode cX4_takeFrom 5 = .ok (.aload_n 0, 1) := by decide +kernel
theorem dX4_takeFrom_6 : decode cX4_takeFrom 6 = .ok (.getfield 12, 3) := by decide +kernel
theorem dX4_takeFrom_9 : decode cX4_takeFrom 9 = .ok (.aload_n 1, 1) := by decide +kernel
theorem dX4_takeFrom_10 : decode cX4_takeFrom 10 = .ok (.getfield 12, 3) := by decide +kernel
theorem dX4_takeFrom_13 : decode cX4_takeFrom 13 = .ok (.invokevirtual 54, 3) := by decide +kernel
theorem dX4_takeFrom_16 : decode cX4_takeFrom 16 = .ok (.aload_n 0, 1) := by decide +kernel
theorem dX4_takeFrom_17 : decode cX4_takeFrom 17 = .ok (.getfield 23, 3) := by decide +kernel
theorem dX4_takeFrom_20 : decode cX4_takeFrom 20 = .ok (.aload_n 1, 1) := by decide +kernel
theorem dX4_takeFrom_21 : decode cX4_takeFrom 21 = .ok (.getfield 23, 3) := by decide +kernel
theorem dX4_takeFrom_24 : decode cX4_takeFrom 24 = .ok (.invokevirtual 58, 3) := by decide +kernel
theorem dX4_takeFrom_27 : decode cX4_takeFrom 27 = .ok (.aload_n 0, 1) := by decide +kernel
theorem dX4_takeFrom_28 : decode cX4_takeFrom 28 = .ok (.getfield 27, 3) := by decide +kernel
theorem dX4_takeFrom_31 : decode cX4_takeFrom 31 = .ok (.aload_n 1, 1) := by decide +kernel
theorem dX4_takeFrom_32 : decode cX4_takeFrom 32 = .ok (.getfield 27, 3) := by decide +kernel
theorem dX4_takeFrom_35 : decode cX4_takeFrom 35 = .ok (.invokevirtual 58, 3) := by decide +kernel
theorem dX4_takeFrom_38 : decode cX4_takeFrom 38 = .ok (.aload_n 0, 1) := by decide +kernel
theorem dX4_takeFrom_39 : decode cX4_takeFrom 39 = .ok (.getfield 30, 3) := by decide +kernel
theorem dX4_takeFrom_42 : decode cX4_takeFrom 42 = .ok (.aload_n 1, 1) := by decide +kernel
theorem dX4_takeFrom_43 : decode cX4_takeFrom 43 = .ok (.getfield 30, 3) := by decide +kernel
theorem dX4_takeFrom_46 : decode cX4_takeFrom 46 = .ok (.invokevirtual 58, 3) := by decide +kernel
theorem dX4_takeFrom_49 : decode cX4_takeFrom 49 = .ok (.aload_n 0, 1) := by decide +kernel
theorem dX4_takeFrom_50 : decode cX4_takeFrom 50 = .ok (.getfield 33, 3) := by decide +kernel
theorem dX4_takeFrom_53 : decode cX4_takeFrom 53 = .ok (.aload_n 1, 1) := by decide +kernel
theorem dX4_takeFrom_54 : decode cX4_takeFrom 54 = .ok (.getfield 33, 3) := by decide +kernel
theorem dX4_takeFrom_57 : decode cX4_takeFrom 57 = .ok (.invokevirtual 58, 3) := by decide +kernel
theorem dX4_takeFrom_60 : decode cX4_takeFrom 60 = .ok (.aload_n 0, 1) := by decide +kernel
theorem dX4_takeFrom_61 : decode cX4_takeFrom 61 = .ok (.getfield 36, 3) := by decide +kernel
theorem dX4_takeFrom_64 : decode cX4_takeFrom 64 = .ok (.aload_n 1, 1) := by decide +kernel
theorem dX4_takeFrom_65 : decode cX4_takeFrom 65 = .ok (.getfield 36, 3) := by decide +kernel
theorem dX4_takeFrom_68 : decode cX4_takeFrom 68 = .ok (.invokevirtual 58, 3) := by decide +kernel
theorem dX4_takeFrom_71 : decode cX4_takeFrom 71 = .ok (.aload_n 0, 1) := by decide +kernel
theorem dX4_takeFrom_72 : decode cX4_takeFrom 72 = .ok (.aload_n 1, 1) := by decide +kernel
theorem dX4_takeFrom_73 : decode cX4_takeFrom 73 = .ok (.getfield 61, 3) := by decide +kernel
theorem dX4_takeFrom_76 : decode cX4_takeFrom 76 = .ok (.putfield 61, 3) := by decide +kernel
theorem dX4_takeFrom_79 : decode cX4_takeFrom 79 = .ok (.aload_n 0, 1) := by decide +kernel
theorem dX4_takeFrom_80 : decode cX4_takeFrom 80 = .ok (.aload_n 1, 1) := by decide +kernel
theorem dX4_takeFrom_81 : decode cX4_takeFrom 81 = .ok (.getfield 43, 3) := by decide +kernel
theorem dX4_takeFrom_84 : decode cX4_takeFrom 84 = .ok (.putfield 43, 3) := by decide +kernel
theorem dX4_takeFrom_87 : decode cX4_takeFrom 87 = .ok (.aload_n 0, 1) := by decide +kernel
theorem dX4_takeFrom_88 : decode cX4_takeFrom 88 = .ok (.aload_n 1, 1) := by decide +kernel
theorem dX4_takeFrom_89 : decode cX4_takeFrom 89 = .ok (.getfield 47, 3) := by decide +kernel
theorem dX4_takeFrom_92 : decode cX4_takeFrom 92 = .ok (.putfield 47, 3) := by decide +kernel
theorem dX4_takeFrom_95 : decode cX4_takeFrom 95 = .ok (.return_, 1) := by decide +kernel
theorem dX5_init_0 : decode cX5_init 0 = .ok (.aload_n 0, 1) := by decide +kernel
theorem dX5_init_1 : decode cX5_init 1 = .ok (.invokespecial 3, 3) := by decide +kernel
theorem dX5_init_4 : decode cX5_init 4 = .ok (.aload_n 0, 1) := by decide +kernel
theorem dX5_init_5 : decode cX5_init 5 = .ok (.bipush 16, 2) := by decide +kernel
theorem dX5_init_7 : decode cX5_init 7 = .ok (.newarray .int, 2) := by decide +kernel
theorem dX5_init_9 : decode cX5_init 9 = .ok (.putfield 9, 3) := by decide +kernel
theorem dX5_init_12 : decode cX5_init 12 = .ok (.return_, 1) := by decide +kernel
theorem dX5_at_0 : decode cX5_at 0 = .ok (.iload_n 1, 1) := by decide +kernel
theorem dX5_at_1 : decode cX5_at 1 = .ok (.iconst 4, 1) := by decide +kernel
theorem dX5_at_2 : decode cX5_at 2 = .ok (.imul, 1) := by decide +kernel
theorem dX5_at_3 : decode cX5_at 3 = .ok (.iload_n 2, 1) := by decide +kernel
theorem dX5_at_4 : decode cX5_at 4 = .ok (.iadd, 1) := by decide +kernel
theorem dX5_at_5 : decode cX5_at 5 = .ok (.istore_n 3, 1) := by decide +kernel
theorem dX5_at_6 : decode cX5_at 6 = .ok (.iload_n 3, 1) := by decide +kernel
theorem dX5_at_7 : decode cX5_at 7 = .ok (.ifCond .lt 21, 3) := by decide +kernel
theorem dX5_at_10 : decode cX5_at 10 = .ok (.iload_n 3, 1) := by decide +kernel
theorem dX5_at_11 : decode cX5_at 11 = .ok (.aload_n 0, 1) := by decide +kernel
theorem dX5_at_12 : decode cX5_at 12 = .ok (.getfield 9, 3) := by decide +kernel
theorem dX5_at_15 : decode cX5_at 15 = .ok (.arraylength, 1) := by decide +kernel
theorem dX5_at_16 : decode cX5_at 16 = .ok (.if_icmp .ge 12, 3) := by decide +kernel
theorem dX5_at_19 : decode cX5_at 19 = .ok (.aload_n 0, 1) := by decide +kernel
theorem dX5_at_20 : decode cX5_at 20 = .ok (.getfield 9, 3) := by decide +kernel
theorem dX5_at_23 : decode cX5_at 23 = .ok (.iload_n 3, 1) := by decide +kernel
theorem dX5_at_24 : decode cX5_at 24 = .ok (.iaload, 1) := by decide +kernel
theorem dX5_at_25 : decode cX5_at 25 = .ok (.goto 4, 3) := by decide +kernel
theorem dX5_at_28 : decode cX5_at 28 = .ok (.iconst 0, 1) := by decide +kernel
theorem dX5_at_29 : decode cX5_at 29 = .ok (.ireturn, 1) := by decide +kernel
theorem dX5_put_0 : decode cX5_put 0 = .ok (.iload_n 1, 1) := by decide +kernel
theorem dX5_put_1 : decode cX5_put 1 = .ok (.iconst 4, 1) := by decide +kernel
theorem dX5_put_2 : decode cX5_put 2 = .ok (.imul, 1) := by decide +kernel
theorem dX5_put_3 : decode cX5_put 3 = .ok (.iload_n 2, 1) := by decide +kernel
theorem dX5_put_4 : decode cX5_put 4 = .ok (.iadd, 1) := by decide +kernel
theorem dX5_put_5 : decode cX5_put 5 = .ok (.istore 4, 2) := by decide +kernel
theorem dX5_put_7 : decode cX5_put 7 = .ok (.iload 4, 2) := by decide +kernel
theorem dX5_put_9 : decode cX5_put 9 = .ok (.ifCond .lt 21, 3) := by decide +kernel
theorem dX5_put_12 : decode cX5_put 12 = .ok (.iload 4, 2) := by decide +kernel
theorem dX5_put_14 : decode cX5_put 14 = .ok (.aload_n 0, 1) := by decide +kernel
theorem dX5_put_15 : decode cX5_put 15 = .ok (.getfield 9, 3) := by decide +kernel
theorem dX5_put_18 : decode cX5_put 18 = .ok (.arraylength, 1) := by decide +kernel
theorem dX5_put_19 : decode cX5_put 19 = .ok (.if_icmp .ge 11, 3) := by decide +kernel
theorem dX5_put_22 : decode cX5_put 22 = .ok (.aload_n 0, 1) := by decide +kernel
theorem dX5_put_23 : decode cX5_put 23 = .ok (.getfield 9, 3) := by decide +kernel
theorem dX5_put_26 : decode cX5_put 26 = .ok (.iload 4, 2) := by decide +kernel
theorem dX5_put_28 : decode cX5_put 28 = .ok (.iload_n 3, 1) := by decide +kernel
theorem dX5_put_29 : decode cX5_put 29 = .ok (.iastore, 1) := by decide +kernel
theorem dX5_put_30 : decode cX5_put 30 = .ok (.return_, 1) := by decide +kernel
theorem dX5_takeFrom_0 : decode cX5_takeFrom 0 = .ok (.iconst 0, 1) := by decide +kernel
theorem dX5_takeFrom_1 : decode cX5_takeFrom 1 = .ok (.istore_n 2, 1) := by decide +kernel
theorem dX5_takeFrom_2 : decode cX5_takeFrom 2 = .ok (.aload_n 1, 1) := by decide +kernel
theorem dX5_takeFrom_3 : decode cX5_takeFrom 3 = .ok (.ifnull 39, 3) := by decide +kernel
theorem dX5_takeFrom_6 : decode cX5_takeFrom 6 = .ok (.iload_n 2, 1) := by decide +kernel
theorem dX5_takeFrom_7 : decode cX5_takeFrom 7 = .ok (.aload_n 0, 1) := by decide +kernel
theorem dX5_takeFrom_8 : decode cX5_takeFrom 8 = .ok (.getfield 9, 3) := by decide +kernel
theorem dX5_takeFrom_11 : decode cX5_takeFrom 11 = .ok (.arraylength, 1) := by decide +kernel
theorem dX5_takeFrom_12 : decode cX5_takeFrom 12 = .ok (.if_icmp .ge 30, 3) := by decide +kernel
theorem dX5_takeFrom_15 : decode cX5_takeFrom 15 = .ok (.iload_n 2, 1) := by decide +kernel
theorem dX5_takeFrom_16 : decode cX5_takeFrom 16 = .ok (.aload_n 1, 1) := by decide +kernel
theorem dX5_takeFrom_17 : decode cX5_takeFrom 17 = .ok (.getfield 9, 3) := by decide +kernel
theorem dX5_takeFrom_20 : decode cX5_takeFrom 20 = .ok (.arraylength, 1) := by decide +kernel
theorem dX5_takeFrom_21 : decode cX5_takeFrom 21 = .ok (.if_icmp .ge 21, 3) := by decide +kernel
theorem dX5_takeFrom_24 : decode cX5_takeFrom 24 = .ok (.aload_n 0, 1) := by decide +kernel
theorem dX5_takeFrom_25 : decode cX5_takeFrom 25 = .ok (.getfield 9, 3) := by decide +kernel
theorem dX5_takeFrom_28 : decode cX5_takeFrom 28 = .ok (.iload_n 2, 1) := by decide +kernel
theorem dX5_takeFrom_29 : decode cX5_takeFrom 29 = .ok (.aload_n 1, 1) := by decide +kernel
theorem dX5_takeFrom_30 : decode cX5_takeFrom 30 = .ok (.getfield 9, 3) := by decide +kernel
theorem dX5_takeFrom_33 : decode cX5_takeFrom 33 = .ok (.iload_n 2, 1) := by decide +kernel
theorem dX5_takeFrom_34 : decode cX5_takeFrom 34 = .ok (.iaload, 1) := by decide +kernel
theorem dX5_takeFrom_35 : decode cX5_takeFrom 35 = .ok (.iastore, 1) := by decide +kernel
theorem dX5_takeFrom_36 : decode cX5_takeFrom 36 = .ok (.iinc 2 1, 3) := by decide +kernel
theorem dX5_takeFrom_39 : decode cX5_takeFrom 39 = .ok (.goto (-37), 3) := by decide +kernel
theorem dX5_takeFrom_42 : decode cX5_takeFrom 42 = .ok (.return_, 1) := by decide +kernel
set_option maxRecDepth 20000 in
theorem ggX6_init_X2_init : GoodIn wsX6_init wsX2_init := goodIn_r _ [23, 24, 2, 3, 25, 26, 27, 28, 29, 30, 31, 32, 33, 34, 35, 36, 37, 38, 99, 72, 73] (by decide +kernel) (by decide +kernel)
set_option maxRecDepth 20000 in
theorem gX6_init_X2_init_n11 : GoodIn wsX6_init (wsX2_init) := ggX6_init_X2_init
set_option maxRecDepth 20000 in
theorem ggX6_init_X1_init : GoodIn wsX6_init wsX1_init := goodIn_r _ [40, 41, 2, 3, 42, 26, 27, 43, 44, 17, 18, 45, 46, 30, 31, 32, 33, 34, 35, 36, 37, 38, 47, 48, 49, 50, 51, 52, 53, 54, 55, 56, 57, 58, 59, 60, 61, 62, 63, 64, 99, 80, 81, 82, 90, 91, 92, 93, 94, 95, 96, 97, 98, 100] (by decide +kernel) (by decide +kernel)
set_option maxRecDepth 20000 in
theorem gX6_init_X1_init_n18 : GoodIn wsX6_init (wsX1_init) := ggX6_init_X1_init
set_option maxRecDepth 20000 in
theorem ggX6_init_X0_init : GoodIn wsX6_init wsX0_init := goodIn_r _ [66, 67, 2, 3, 68, 26, 27, 69, 70, 71, 30, 31, 32, 33, 34, 35, 36, 37, 38, 99, 83, 84, 85, 86, 87, 88, 89] (by decide +kernel) (by decide +kernel)
set_option maxRecDepth 20000 in
theorem gX6_init_X0_init_n25 : GoodIn wsX6_init (wsX0_init) := ggX6_init_X0_init
set_option maxRecDepth 20000 in
theorem ggX6_init_X4_init : GoodIn wsX6_init wsX4_init := goodIn_r _ [48, 49, 2, 3, 50, 51, 52, 53, 54, 26, 27, 55, 56, 57, 58, 59, 60, 61, 62, 37, 63, 64, 30, 31, 32, 33, 34, 35, 36, 38, 100, 90, 91, 92, 93, 94, 95, 96, 97, 98, 99] (by decide +kernel) (by decide +kernel)
set_option maxRecDepth 20000 in
theorem gX6_init_X4_init_n32 : GoodIn wsX6_init (wsX4_init) := ggX6_init_X4_init
theorem dX6_init_0 : decode cX6_init 0 = .ok (.aload_n 0, 1) := by decide +kernel
theorem dX6_init_1 : decode cX6_init 1 = .ok (.invokespecial 3, 3) := by decide +kernel
theorem dX6_init_4 : decode cX6_init 4 = .ok (.aload_n 0, 1) := by decide +kernel
theorem dX6_init_5 : decode cX6_init 5 = .ok (.new 9, 3) := by decide +kernel
theorem dX6_init_8 : decode cX6_init 8 = .ok (.dup, 1) := by decide +kernel
theorem dX6_init_9 : decode cX6_init 9 = .ok (.invokespecial 11, 3) := by decide +kernel
theorem dX6_init_12 : decode cX6_init 12 = .ok (.putfield 12, 3) := by decide +kernel
theorem dX6_init_15 : decode cX6_init 15 = .ok (.aload_n 0, 1) := by decide +kernel
theorem dX6_init_16 : decode cX6_init 16 = .ok (.new 16, 3) := by decide +kernel
theorem dX6_init_19 : decode cX6_init 19 = .ok (.dup, 1) := by decide +kernel
theorem dX6_init_20 : decode cX6_init 20 = .ok (.invokespecial 18, 3) := by decide +kernel
theorem dX6_init_23 : decode cX6_init 23 = .ok (.putfield 19, 3) := by decide +kernel
theorem dX6_init_26 : decode cX6_init 26 = .ok (.aload_n 0, 1) := by decide +kernel
theorem dX6_init_27 : decode cX6_init 27 = .ok (.new 23, 3) := by decide +kernel
theorem dX6_init_30 : decode cX6_init 30 = .ok (.dup, 1) := by decide +kernel
theorem dX6_init_31 : decode cX6_init 31 = .ok (.invokespecial 25, 3) := by decide +kernel
theorem dX6_init_34 : decode cX6_init 34 = .ok (.putfield 26, 3) := by decide +kernel
theorem dX6_init_37 : decode cX6_init 37 = .ok (.aload_n 0, 1) := by decide +kernel
theorem dX6_init_38 : decode cX6_init 38 = .ok (.new 30, 3) := by decide +kernel
theorem dX6_init_41 : decode cX6_init 41 = .ok (.dup, 1) := by decide +kernel
theorem dX6_init_42 : decode cX6_init 42 = .ok (.invokespecial 32, 3) := by decide +kernel
theorem dX6_init_45 : decode cX6_init 45 = .ok (.putfield 33, 3) := by decide +kernel
theorem dX6_init_48 : decode cX6_init 48 = .ok (.aload_n 0, 1) := by decide +kernel
theorem dX6_init_49 : decode cX6_init 49 = .ok (.iconst 0, 1) := by decide +kernel
theorem dX6_init_50 : decode cX6_init 50 = .ok (.putfield 37, 3) := by decide +kernel
theorem dX6_init_53 : decode cX6_init 53 = .ok (.aload_n 0, 1) := by decide +kernel
theorem dX6_init_54 : decode cX6_init 54 = .ok (.iconst 0, 1) := by decide +kernel
theorem dX6_init_55 : decode cX6_init 55 = .ok (.putfield 41, 3) := by decide +kernel
theorem dX6_init_58 : decode cX6_init 58 = .ok (.return_, 1) := by decide +kernel
set_option maxRecDepth 20000 in
theorem ggX6_letter_X2_write : GoodIn wsX6_letter wsX2_write := goodIn_r _ [6, 7, 8, 9, 10, 11, 12, 13, 14, 21, 22, 23] (by decide +kernel) (by decide +kernel)
set_option maxRecDepth 20000 in
theorem gX6_letter_X2_write : GoodIn wsX6_letter (wsV RX6 47 RX2 yX2_write wsX2_write) := goodIn_app (goodIn_of _ (by decide +kernel)) ggX6_letter_X2_write
theorem dX6_letter_0 : decode cX6_letter 0 = .ok (.iload_n 1, 1) := by decide +kernel
theorem dX6_letter_1 : decode cX6_letter 1 = .ok (.bipush 32, 2) := by decide +kernel
theorem dX6_letter_3 : decode cX6_letter 3 = .ok (.if_icmp .lt 9, 3) := by decide +kernel
theorem dX6_letter_6 : decode cX6_letter 6 = .ok (.iload_n 1, 1) := by decide +kernel
theorem dX6_letter_7 : decode cX6_letter 7 = .ok (.bipush 126, 2) := by decide +kernel
theorem dX6_letter_9 : decode cX6_letter 9 = .ok (.if_icmp .le 6, 3) := by decide +kernel
theorem dX6_letter_12 : decode cX6_letter 12 = .ok (.bipush (-102), 2) := by decide +kernel
theorem dX6_letter_14 : decode cX6_letter 14 = .ok (.ireturn, 1) := by decide +kernel
theorem dX6_letter_15 : decode cX6_letter 15 = .ok (.aload_n 0, 1) := by decide +kernel
theorem dX6_letter_16 : decode cX6_letter 16 = .ok (.getfield 12, 3) := by decide +kernel
theorem dX6_letter_19 : decode cX6_letter 19 = .ok (.getfield 44, 3) := by decide +kernel
theorem dX6_letter_22 : decode cX6_letter 22 = .ok (.bipush 25, 2) := by decide +kernel
theorem dX6_letter_24 : decode cX6_letter 24 = .ok (.if_icmp .lt 6, 3) := by decide +kernel
theorem dX6_letter_27 : decode cX6_letter 27 = .ok (.bipush (-104), 2) := by decide +kernel
theorem dX6_letter_29 : decode cX6_letter 29 = .ok (.ireturn, 1) := by decide +kernel
theorem dX6_letter_30 : decode cX6_letter 30 = .ok (.aload_n 0, 1) := by decide +kernel
theorem dX6_letter_31 : decode cX6_letter 31 = .ok (.getfield 12, 3) := by decide +kernel
theorem dX6_letter_34 : decode cX6_letter 34 = .ok (.iload_n 1, 1) := by decide +kernel
theorem dX6_letter_35 : decode cX6_letter 35 = .ok (.invokevirtual 47, 3) := by decide +kernel
theorem dX6_letter_38 : decode cX6_letter 38 = .ok (.aload_n 0, 1) := by decide +kernel
theorem dX6_letter_39 : decode cX6_letter 39 = .ok (.getfield 12, 3) := by decide +kernel
theorem dX6_letter_42 : decode cX6_letter 42 = .ok (.getfield 44, 3) := by decide +kernel
theorem dX6_letter_45 : decode cX6_letter 45 = .ok (.ireturn, 1) := by decide +kernel
theorem dX6_blank_0 : decode cX6_blank 0 = .ok (.aload_n 0, 1) := by decide +kernel
theorem dX6_blank_1 : decode cX6_blank 1 = .ok (.getfield 12, 3) := by decide +kernel
theorem dX6_blank_4 : decode cX6_blank 4 = .ok (.getfield 44, 3) := by decide +kernel
theorem dX6_blank_7 : decode cX6_blank 7 = .ok (.istore_n 1, 1) := by decide +kernel
theorem dX6_blank_8 : decode cX6_blank 8 = .ok (.aload_n 0, 1) := by decide +kernel
theorem dX6_blank_9 : decode cX6_blank 9 = .ok (.getfield 12, 3) := by decide +kernel
theorem dX6_blank_12 : decode cX6_blank 12 = .ok (.iconst 0, 1) := by decide +kernel
theorem dX6_blank_13 : decode cX6_blank 13 = .ok (.putfield 44, 3) := by decide +kernel
theorem dX6_blank_16 : decode cX6_blank 16 = .ok (.iload_n 1, 1) := by decide +kernel
theorem dX6_blank_17 : decode cX6_blank 17 = .ok (.ireturn, 1) := by decide +kernel
set_option maxRecDepth 20000 in
theorem ggX6_fault_X2_firstFault : GoodIn wsX6_fault wsX2_firstFault := goodIn_r _ [6, 7, 8, 9, 10, 11, 12, 13, 14, 15, 16, 5, 17, 18, 19, 20, 21, 22, 23, 24, 25, 26, 27, 28, 29, 30, 31, 32, 33, 34, 35, 36, 37, 38, 39, 40, 41, 42, 43, 44, 45, 46, 47, 48, 49, 50, 51, 52, 53, 54, 55, 56, 57, 58, 59, 60, 61, 62, 63, 64, 65, 66, 67, 68, 69, 70, 71, 72, 73, 74, 75, 76, 77, 78, 79, 80, 81, 82, 83, 84, 85, 86, 87, 88, 89, 90, 91, 92, 93, 94, 95, 96, 97, 98, 99, 100, 101, 102, 103, 104, 105, 106, 107, 108, 109, 116, 117, 118] (by decide +kernel) (by decide +kernel)
set_option maxRecDepth 20000 in
theorem gX6_fault_X2_firstFault : GoodIn wsX6_fault (wsV RX6 51 RX2 yX2_firstFault wsX2_firstFault) := goodIn_app (goodIn_of _ (by decide +kernel)) ggX6_fault_X2_firstFault
theorem dX6_fault_0 : decode cX6_fault 0 = .ok (.aload_n 0, 1) := by decide +kernel
theorem dX6_fault_1 : decode cX6_fault 1 = .ok (.getfield 12, 3) := by decide +kernel
theorem dX6_fault_4 : decode cX6_fault 4 = .ok (.invokevirtual 51, 3) := by decide +kernel
theorem dX6_fault_7 : decode cX6_fault 7 = .ok (.ireturn, 1) := by decide +kernel
set_option maxRecDepth 20000 in
theorem ggX6_will_X2_heirsNamed : GoodIn wsX6_will wsX2_heirsNamed := goodIn_r _ [8, 9, 10, 11, 12, 7, 13, 14, 15, 16, 17, 18, 19, 20, 21, 22, 23, 24, 25, 26, 27, 28, 29, 30, 31, 32, 33, 34, 35, 36, 37, 38, 39, 40, 41, 42, 43, 44, 45, 46, 47, 48, 49, 50, 51, 52, 53, 54, 55, 56, 57, 58, 59, 60, 61, 62, 63, 64, 65, 66, 67, 68, 69, 70, 71, 72, 73, 74, 75, 76, 77, 78, 79, 80, 81, 82, 83, 84, 85, 86, 87, 88, 89, 90, 91, 92, 93, 94, 95, 96, 97, 98, 99, 100, 101, 102, 103, 104, 105, 106, 107, 108, 109, 110, 111, 112, 113, 114, 115, 181, 182, 183] (by decide +kernel) (by decide +kernel)
set_option maxRecDepth 20000 in
theorem gX6_will_X2_heirsNamed : GoodIn wsX6_will (wsV RX6 55 RX2 yX2_heirsNamed wsX2_heirsNamed) := goodIn_app (goodIn_of _ (by decide +kernel)) ggX6_will_X2_heirsNamed
set_option maxRecDepth 20000 in
theorem ggX6_will_X1_takeFrom : GoodIn wsX6_will wsX1_takeFrom := goodIn_r _ [120, 121, 122, 123, 124, 125, 126, 7, 127, 14, 15, 16, 17, 18, 19, 20, 24, 25, 26, 27, 28, 29, 30, 31, 32, 33, 34, 35, 36, 37, 38, 39, 40, 41, 42, 43, 44, 45, 46, 47, 48, 49, 50, 51, 52, 53, 54, 55, 56, 57, 58, 59, 60, 61, 62, 63, 64, 65, 66, 67, 68, 69, 70, 71, 72, 73, 74, 75, 76, 77, 78, 79, 80, 81, 82, 83, 84, 85, 86, 87, 88, 89, 90, 91, 92, 93, 94, 95, 96, 97, 98, 99, 100, 101, 102, 103, 104, 105, 106, 107, 108, 109, 110, 111, 112, 113, 114, 115, 128, 129, 130, 131, 132, 133, 134, 135, 136, 137, 138, 139, 140, 141, 142, 143, 144, 145, 146, 147, 148, 149, 150, 151, 152, 153, 119, 154, 155, 156, 157, 158, 159, 160, 161, 162, 163, 164, 165, 166, 167, 168, 169, 170, 171, 172, 173, 174, 184, 185, 186, 187, 188, 189, 190, 191, 192, 193, 194, 195, 181, 182, 183, 196] (by decide +kernel) (by decide +kernel)
set_option maxRecDepth 20000 in
theorem gX6_will_X1_takeFrom : GoodIn wsX6_will (wsV RX6 58 RX1 yX1_takeFrom wsX1_takeFrom) := goodIn_app (goodIn_of _ (by decide +kernel)) ggX6_will_X1_takeFrom
theorem dX6_will_0 : decode cX6_will 0 = .ok (.aload_n 0, 1) := by decide +kernel
theorem dX6_will_1 : decode cX6_will 1 = .ok (.getfield 12, 3) := by decide +kernel
theorem dX6_will_4 : decode cX6_will 4 = .ok (.invokevirtual 55, 3) := by decide +kernel
theorem dX6_will_7 : decode cX6_will 7 = .ok (.istore_n 1, 1) := by decide +kernel
theorem dX6_will_8 : decode cX6_will 8 = .ok (.iload_n 1, 1) := by decide +kernel
theorem dX6_will_9 : decode cX6_will 9 = .ok (.ifCond .ne 6, 3) := by decide +kernel
theorem dX6_will_12 : decode cX6_will 12 = .ok (.bipush (-103), 2) := by decide +kernel
theorem dX6_will_14 : decode cX6_will 14 = .ok (.ireturn, 1) := by decide +kernel
theorem dX6_will_15 : decode cX6_will 15 = .ok (.aload_n 0, 1) := by decide +kernel
theorem dX6_will_16 : decode cX6_will 16 = .ok (.getfield 19, 3) := by decide +kernel
theorem dX6_will_19 : decode cX6_will 19 = .ok (.aload_n 0, 1) := by decide +kernel
theorem dX6_will_20 : decode cX6_will 20 = .ok (.getfield 12, 3) := by decide +kernel
theorem dX6_will_23 : decode cX6_will 23 = .ok (.iload_n 1, 1) := by decide +kernel
theorem dX6_will_24 : decode cX6_will 24 = .ok (.invokevirtual 58, 3) := by decide +kernel
theorem dX6_will_27 : decode cX6_will 27 = .ok (.aload_n 0, 1) := by decide +kernel
theorem dX6_will_28 : decode cX6_will 28 = .ok (.getfield 12, 3) := by decide +kernel
theorem dX6_will_31 : decode cX6_will 31 = .ok (.iconst 0, 1) := by decide +kernel
theorem dX6_will_32 : decode cX6_will 32 = .ok (.putfield 44, 3) := by decide +kernel
theorem dX6_will_35 : decode cX6_will 35 = .ok (.aload_n 0, 1) := by decide +kernel
theorem dX6_will_36 : decode cX6_will 36 = .ok (.dup, 1) := by decide +kernel
theorem dX6_will_37 : decode cX6_will 37 = .ok (.getfield 37, 3) := by decide +kernel
theorem dX6_will_40 : decode cX6_will 40 = .ok (.iconst 1, 1) := by decide +kernel
theorem dX6_will_41 : decode cX6_will 41 = .ok (.iadd, 1) := by decide +kernel
theorem dX6_will_42 : decode cX6_will 42 = .ok (.putfield 37, 3) := by decide +kernel
theorem dX6_will_45 : decode cX6_will 45 = .ok (.iload_n 1, 1) := by decide +kernel
theorem dX6_will_46 : decode cX6_will 46 = .ok (.ireturn, 1) := by decide +kernel
set_option maxRecDepth 20000 in
theorem ggX6_about_X1_knows : GoodIn wsX6_about wsX1_knows := goodIn_r _ [6, 7, 57, 58, 59] (by decide +kernel) (by decide +kernel)
set_option maxRecDepth 20000 in
theorem gX6_about_X1_knows : GoodIn wsX6_about (wsV RX6 62 RX1 yX1_knows wsX1_knows) := goodIn_app (goodIn_of _ (by decide +kernel)) ggX6_about_X1_knows
set_option maxRecDepth 20000 in
theorem ggX6_about_X6_isThing : GoodIn wsX6_about wsX6_isThing := goodIn_r _ [11] (by decide +kernel) (by decide +kernel)
set_option maxRecDepth 20000 in
theorem gX6_about_X6_isThing : GoodIn wsX6_about (va_wsS RX6 66 yX6_isThing wsX6_isThing) := goodIn_app (goodIn_of _ (by decide +kernel)) ggX6_about_X6_isThing
set_option maxRecDepth 20000 in
theorem ggX6_about_X5_at : GoodIn wsX6_about wsX5_at := goodIn_r _ [16, 17, 69] (by decide +kernel) (by decide +kernel)
set_option maxRecDepth 20000 in
theorem gX6_about_X5_at : GoodIn wsX6_about (wsV RX6 76 RX5 yX5_at wsX5_at) := goodIn_app (goodIn_of _ (by decide +kernel)) ggX6_about_X5_at
set_option maxRecDepth 20000 in
theorem ggX6_about_X1_saidBy : GoodIn wsX6_about wsX1_saidBy := goodIn_r _ [21, 22, 23, 24, 25, 26, 27, 28, 29, 30, 13, 14, 15, 16, 17, 31, 32, 5, 33, 57, 58, 59, 60, 61, 62, 63, 64, 65, 66, 67, 68, 70, 69] (by decide +kernel) (by decide +kernel)
set_option maxRecDepth 20000 in
theorem gX6_about_X1_saidBy : GoodIn wsX6_about (wsV RX6 82 RX1 yX1_saidBy wsX1_saidBy) := goodIn_app (goodIn_of _ (by decide +kernel)) ggX6_about_X1_saidBy
set_option maxRecDepth 20000 in
theorem ggX6_about_X3_get : GoodIn wsX6_about wsX3_get := goodIn_r _ [28, 29, 70] (by decide +kernel) (by decide +kernel)
set_option maxRecDepth 20000 in
theorem gX6_about_X3_get : GoodIn wsX6_about (wsV RX6 89 RX3 yX3_get wsX3_get) := goodIn_app (goodIn_of _ (by decide +kernel)) ggX6_about_X3_get
set_option maxRecDepth 20000 in
theorem ggX6_about_X1_thingOf : GoodIn wsX6_about wsX1_thingOf := goodIn_r _ [38, 23, 39, 40, 41, 5, 42, 7, 57, 58, 59, 60, 61, 62, 63, 64, 65, 66, 67, 68] (by decide +kernel) (by decide +kernel)
set_option maxRecDepth 20000 in
theorem gX6_about_X1_thingOf : GoodIn wsX6_about (wsV RX6 95 RX1 yX1_thingOf wsX1_thingOf) := goodIn_app (goodIn_of _ (by decide +kernel)) ggX6_about_X1_thingOf
set_option maxRecDepth 20000 in
theorem ggX6_about_X1_isContent : GoodIn wsX6_about wsX1_isContent := goodIn_r _ [46, 47, 48, 49, 5, 50, 23, 39, 40, 41, 42, 7, 30, 13, 14, 15, 16, 17, 57, 58, 59, 60, 61, 62, 63, 64, 65, 66, 67, 68, 69] (by decide +kernel) (by decide +kernel)
set_option maxRecDepth 20000 in
theorem gX6_about_X1_isContent : GoodIn wsX6_about (wsV RX6 101 RX1 yX1_isContent wsX1_isContent) := goodIn_app (goodIn_of _ (by decide +kernel)) ggX6_about_X1_isContent
theorem dX6_about_0 : decode cX6_about 0 = .ok (.aload_n 0, 1) := by decide +kernel
theorem dX6_about_1 : decode cX6_about 1 = .ok (.getfield 19, 3) := by decide +kernel
theorem dX6_about_4 : decode cX6_about 4 = .ok (.iload_n 1, 1) := by decide +kernel
theorem dX6_about_5 : decode cX6_about 5 = .ok (.invokevirtual 62, 3) := by decide +kernel
theorem dX6_about_8 : decode cX6_about 8 = .ok (.ifCond .ne 6, 3) := by decide +kernel
theorem dX6_about_11 : decode cX6_about 11 = .ok (.bipush (-101), 2) := by decide +kernel
theorem dX6_about_13 : decode cX6_about 13 = .ok (.ireturn, 1) := by decide +kernel
theorem dX6_about_14 : decode cX6_about 14 = .ok (.iload_n 2, 1) := by decide +kernel
theorem dX6_about_15 : decode cX6_about 15 = .ok (.bipush 10, 2) := by decide +kernel
theorem dX6_about_17 : decode cX6_about 17 = .ok (.isub, 1) := by decide +kernel
theorem dX6_about_18 : decode cX6_about 18 = .ok (.invokestatic 66, 3) := by decide +kernel
theorem dX6_about_21 : decode cX6_about 21 = .ok (.ifCond .eq 22, 3) := by decide +kernel
theorem dX6_about_24 : decode cX6_about 24 = .ok (.aload_n 0, 1) := by decide +kernel
theorem dX6_about_25 : decode cX6_about 25 = .ok (.getfield 19, 3) := by decide +kernel
theorem dX6_about_28 : decode cX6_about 28 = .ok (.getfield 69, 3) := by decide +kernel
theorem dX6_about_31 : decode cX6_about 31 = .ok (.getfield 72, 3) := by decide +kernel
theorem dX6_about_34 : decode cX6_about 34 = .ok (.iload_n 1, 1) := by decide +kernel
theorem dX6_about_35 : decode cX6_about 35 = .ok (.iload_n 2, 1) := by decide +kernel
theorem dX6_about_36 : decode cX6_about 36 = .ok (.bipush 10, 2) := by decide +kernel
theorem dX6_about_38 : decode cX6_about 38 = .ok (.isub, 1) := by decide +kernel
theorem dX6_about_39 : decode cX6_about 39 = .ok (.invokevirtual 76, 3) := by decide +kernel
theorem dX6_about_42 : decode cX6_about 42 = .ok (.ireturn, 1) := by decide +kernel
theorem dX6_about_43 : decode cX6_about 43 = .ok (.iload_n 2, 1) := by decide +kernel
theorem dX6_about_44 : decode cX6_about 44 = .ok (.bipush 20, 2) := by decide +kernel
theorem dX6_about_46 : decode cX6_about 46 = .ok (.isub, 1) := by decide +kernel
theorem dX6_about_47 : decode cX6_about 47 = .ok (.invokestatic 66, 3) := by decide +kernel
theorem dX6_about_50 : decode cX6_about 50 = .ok (.ifCond .eq 16, 3) := by decide +kernel
theorem dX6_about_53 : decode cX6_about 53 = .ok (.aload_n 0, 1) := by decide +kernel
theorem dX6_about_54 : decode cX6_about 54 = .ok (.getfield 19, 3) := by decide +kernel
theorem dX6_about_57 : decode cX6_about 57 = .ok (.iload_n 1, 1) := by decide +kernel
theorem dX6_about_58 : decode cX6_about 58 = .ok (.iload_n 2, 1) := by decide +kernel
theorem dX6_about_59 : decode cX6_about 59 = .ok (.bipush 20, 2) := by decide +kernel
theorem dX6_about_61 : decode cX6_about 61 = .ok (.isub, 1) := by decide +kernel
theorem dX6_about_62 : decode cX6_about 62 = .ok (.invokevirtual 82, 3) := by decide +kernel
theorem dX6_about_65 : decode cX6_about 65 = .ok (.ireturn, 1) := by decide +kernel
theorem dX6_about_66 : decode cX6_about 66 = .ok (.iload_n 2, 1) := by decide +kernel
theorem dX6_about_67 : decode cX6_about 67 = .ok (.tableswitch 92 0 3 #[29, 41, 50, 77], 29) := by decide +kernel
theorem dX6_about_96 : decode cX6_about 96 = .ok (.aload_n 0, 1) := by decide +kernel
theorem dX6_about_97 : decode cX6_about 97 = .ok (.getfield 19, 3) := by decide +kernel
theorem dX6_about_100 : decode cX6_about 100 = .ok (.getfield 85, 3) := by decide +kernel
theorem dX6_about_103 : decode cX6_about 103 = .ok (.iload_n 1, 1) := by decide +kernel
theorem dX6_about_104 : decode cX6_about 104 = .ok (.invokevirtual 89, 3) := by decide +kernel
theorem dX6_about_107 : decode cX6_about 107 = .ok (.ireturn, 1) := by decide +kernel
theorem dX6_about_108 : decode cX6_about 108 = .ok (.aload_n 0, 1) := by decide +kernel
theorem dX6_about_109 : decode cX6_about 109 = .ok (.getfield 19, 3) := by decide +kernel
theorem dX6_about_112 : decode cX6_about 112 = .ok (.iload_n 1, 1) := by decide +kernel
theorem dX6_about_113 : decode cX6_about 113 = .ok (.invokevirtual 95, 3) := by decide +kernel
theorem dX6_about_116 : decode cX6_about 116 = .ok (.ireturn, 1) := by decide +kernel
theorem dX6_about_117 : decode cX6_about 117 = .ok (.aload_n 0, 1) := by decide +kernel
theorem dX6_about_118 : decode cX6_about 118 = .ok (.getfield 19, 3) := by decide +kernel
theorem dX6_about_121 : decode cX6_about 121 = .ok (.aload_n 0, 1) := by decide +kernel
theorem dX6_about_122 : decode cX6_about 122 = .ok (.getfield 19, 3) := by decide +kernel
theorem dX6_about_125 : decode cX6_about 125 = .ok (.getfield 69, 3) := by decide +kernel
theorem dX6_about_128 : decode cX6_about 128 = .ok (.getfield 98, 3) := by decide +kernel
theorem dX6_about_131 : decode cX6_about 131 = .ok (.iload_n 1, 1) := by decide +kernel
theorem dX6_about_132 : decode cX6_about 132 = .ok (.invokevirtual 101, 3) := by decide +kernel
theorem dX6_about_135 : decode cX6_about 135 = .ok (.ifCond .eq 7, 3) := by decide +kernel
theorem dX6_about_138 : decode cX6_about 138 = .ok (.iconst 1, 1) := by decide +kernel
theorem dX6_about_139 : decode cX6_about 139 = .ok (.goto 4, 3) := by decide +kernel
theorem dX6_about_142 : decode cX6_about 142 = .ok (.iconst 0, 1) := by decide +kernel
theorem dX6_about_143 : decode cX6_about 143 = .ok (.ireturn, 1) := by decide +kernel
theorem dX6_about_144 : decode cX6_about 144 = .ok (.aload_n 0, 1) := by decide +kernel
theorem dX6_about_145 : decode cX6_about 145 = .ok (.getfield 19, 3) := by decide +kernel
theorem dX6_about_148 : decode cX6_about 148 = .ok (.getfield 69, 3) := by decide +kernel
theorem dX6_about_151 : decode cX6_about 151 = .ok (.getfield 105, 3) := by decide +kernel
theorem dX6_about_154 : decode cX6_about 154 = .ok (.iload_n 1, 1) := by decide +kernel
theorem dX6_about_155 : decode cX6_about 155 = .ok (.invokevirtual 89, 3) := by decide +kernel
theorem dX6_about_158 : decode cX6_about 158 = .ok (.ireturn, 1) := by decide +kernel
theorem dX6_about_159 : decode cX6_about 159 = .ok (.bipush (-102), 2) := by decide +kernel
theorem dX6_about_161 : decode cX6_about 161 = .ok (.ireturn, 1) := by decide +kernel
set_option maxRecDepth 20000 in
theorem ggX6_as_X1_knows : GoodIn wsX6_as wsX1_knows := goodIn_r _ [6, 7, 24, 25, 26] (by decide +kernel) (by decide +kernel)
set_option maxRecDepth 20000 in
theorem gX6_as_X1_knows : GoodIn wsX6_as (wsV RX6 62 RX1 yX1_knows wsX1_knows) := goodIn_app (goodIn_of _ (by decide +kernel)) ggX6_as_X1_knows
set_option maxRecDepth 20000 in
theorem ggX6_as_X3_get : GoodIn wsX6_as wsX3_get := goodIn_r _ [12, 13, 27] (by decide +kernel) (by decide +kernel)
set_option maxRecDepth 20000 in
theorem gX6_as_X3_get : GoodIn wsX6_as (wsV RX6 89 RX3 yX3_get wsX3_get) := goodIn_app (goodIn_of _ (by decide +kernel)) ggX6_as_X3_get
set_option maxRecDepth 20000 in
theorem ggX6_as_X6_isA : GoodIn wsX6_as wsX6_isA := goodIn_r _ [17] (by decide +kernel) (by decide +kernel)
set_option maxRecDepth 20000 in
theorem gX6_as_X6_isA : GoodIn wsX6_as (va_wsS RX6 108 yX6_isA wsX6_isA) := goodIn_app (goodIn_of _ (by decide +kernel)) ggX6_as_X6_isA
theorem dX6_as_0 : decode cX6_as 0 = .ok (.aload_n 0, 1) := by decide +kernel
theorem dX6_as_1 : decode cX6_as 1 = .ok (.getfield 19, 3) := by decide +kernel
theorem dX6_as_4 : decode cX6_as 4 = .ok (.iload_n 1, 1) := by decide +kernel
theorem dX6_as_5 : decode cX6_as 5 = .ok (.invokevirtual 62, 3) := by decide +kernel
theorem dX6_as_8 : decode cX6_as 8 = .ok (.ifCond .ne 6, 3) := by decide +kernel
theorem dX6_as_11 : decode cX6_as 11 = .ok (.bipush (-101), 2) := by decide +kernel
theorem dX6_as_13 : decode cX6_as 13 = .ok (.ireturn, 1) := by decide +kernel
theorem dX6_as_14 : decode cX6_as 14 = .ok (.iload_n 2, 1) := by decide +kernel
theorem dX6_as_15 : decode cX6_as 15 = .ok (.ifCond .lt 8, 3) := by decide +kernel
theorem dX6_as_18 : decode cX6_as 18 = .ok (.iload_n 2, 1) := by decide +kernel
theorem dX6_as_19 : decode cX6_as 19 = .ok (.iconst 5, 1) := by decide +kernel
theorem dX6_as_20 : decode cX6_as 20 = .ok (.if_icmp .lt 6, 3) := by decide +kernel
theorem dX6_as_23 : decode cX6_as 23 = .ok (.bipush (-102), 2) := by decide +kernel
theorem dX6_as_25 : decode cX6_as 25 = .ok (.ireturn, 1) := by decide +kernel
theorem dX6_as_26 : decode cX6_as 26 = .ok (.aload_n 0, 1) := by decide +kernel
theorem dX6_as_27 : decode cX6_as 27 = .ok (.getfield 19, 3) := by decide +kernel
theorem dX6_as_30 : decode cX6_as 30 = .ok (.getfield 85, 3) := by decide +kernel
theorem dX6_as_33 : decode cX6_as 33 = .ok (.iload_n 1, 1) := by decide +kernel
theorem dX6_as_34 : decode cX6_as 34 = .ok (.invokevirtual 89, 3) := by decide +kernel
theorem dX6_as_37 : decode cX6_as 37 = .ok (.iload_n 2, 1) := by decide +kernel
theorem dX6_as_38 : decode cX6_as 38 = .ok (.invokestatic 108, 3) := by decide +kernel
theorem dX6_as_41 : decode cX6_as 41 = .ok (.ifCond .eq 7, 3) := by decide +kernel
theorem dX6_as_44 : decode cX6_as 44 = .ok (.iload_n 1, 1) := by decide +kernel
theorem dX6_as_45 : decode cX6_as 45 = .ok (.goto 4, 3) := by decide +kernel
theorem dX6_as_48 : decode cX6_as 48 = .ok (.iconst (-1), 1) := by decide +kernel
theorem dX6_as_49 : decode cX6_as 49 = .ok (.ireturn, 1) := by decide +kernel
set_option maxRecDepth 20000 in
theorem ggX6_has_X6_isThing : GoodIn wsX6_has wsX6_isThing := goodIn_r _ [5] (by decide +kernel) (by decide +kernel)
set_option maxRecDepth 20000 in
theorem gX6_has_X6_isThing : GoodIn wsX6_has (va_wsS RX6 66 yX6_isThing wsX6_isThing) := goodIn_app (goodIn_of _ (by decide +kernel)) ggX6_has_X6_isThing
set_option maxRecDepth 20000 in
theorem ggX6_has_X1_ownerOf : GoodIn wsX6_has wsX1_ownerOf := goodIn_r _ [10, 11, 12, 13, 14, 9, 15, 16, 17, 18, 19, 20, 27, 28, 29, 30, 31, 32, 33, 34, 35, 36, 37, 38] (by decide +kernel) (by decide +kernel)
set_option maxRecDepth 20000 in
theorem gX6_has_X1_ownerOf : GoodIn wsX6_has (wsV RX6 114 RX1 yX1_ownerOf wsX1_ownerOf) := goodIn_app (goodIn_of _ (by decide +kernel)) ggX6_has_X1_ownerOf
theorem dX6_has_0 : decode cX6_has 0 = .ok (.iload_n 1, 1) := by decide +kernel
theorem dX6_has_1 : decode cX6_has 1 = .ok (.invokestatic 66, 3) := by decide +kernel
theorem dX6_has_4 : decode cX6_has 4 = .ok (.ifCond .eq 13, 3) := by decide +kernel
theorem dX6_has_7 : decode cX6_has 7 = .ok (.aload_n 0, 1) := by decide +kernel
theorem dX6_has_8 : decode cX6_has 8 = .ok (.getfield 19, 3) := by decide +kernel
theorem dX6_has_11 : decode cX6_has 11 = .ok (.getfield 111, 3) := by decide +kernel
theorem dX6_has_14 : decode cX6_has 14 = .ok (.ifCond .ne 6, 3) := by decide +kernel
theorem dX6_has_17 : decode cX6_has 17 = .ok (.bipush (-101), 2) := by decide +kernel
theorem dX6_has_19 : decode cX6_has 19 = .ok (.ireturn, 1) := by decide +kernel
theorem dX6_has_20 : decode cX6_has 20 = .ok (.aload_n 0, 1) := by decide +kernel
theorem dX6_has_21 : decode cX6_has 21 = .ok (.getfield 19, 3) := by decide +kernel
theorem dX6_has_24 : decode cX6_has 24 = .ok (.iload_n 1, 1) := by decide +kernel
theorem dX6_has_25 : decode cX6_has 25 = .ok (.invokevirtual 114, 3) := by decide +kernel
theorem dX6_has_28 : decode cX6_has 28 = .ok (.ireturn, 1) := by decide +kernel
set_option maxRecDepth 20000 in
theorem ggX6_worth_X1_knows : GoodIn wsX6_worth wsX1_knows := goodIn_r _ [6, 7, 28, 29, 30] (by decide +kernel) (by decide +kernel)
set_option maxRecDepth 20000 in
theorem gX6_worth_X1_knows : GoodIn wsX6_worth (wsV RX6 62 RX1 yX1_knows wsX1_knows) := goodIn_app (goodIn_of _ (by decide +kernel)) ggX6_worth_X1_knows
set_option maxRecDepth 20000 in
theorem ggX6_worth_X6_isThing : GoodIn wsX6_worth wsX6_isThing := goodIn_r _ [11] (by decide +kernel) (by decide +kernel)
set_option maxRecDepth 20000 in
theorem gX6_worth_X6_isThing : GoodIn wsX6_worth (va_wsS RX6 66 yX6_isThing wsX6_isThing) := goodIn_app (goodIn_of _ (by decide +kernel)) ggX6_worth_X6_isThing
set_option maxRecDepth 20000 in
theorem ggX6_worth_X5_at : GoodIn wsX6_worth wsX5_at := goodIn_r _ [16, 17, 40] (by decide +kernel) (by decide +kernel)
set_option maxRecDepth 20000 in
theorem gX6_worth_X5_at : GoodIn wsX6_worth (wsV RX6 76 RX5 yX5_at wsX5_at) := goodIn_app (goodIn_of _ (by decide +kernel)) ggX6_worth_X5_at
set_option maxRecDepth 20000 in
theorem ggX6_worth_X5_put : GoodIn wsX6_worth wsX5_put := goodIn_r _ [21, 17, 40] (by decide +kernel) (by decide +kernel)
set_option maxRecDepth 20000 in
theorem gX6_worth_X5_put : GoodIn wsX6_worth (wsV RX6 117 RX5 yX5_put wsX5_put) := goodIn_app (goodIn_of _ (by decide +kernel)) ggX6_worth_X5_put
theorem dX6_worth_0 : decode cX6_worth 0 = .ok (.aload_n 0, 1) := by decide +kernel
theorem dX6_worth_1 : decode cX6_worth 1 = .ok (.getfield 19, 3) := by decide +kernel
theorem dX6_worth_4 : decode cX6_worth 4 = .ok (.iload_n 1, 1) := by decide +kernel
theorem dX6_worth_5 : decode cX6_worth 5 = .ok (.invokevirtual 62, 3) := by decide +kernel
theorem dX6_worth_8 : decode cX6_worth 8 = .ok (.ifCond .eq 10, 3) := by decide +kernel
theorem dX6_worth_11 : decode cX6_worth 11 = .ok (.iload_n 2, 1) := by decide +kernel
theorem dX6_worth_12 : decode cX6_worth 12 = .ok (.invokestatic 66, 3) := by decide +kernel
theorem dX6_worth_15 : decode cX6_worth 15 = .ok (.ifCond .ne 6, 3) := by decide +kernel
theorem dX6_worth_18 : decode cX6_worth 18 = .ok (.bipush (-101), 2) := by decide +kernel
theorem dX6_worth_20 : decode cX6_worth 20 = .ok (.ireturn, 1) := by decide +kernel
theorem dX6_worth_21 : decode cX6_worth 21 = .ok (.iload_n 3, 1) := by decide +kernel
theorem dX6_worth_22 : decode cX6_worth 22 = .ok (.ifCond .lt 9, 3) := by decide +kernel
theorem dX6_worth_25 : decode cX6_worth 25 = .ok (.iload_n 3, 1) := by decide +kernel
theorem dX6_worth_26 : decode cX6_worth 26 = .ok (.bipush 9, 2) := by decide +kernel
theorem dX6_worth_28 : decode cX6_worth 28 = .ok (.if_icmp .le 6, 3) := by decide +kernel
theorem dX6_worth_31 : decode cX6_worth 31 = .ok (.bipush (-102), 2) := by decide +kernel
theorem dX6_worth_33 : decode cX6_worth 33 = .ok (.ireturn, 1) := by decide +kernel
theorem dX6_worth_34 : decode cX6_worth 34 = .ok (.aload_n 0, 1) := by decide +kernel
theorem dX6_worth_35 : decode cX6_worth 35 = .ok (.getfield 19, 3) := by decide +kernel
theorem dX6_worth_38 : decode cX6_worth 38 = .ok (.getfield 69, 3) := by decide +kernel
theorem dX6_worth_41 : decode cX6_worth 41 = .ok (.getfield 72, 3) := by decide +kernel
theorem dX6_worth_44 : decode cX6_worth 44 = .ok (.iload_n 1, 1) := by decide +kernel
theorem dX6_worth_45 : decode cX6_worth 45 = .ok (.iload_n 2, 1) := by decide +kernel
theorem dX6_worth_46 : decode cX6_worth 46 = .ok (.invokevirtual 76, 3) := by decide +kernel
theorem dX6_worth_49 : decode cX6_worth 49 = .ok (.istore 4, 2) := by decide +kernel
theorem dX6_worth_51 : decode cX6_worth 51 = .ok (.aload_n 0, 1) := by decide +kernel
theorem dX6_worth_52 : decode cX6_worth 52 = .ok (.getfield 19, 3) := by decide +kernel
theorem dX6_worth_55 : decode cX6_worth 55 = .ok (.getfield 69, 3) := by decide +kernel
theorem dX6_worth_58 : decode cX6_worth 58 = .ok (.getfield 72, 3) := by decide +kernel
theorem dX6_worth_61 : decode cX6_worth 61 = .ok (.iload_n 1, 1) := by decide +kernel
theorem dX6_worth_62 : decode cX6_worth 62 = .ok (.iload_n 2, 1) := by decide +kernel
theorem dX6_worth_63 : decode cX6_worth 63 = .ok (.iload_n 3, 1) := by decide +kernel
theorem dX6_worth_64 : decode cX6_worth 64 = .ok (.invokevirtual 117, 3) := by decide +kernel
theorem dX6_worth_67 : decode cX6_worth 67 = .ok (.iload 4, 2) := by decide +kernel
theorem dX6_worth_69 : decode cX6_worth 69 = .ok (.ireturn, 1) := by decide +kernel
set_option maxRecDepth 20000 in
theorem ggX6_deal_X1_dealt : GoodIn wsX6_deal wsX1_dealt := goodIn_r _ [6, 7, 8, 9, 10, 5, 11, 12, 13, 14, 15, 16, 17, 18, 19, 20, 21, 22, 23, 24, 25, 26, 27, 28, 29, 30, 31, 32, 33, 34, 35, 36, 51, 52, 53, 54, 55, 56, 57, 58, 59, 60, 61, 62, 63, 64] (by decide +kernel) (by decide +kernel)
set_option maxRecDepth 20000 in
theorem gX6_deal_X1_dealt : GoodIn wsX6_deal (wsV RX6 121 RX1 yX1_dealt wsX1_dealt) := goodIn_app (goodIn_of _ (by decide +kernel)) ggX6_deal_X1_dealt
set_option maxRecDepth 20000 in
theorem ggX6_deal_X1_unlikeIn : GoodIn wsX6_deal wsX1_unlikeIn := goodIn_r _ [40, 7, 41, 42, 43, 5, 44, 51, 52, 53] (by decide +kernel) (by decide +kernel)
set_option maxRecDepth 20000 in
theorem gX6_deal_X1_unlikeIn : GoodIn wsX6_deal (wsV RX6 124 RX1 yX1_unlikeIn wsX1_unlikeIn) := goodIn_app (goodIn_of _ (by decide +kernel)) ggX6_deal_X1_unlikeIn
theorem dX6_deal_0 : decode cX6_deal 0 = .ok (.aload_n 0, 1) := by decide +kernel
theorem dX6_deal_1 : decode cX6_deal 1 = .ok (.getfield 19, 3) := by decide +kernel
theorem dX6_deal_4 : decode cX6_deal 4 = .ok (.getfield 111, 3) := by decide +kernel
theorem dX6_deal_7 : decode cX6_deal 7 = .ok (.ifCond .ne 6, 3) := by decide +kernel
theorem dX6_deal_10 : decode cX6_deal 10 = .ok (.bipush (-103), 2) := by decide +kernel
theorem dX6_deal_12 : decode cX6_deal 12 = .ok (.ireturn, 1) := by decide +kernel
theorem dX6_deal_13 : decode cX6_deal 13 = .ok (.aload_n 0, 1) := by decide +kernel
theorem dX6_deal_14 : decode cX6_deal 14 = .ok (.getfield 19, 3) := by decide +kernel
theorem dX6_deal_17 : decode cX6_deal 17 = .ok (.getfield 69, 3) := by decide +kernel
theorem dX6_deal_20 : decode cX6_deal 20 = .ok (.getfield 98, 3) := by decide +kernel
theorem dX6_deal_23 : decode cX6_deal 23 = .ok (.istore_n 1, 1) := by decide +kernel
theorem dX6_deal_24 : decode cX6_deal 24 = .ok (.aload_n 0, 1) := by decide +kernel
theorem dX6_deal_25 : decode cX6_deal 25 = .ok (.getfield 19, 3) := by decide +kernel
theorem dX6_deal_28 : decode cX6_deal 28 = .ok (.getfield 69, 3) := by decide +kernel
theorem dX6_deal_31 : decode cX6_deal 31 = .ok (.aload_n 0, 1) := by decide +kernel
theorem dX6_deal_32 : decode cX6_deal 32 = .ok (.getfield 19, 3) := by decide +kernel
theorem dX6_deal_35 : decode cX6_deal 35 = .ok (.invokevirtual 121, 3) := by decide +kernel
theorem dX6_deal_38 : decode cX6_deal 38 = .ok (.putfield 98, 3) := by decide +kernel
theorem dX6_deal_41 : decode cX6_deal 41 = .ok (.aload_n 0, 1) := by decide +kernel
theorem dX6_deal_42 : decode cX6_deal 42 = .ok (.getfield 19, 3) := by decide +kernel
theorem dX6_deal_45 : decode cX6_deal 45 = .ok (.iload_n 1, 1) := by decide +kernel
theorem dX6_deal_46 : decode cX6_deal 46 = .ok (.aload_n 0, 1) := by decide +kernel
theorem dX6_deal_47 : decode cX6_deal 47 = .ok (.getfield 19, 3) := by decide +kernel
theorem dX6_deal_50 : decode cX6_deal 50 = .ok (.getfield 69, 3) := by decide +kernel
theorem dX6_deal_53 : decode cX6_deal 53 = .ok (.getfield 98, 3) := by decide +kernel
theorem dX6_deal_56 : decode cX6_deal 56 = .ok (.invokevirtual 124, 3) := by decide +kernel
theorem dX6_deal_59 : decode cX6_deal 59 = .ok (.ireturn, 1) := by decide +kernel
set_option maxRecDepth 20000 in
theorem ggX6_may_X6_areTwo : GoodIn wsX6_may wsX6_areTwo := goodIn_r _ [6, 1, 7, 8, 9, 10, 11, 12, 42, 43, 44, 45, 46, 47, 48, 49, 50] (by decide +kernel) (by decide +kernel)
set_option maxRecDepth 20000 in
theorem gX6_may_X6_areTwo : GoodIn wsX6_may (wsV RX6 127 RX6 yX6_areTwo wsX6_areTwo) := goodIn_app (goodIn_of _ (by decide +kernel)) ggX6_may_X6_areTwo
set_option maxRecDepth 20000 in
theorem ggX6_may_X1_mayIn : GoodIn wsX6_may wsX1_mayIn := goodIn_r _ [16, 17, 18, 19, 20, 10, 21, 12, 22, 23, 24, 25, 26, 27, 28, 29, 30, 31, 32, 33, 34, 35, 36, 37, 38, 39, 40, 41, 48, 49, 50, 51, 52, 53, 54, 55, 56, 57, 58, 59, 60, 61] (by decide +kernel) (by decide +kernel)
set_option maxRecDepth 20000 in
theorem gX6_may_X1_mayIn : GoodIn wsX6_may (wsV RX6 130 RX1 yX1_mayIn wsX1_mayIn) := goodIn_app (goodIn_of _ (by decide +kernel)) ggX6_may_X1_mayIn
theorem dX6_may_0 : decode cX6_may 0 = .ok (.aload_n 0, 1) := by decide +kernel
theorem dX6_may_1 : decode cX6_may 1 = .ok (.iload_n 1, 1) := by decide +kernel
theorem dX6_may_2 : decode cX6_may 2 = .ok (.iload_n 2, 1) := by decide +kernel
theorem dX6_may_3 : decode cX6_may 3 = .ok (.invokevirtual 127, 3) := by decide +kernel
theorem dX6_may_6 : decode cX6_may 6 = .ok (.ifCond .ne 6, 3) := by decide +kernel
theorem dX6_may_9 : decode cX6_may 9 = .ok (.bipush (-101), 2) := by decide +kernel
theorem dX6_may_11 : decode cX6_may 11 = .ok (.ireturn, 1) := by decide +kernel
theorem dX6_may_12 : decode cX6_may 12 = .ok (.aload_n 0, 1) := by decide +kernel
theorem dX6_may_13 : decode cX6_may 13 = .ok (.getfield 19, 3) := by decide +kernel
theorem dX6_may_16 : decode cX6_may 16 = .ok (.aload_n 0, 1) := by decide +kernel
theorem dX6_may_17 : decode cX6_may 17 = .ok (.getfield 19, 3) := by decide +kernel
theorem dX6_may_20 : decode cX6_may 20 = .ok (.getfield 69, 3) := by decide +kernel
theorem dX6_may_23 : decode cX6_may 23 = .ok (.getfield 98, 3) := by decide +kernel
theorem dX6_may_26 : decode cX6_may 26 = .ok (.iload_n 1, 1) := by decide +kernel
theorem dX6_may_27 : decode cX6_may 27 = .ok (.iload_n 2, 1) := by decide +kernel
theorem dX6_may_28 : decode cX6_may 28 = .ok (.invokevirtual 130, 3) := by decide +kernel
theorem dX6_may_31 : decode cX6_may 31 = .ok (.ireturn, 1) := by decide +kernel
set_option maxRecDepth 20000 in
theorem ggX6_change_X6_areTwo : GoodIn wsX6_change wsX6_areTwo := goodIn_r _ [6, 1, 7, 8, 9, 10, 11, 12, 62, 63, 64, 65, 66, 67, 68, 69, 70] (by decide +kernel) (by decide +kernel)
set_option maxRecDepth 20000 in
theorem gX6_change_X6_areTwo : GoodIn wsX6_change (wsV RX6 127 RX6 yX6_areTwo wsX6_areTwo) := goodIn_app (goodIn_of _ (by decide +kernel)) ggX6_change_X6_areTwo
set_option maxRecDepth 20000 in
theorem ggX6_change_X1_mayIn : GoodIn wsX6_change wsX1_mayIn := goodIn_r _ [16, 17, 18, 19, 20, 10, 21, 12, 22, 23, 24, 25, 26, 27, 28, 29, 30, 31, 32, 33, 34, 35, 36, 37, 38, 39, 40, 41, 68, 69, 70, 71, 72, 73, 74, 75, 76, 77, 78, 79, 80, 81] (by decide +kernel) (by decide +kernel)
set_option maxRecDepth 20000 in
theorem gX6_change_X1_mayIn : GoodIn wsX6_change (wsV RX6 130 RX1 yX1_mayIn wsX1_mayIn) := goodIn_app (goodIn_of _ (by decide +kernel)) ggX6_change_X1_mayIn
set_option maxRecDepth 20000 in
theorem ggX6_change_X1_changed : GoodIn wsX6_change wsX1_changed := goodIn_r _ [45, 18, 19, 20, 10, 21, 12, 46, 47, 48, 49, 68, 69, 70] (by decide +kernel) (by decide +kernel)
set_option maxRecDepth 20000 in
theorem gX6_change_X1_changed : GoodIn wsX6_change (wsV RX6 134 RX1 yX1_changed wsX1_changed) := goodIn_app (goodIn_of _ (by decide +kernel)) ggX6_change_X1_changed
set_option maxRecDepth 20000 in
theorem ggX6_change_X4_noteChange : GoodIn wsX6_change wsX4_noteChange := goodIn_r _ [54, 55, 56, 57, 28, 29, 30, 31, 32, 58, 59, 60, 61, 71, 72, 73, 74, 75, 76, 77, 78, 79, 80] (by decide +kernel) (by decide +kernel)
set_option maxRecDepth 20000 in
theorem gX6_change_X4_noteChange : GoodIn wsX6_change (wsV RX6 137 RX4 yX4_noteChange wsX4_noteChange) := goodIn_app (goodIn_of _ (by decide +kernel)) ggX6_change_X4_noteChange
theorem dX6_change_0 : decode cX6_change 0 = .ok (.aload_n 0, 1) := by decide +kernel
theorem dX6_change_1 : decode cX6_change 1 = .ok (.iload_n 1, 1) := by decide +kernel
theorem dX6_change_2 : decode cX6_change 2 = .ok (.iload_n 2, 1) := by decide +kernel
theorem dX6_change_3 : decode cX6_change 3 = .ok (.invokevirtual 127, 3) := by decide +kernel
theorem dX6_change_6 : decode cX6_change 6 = .ok (.ifCond .ne 6, 3) := by decide +kernel
theorem dX6_change_9 : decode cX6_change 9 = .ok (.bipush (-101), 2) := by decide +kernel
theorem dX6_change_11 : decode cX6_change 11 = .ok (.ireturn, 1) := by decide +kernel
theorem dX6_change_12 : decode cX6_change 12 = .ok (.aload_n 0, 1) := by decide +kernel
theorem dX6_change_13 : decode cX6_change 13 = .ok (.getfield 19, 3) := by decide +kernel
theorem dX6_change_16 : decode cX6_change 16 = .ok (.aload_n 0, 1) := by decide +kernel
theorem dX6_change_17 : decode cX6_change 17 = .ok (.getfield 19, 3) := by decide +kernel
theorem dX6_change_20 : decode cX6_change 20 = .ok (.getfield 69, 3) := by decide +kernel
theorem dX6_change_23 : decode cX6_change 23 = .ok (.getfield 98, 3) := by decide +kernel
theorem dX6_change_26 : decode cX6_change 26 = .ok (.iload_n 1, 1) := by decide +kernel
theorem dX6_change_27 : decode cX6_change 27 = .ok (.iload_n 2, 1) := by decide +kernel
theorem dX6_change_28 : decode cX6_change 28 = .ok (.invokevirtual 130, 3) := by decide +kernel
theorem dX6_change_31 : decode cX6_change 31 = .ok (.iconst 2, 1) := by decide +kernel
theorem dX6_change_32 : decode cX6_change 32 = .ok (.if_icmp .ge 6, 3) := by decide +kernel
theorem dX6_change_35 : decode cX6_change 35 = .ok (.bipush (-103), 2) := by decide +kernel
theorem dX6_change_37 : decode cX6_change 37 = .ok (.ireturn, 1) := by decide +kernel
theorem dX6_change_38 : decode cX6_change 38 = .ok (.aload_n 0, 1) := by decide +kernel
theorem dX6_change_39 : decode cX6_change 39 = .ok (.getfield 19, 3) := by decide +kernel
theorem dX6_change_42 : decode cX6_change 42 = .ok (.getfield 69, 3) := by decide +kernel
theorem dX6_change_45 : decode cX6_change 45 = .ok (.aload_n 0, 1) := by decide +kernel
theorem dX6_change_46 : decode cX6_change 46 = .ok (.getfield 19, 3) := by decide +kernel
theorem dX6_change_49 : decode cX6_change 49 = .ok (.aload_n 0, 1) := by decide +kernel
theorem dX6_change_50 : decode cX6_change 50 = .ok (.getfield 19, 3) := by decide +kernel
theorem dX6_change_53 : decode cX6_change 53 = .ok (.getfield 69, 3) := by decide +kernel
theorem dX6_change_56 : decode cX6_change 56 = .ok (.getfield 98, 3) := by decide +kernel
theorem dX6_change_59 : decode cX6_change 59 = .ok (.iload_n 1, 1) := by decide +kernel
theorem dX6_change_60 : decode cX6_change 60 = .ok (.iload_n 2, 1) := by decide +kernel
theorem dX6_change_61 : decode cX6_change 61 = .ok (.invokevirtual 134, 3) := by decide +kernel
theorem dX6_change_64 : decode cX6_change 64 = .ok (.putfield 98, 3) := by decide +kernel
theorem dX6_change_67 : decode cX6_change 67 = .ok (.aload_n 0, 1) := by decide +kernel
theorem dX6_change_68 : decode cX6_change 68 = .ok (.getfield 19, 3) := by decide +kernel
theorem dX6_change_71 : decode cX6_change 71 = .ok (.getfield 69, 3) := by decide +kernel
theorem dX6_change_74 : decode cX6_change 74 = .ok (.iload_n 1, 1) := by decide +kernel
theorem dX6_change_75 : decode cX6_change 75 = .ok (.iload_n 2, 1) := by decide +kernel
theorem dX6_change_76 : decode cX6_change 76 = .ok (.invokevirtual 137, 3) := by decide +kernel
theorem dX6_change_79 : decode cX6_change 79 = .ok (.aload_n 0, 1) := by decide +kernel
theorem dX6_change_80 : decode cX6_change 80 = .ok (.getfield 19, 3) := by decide +kernel
theorem dX6_change_83 : decode cX6_change 83 = .ok (.getfield 69, 3) := by decide +kernel
theorem dX6_change_86 : decode cX6_change 86 = .ok (.getfield 141, 3) := by decide +kernel
theorem dX6_change_89 : decode cX6_change 89 = .ok (.ireturn, 1) := by decide +kernel
set_option maxRecDepth 20000 in
theorem ggX6_ends_X0_seek : GoodIn wsX6_ends wsX0_seek := goodIn_r _ [7, 8, 9, 10, 11, 12, 13, 14, 6, 15, 16, 17, 18, 19, 20, 21, 22, 23, 24, 25, 26, 27, 28, 29, 30, 31, 32, 33, 34, 35, 36, 37, 38, 39, 40, 41, 42, 43, 44, 45, 46, 47, 48, 49, 50, 51, 52, 53, 54, 55, 56, 57, 58, 59, 60, 61, 62, 63, 64, 65, 66, 67, 68, 69, 70, 71, 72, 73, 74, 75, 76, 77, 78, 79, 80, 81, 82, 83, 84, 85, 95, 96, 97, 98, 99, 100, 101, 92, 93, 94, 102, 103, 104, 105, 106, 107, 108, 109, 110, 111, 112] (by decide +kernel) (by decide +kernel)
set_option maxRecDepth 20000 in
theorem gX6_ends_X0_seek : GoodIn wsX6_ends (wsV RX6 144 RX0 yX0_seek wsX0_seek) := goodIn_app (goodIn_of _ (by decide +kernel)) ggX6_ends_X0_seek
theorem dX6_ends_0 : decode cX6_ends 0 = .ok (.iload_n 1, 1) := by decide +kernel
theorem dX6_ends_1 : decode cX6_ends 1 = .ok (.ifCond .lt 8, 3) := by decide +kernel
theorem dX6_ends_4 : decode cX6_ends 4 = .ok (.iload_n 1, 1) := by decide +kernel
theorem dX6_ends_5 : decode cX6_ends 5 = .ok (.iconst 3, 1) := by decide +kernel
theorem dX6_ends_6 : decode cX6_ends 6 = .ok (.if_icmp .le 6, 3) := by decide +kernel
theorem dX6_ends_9 : decode cX6_ends 9 = .ok (.bipush (-102), 2) := by decide +kernel
theorem dX6_ends_11 : decode cX6_ends 11 = .ok (.ireturn, 1) := by decide +kernel
theorem dX6_ends_12 : decode cX6_ends 12 = .ok (.aload_n 0, 1) := by decide +kernel
theorem dX6_ends_13 : decode cX6_ends 13 = .ok (.getfield 19, 3) := by decide +kernel
theorem dX6_ends_16 : decode cX6_ends 16 = .ok (.getfield 111, 3) := by decide +kernel
theorem dX6_ends_19 : decode cX6_ends 19 = .ok (.ifCond .ne 6, 3) := by decide +kernel
theorem dX6_ends_22 : decode cX6_ends 22 = .ok (.bipush (-103), 2) := by decide +kernel
theorem dX6_ends_24 : decode cX6_ends 24 = .ok (.ireturn, 1) := by decide +kernel
theorem dX6_ends_25 : decode cX6_ends 25 = .ok (.aload_n 0, 1) := by decide +kernel
theorem dX6_ends_26 : decode cX6_ends 26 = .ok (.getfield 26, 3) := by decide +kernel
theorem dX6_ends_29 : decode cX6_ends 29 = .ok (.aload_n 0, 1) := by decide +kernel
theorem dX6_ends_30 : decode cX6_ends 30 = .ok (.getfield 19, 3) := by decide +kernel
theorem dX6_ends_33 : decode cX6_ends 33 = .ok (.invokevirtual 144, 3) := by decide +kernel
theorem dX6_ends_36 : decode cX6_ends 36 = .ok (.iload_n 1, 1) := by decide +kernel
theorem dX6_ends_37 : decode cX6_ends 37 = .ok (.tableswitch 51 0 2 #[27, 35, 43], 27) := by decide +kernel
theorem dX6_ends_64 : decode cX6_ends 64 = .ok (.aload_n 0, 1) := by decide +kernel
theorem dX6_ends_65 : decode cX6_ends 65 = .ok (.getfield 26, 3) := by decide +kernel
theorem dX6_ends_68 : decode cX6_ends 68 = .ok (.getfield 148, 3) := by decide +kernel
theorem dX6_ends_71 : decode cX6_ends 71 = .ok (.ireturn, 1) := by decide +kernel
theorem dX6_ends_72 : decode cX6_ends 72 = .ok (.aload_n 0, 1) := by decide +kernel
theorem dX6_ends_73 : decode cX6_ends 73 = .ok (.getfield 26, 3) := by decide +kernel
theorem dX6_ends_76 : decode cX6_ends 76 = .ok (.getfield 151, 3) := by decide +kernel
theorem dX6_ends_79 : decode cX6_ends 79 = .ok (.ireturn, 1) := by decide +kernel
theorem dX6_ends_80 : decode cX6_ends 80 = .ok (.aload_n 0, 1) := by decide +kernel
theorem dX6_ends_81 : decode cX6_ends 81 = .ok (.getfield 26, 3) := by decide +kernel
theorem dX6_ends_84 : decode cX6_ends 84 = .ok (.getfield 154, 3) := by decide +kernel
theorem dX6_ends_87 : decode cX6_ends 87 = .ok (.ireturn, 1) := by decide +kernel
theorem dX6_ends_88 : decode cX6_ends 88 = .ok (.aload_n 0, 1) := by decide +kernel
theorem dX6_ends_89 : decode cX6_ends 89 = .ok (.getfield 26, 3) := by decide +kernel
theorem dX6_ends_92 : decode cX6_ends 92 = .ok (.getfield 157, 3) := by decide +kernel
theorem dX6_ends_95 : decode cX6_ends 95 = .ok (.ireturn, 1) := by decide +kernel
set_option maxRecDepth 20000 in
theorem ggX6_served_X1_knows : GoodIn wsX6_served wsX1_knows := goodIn_r _ [6, 7, 60, 61, 62] (by decide +kernel) (by decide +kernel)
set_option maxRecDepth 20000 in
theorem gX6_served_X1_knows : GoodIn wsX6_served (wsV RX6 62 RX1 yX1_knows wsX1_knows) := goodIn_app (goodIn_of _ (by decide +kernel)) ggX6_served_X1_knows
set_option maxRecDepth 20000 in
theorem ggX6_served_X3_get : GoodIn wsX6_served wsX3_get := goodIn_r _ [12, 13, 63] (by decide +kernel) (by decide +kernel)
set_option maxRecDepth 20000 in
theorem gX6_served_X3_get : GoodIn wsX6_served (wsV RX6 89 RX3 yX3_get wsX3_get) := goodIn_app (goodIn_of _ (by decide +kernel)) ggX6_served_X3_get
set_option maxRecDepth 20000 in
theorem ggX6_served_X3_set : GoodIn wsX6_served wsX3_set := goodIn_r _ [17, 13, 63] (by decide +kernel) (by decide +kernel)
set_option maxRecDepth 20000 in
theorem gX6_served_X3_set : GoodIn wsX6_served (wsV RX6 160 RX3 yX3_set wsX3_set) := goodIn_app (goodIn_of _ (by decide +kernel)) ggX6_served_X3_set
set_option maxRecDepth 20000 in
theorem ggX6_served_X1_dealt : GoodIn wsX6_served wsX1_dealt := goodIn_r _ [21, 7, 22, 23, 24, 5, 25, 26, 27, 28, 29, 30, 31, 32, 9, 10, 11, 12, 13, 33, 34, 35, 36, 37, 38, 39, 40, 41, 42, 43, 44, 45, 60, 61, 62, 64, 65, 66, 67, 68, 69, 70, 71, 72, 63, 73] (by decide +kernel) (by decide +kernel)
set_option maxRecDepth 20000 in
theorem gX6_served_X1_dealt : GoodIn wsX6_served (wsV RX6 121 RX1 yX1_dealt wsX1_dealt) := goodIn_app (goodIn_of _ (by decide +kernel)) ggX6_served_X1_dealt
set_option maxRecDepth 20000 in
theorem ggX6_served_X1_worthIn : GoodIn wsX6_served wsX1_worthIn := goodIn_r _ [49, 31, 50, 51, 52, 5, 53, 7, 33, 34, 35, 36, 37, 38, 60, 61, 62, 64, 65, 66, 67, 68, 69, 70, 71, 72, 73] (by decide +kernel) (by decide +kernel)
set_option maxRecDepth 20000 in
theorem gX6_served_X1_worthIn : GoodIn wsX6_served (wsV RX6 163 RX1 yX1_worthIn wsX1_worthIn) := goodIn_app (goodIn_of _ (by decide +kernel)) ggX6_served_X1_worthIn
theorem dX6_served_0 : decode cX6_served 0 = .ok (.aload_n 0, 1) := by decide +kernel
theorem dX6_served_1 : decode cX6_served 1 = .ok (.getfield 19, 3) := by decide +kernel
theorem dX6_served_4 : decode cX6_served 4 = .ok (.iload_n 1, 1) := by decide +kernel
theorem dX6_served_5 : decode cX6_served 5 = .ok (.invokevirtual 62, 3) := by decide +kernel
theorem dX6_served_8 : decode cX6_served 8 = .ok (.ifCond .ne 6, 3) := by decide +kernel
theorem dX6_served_11 : decode cX6_served 11 = .ok (.bipush (-101), 2) := by decide +kernel
theorem dX6_served_13 : decode cX6_served 13 = .ok (.ireturn, 1) := by decide +kernel
theorem dX6_served_14 : decode cX6_served 14 = .ok (.iload_n 2, 1) := by decide +kernel
theorem dX6_served_15 : decode cX6_served 15 = .ok (.ifCond .lt 8, 3) := by decide +kernel
theorem dX6_served_18 : decode cX6_served 18 = .ok (.iload_n 2, 1) := by decide +kernel
theorem dX6_served_19 : decode cX6_served 19 = .ok (.iconst 1, 1) := by decide +kernel
theorem dX6_served_20 : decode cX6_served 20 = .ok (.if_icmp .le 6, 3) := by decide +kernel
theorem dX6_served_23 : decode cX6_served 23 = .ok (.bipush (-102), 2) := by decide +kernel
theorem dX6_served_25 : decode cX6_served 25 = .ok (.ireturn, 1) := by decide +kernel
theorem dX6_served_26 : decode cX6_served 26 = .ok (.aload_n 0, 1) := by decide +kernel
theorem dX6_served_27 : decode cX6_served 27 = .ok (.getfield 19, 3) := by decide +kernel
theorem dX6_served_30 : decode cX6_served 30 = .ok (.getfield 85, 3) := by decide +kernel
theorem dX6_served_33 : decode cX6_served 33 = .ok (.iload_n 1, 1) := by decide +kernel
theorem dX6_served_34 : decode cX6_served 34 = .ok (.invokevirtual 89, 3) := by decide +kernel
theorem dX6_served_37 : decode cX6_served 37 = .ok (.istore_n 3, 1) := by decide +kernel
theorem dX6_served_38 : decode cX6_served 38 = .ok (.iconst (-1), 1) := by decide +kernel
theorem dX6_served_39 : decode cX6_served 39 = .ok (.istore 4, 2) := by decide +kernel
theorem dX6_served_41 : decode cX6_served 41 = .ok (.iconst (-1), 1) := by decide +kernel
theorem dX6_served_42 : decode cX6_served 42 = .ok (.istore 5, 2) := by decide +kernel
theorem dX6_served_44 : decode cX6_served 44 = .ok (.iconst 0, 1) := by decide +kernel
theorem dX6_served_45 : decode cX6_served 45 = .ok (.istore 6, 2) := by decide +kernel
theorem dX6_served_47 : decode cX6_served 47 = .ok (.iload 6, 2) := by decide +kernel
theorem dX6_served_49 : decode cX6_served 49 = .ok (.iconst 5, 1) := by decide +kernel
theorem dX6_served_50 : decode cX6_served 50 = .ok (.if_icmp .ge 54, 3) := by decide +kernel
theorem dX6_served_53 : decode cX6_served 53 = .ok (.aload_n 0, 1) := by decide +kernel
theorem dX6_served_54 : decode cX6_served 54 = .ok (.getfield 19, 3) := by decide +kernel
theorem dX6_served_57 : decode cX6_served 57 = .ok (.getfield 85, 3) := by decide +kernel
theorem dX6_served_60 : decode cX6_served 60 = .ok (.iload_n 1, 1) := by decide +kernel
theorem dX6_served_61 : decode cX6_served 61 = .ok (.iload 6, 2) := by decide +kernel
theorem dX6_served_63 : decode cX6_served 63 = .ok (.invokevirtual 160, 3) := by decide +kernel
theorem dX6_served_66 : decode cX6_served 66 = .ok (.aload_n 0, 1) := by decide +kernel
theorem dX6_served_67 : decode cX6_served 67 = .ok (.getfield 19, 3) := by decide +kernel
theorem dX6_served_70 : decode cX6_served 70 = .ok (.aload_n 0, 1) := by decide +kernel
theorem dX6_served_71 : decode cX6_served 71 = .ok (.getfield 19, 3) := by decide +kernel
theorem dX6_served_74 : decode cX6_served 74 = .ok (.invokevirtual 121, 3) := by decide +kernel
theorem dX6_served_77 : decode cX6_served 77 = .ok (.iload_n 1, 1) := by decide +kernel
theorem dX6_served_78 : decode cX6_served 78 = .ok (.invokevirtual 163, 3) := by decide +kernel
theorem dX6_served_81 : decode cX6_served 81 = .ok (.istore 7, 2) := by decide +kernel
theorem dX6_served_83 : decode cX6_served 83 = .ok (.iload 7, 2) := by decide +kernel
theorem dX6_served_85 : decode cX6_served 85 = .ok (.iload 5, 2) := by decide +kernel
theorem dX6_served_87 : decode cX6_served 87 = .ok (.if_icmp .le 11, 3) := by decide +kernel
theorem dX6_served_90 : decode cX6_served 90 = .ok (.iload 6, 2) := by decide +kernel
theorem dX6_served_92 : decode cX6_served 92 = .ok (.istore 4, 2) := by decide +kernel
theorem dX6_served_94 : decode cX6_served 94 = .ok (.iload 7, 2) := by decide +kernel
theorem dX6_served_96 : decode cX6_served 96 = .ok (.istore 5, 2) := by decide +kernel
theorem dX6_served_98 : decode cX6_served 98 = .ok (.iinc 6 1, 3) := by decide +kernel
theorem dX6_served_101 : decode cX6_served 101 = .ok (.goto (-54), 3) := by decide +kernel
theorem dX6_served_104 : decode cX6_served 104 = .ok (.aload_n 0, 1) := by decide +kernel
theorem dX6_served_105 : decode cX6_served 105 = .ok (.getfield 19, 3) := by decide +kernel
theorem dX6_served_108 : decode cX6_served 108 = .ok (.getfield 85, 3) := by decide +kernel
theorem dX6_served_111 : decode cX6_served 111 = .ok (.iload_n 1, 1) := by decide +kernel
theorem dX6_served_112 : decode cX6_served 112 = .ok (.iload_n 3, 1) := by decide +kernel
theorem dX6_served_113 : decode cX6_served 113 = .ok (.invokevirtual 160, 3) := by decide +kernel
theorem dX6_served_116 : decode cX6_served 116 = .ok (.iload_n 2, 1) := by decide +kernel
theorem dX6_served_117 : decode cX6_served 117 = .ok (.ifCond .ne 8, 3) := by decide +kernel
theorem dX6_served_120 : decode cX6_served 120 = .ok (.iload 4, 2) := by decide +kernel
theorem dX6_served_122 : decode cX6_served 122 = .ok (.goto 5, 3) := by decide +kernel
theorem dX6_served_125 : decode cX6_served 125 = .ok (.iload 5, 2) := by decide +kernel
theorem dX6_served_127 : decode cX6_served 127 = .ok (.ireturn, 1) := by decide +kernel
set_option maxRecDepth 20000 in
theorem ggX6_worst_X1_knows : GoodIn wsX6_worst wsX1_knows := goodIn_r _ [6, 7, 50, 51, 52] (by decide +kernel) (by decide +kernel)
set_option maxRecDepth 20000 in
theorem gX6_worst_X1_knows : GoodIn wsX6_worst (wsV RX6 62 RX1 yX1_knows wsX1_knows) := goodIn_app (goodIn_of _ (by decide +kernel)) ggX6_worst_X1_knows
set_option maxRecDepth 20000 in
theorem ggX6_worst_X1_worstLie : GoodIn wsX6_worst wsX1_worstLie := goodIn_r _ [11, 7, 12, 13, 14, 5, 15, 16, 17, 18, 19, 20, 21, 22, 23, 24, 25, 26, 27, 28, 29, 30, 31, 32, 33, 34, 35, 36, 37, 38, 39, 40, 41, 50, 51, 52, 53, 54, 55, 56, 57, 58, 59, 60, 61, 62] (by decide +kernel) (by decide +kernel)
set_option maxRecDepth 20000 in
theorem gX6_worst_X1_worstLie : GoodIn wsX6_worst (wsV RX6 166 RX1 yX1_worstLie wsX1_worstLie) := goodIn_app (goodIn_of _ (by decide +kernel)) ggX6_worst_X1_worstLie
set_option maxRecDepth 20000 in
theorem ggX6_worst_X1_thingIn : GoodIn wsX6_worst wsX1_thingIn := goodIn_r _ [19, 7, 50, 51, 52] (by decide +kernel) (by decide +kernel)
set_option maxRecDepth 20000 in
theorem gX6_worst_X1_thingIn : GoodIn wsX6_worst (wsV RX6 169 RX1 yX1_thingIn wsX1_thingIn) := goodIn_app (goodIn_of _ (by decide +kernel)) ggX6_worst_X1_thingIn
set_option maxRecDepth 20000 in
theorem ggX6_worst_X1_sumOf : GoodIn wsX6_worst wsX1_sumOf := goodIn_r _ [30, 7, 31, 32, 33, 5, 34, 35, 16, 17, 18, 19, 36, 37, 38, 39, 40, 41, 50, 51, 52, 53, 54, 55, 56, 57, 58, 59, 60, 61, 62] (by decide +kernel) (by decide +kernel)
set_option maxRecDepth 20000 in
theorem gX6_worst_X1_sumOf : GoodIn wsX6_worst (wsV RX6 172 RX1 yX1_sumOf wsX1_sumOf) := goodIn_app (goodIn_of _ (by decide +kernel)) ggX6_worst_X1_sumOf
theorem dX6_worst_0 : decode cX6_worst 0 = .ok (.iload_n 1, 1) := by decide +kernel
theorem dX6_worst_1 : decode cX6_worst 1 = .ok (.bipush 10, 2) := by decide +kernel
theorem dX6_worst_3 : decode cX6_worst 3 = .ok (.isub, 1) := by decide +kernel
theorem dX6_worst_4 : decode cX6_worst 4 = .ok (.istore_n 2, 1) := by decide +kernel
theorem dX6_worst_5 : decode cX6_worst 5 = .ok (.iload_n 2, 1) := by decide +kernel
theorem dX6_worst_6 : decode cX6_worst 6 = .ok (.ifCond .lt 12, 3) := by decide +kernel
theorem dX6_worst_9 : decode cX6_worst 9 = .ok (.iload_n 2, 1) := by decide +kernel
theorem dX6_worst_10 : decode cX6_worst 10 = .ok (.iconst 4, 1) := by decide +kernel
theorem dX6_worst_11 : decode cX6_worst 11 = .ok (.if_icmp .ge 7, 3) := by decide +kernel
theorem dX6_worst_14 : decode cX6_worst 14 = .ok (.iconst 1, 1) := by decide +kernel
theorem dX6_worst_15 : decode cX6_worst 15 = .ok (.goto 4, 3) := by decide +kernel
theorem dX6_worst_18 : decode cX6_worst 18 = .ok (.iconst 0, 1) := by decide +kernel
theorem dX6_worst_19 : decode cX6_worst 19 = .ok (.istore_n 3, 1) := by decide +kernel
theorem dX6_worst_20 : decode cX6_worst 20 = .ok (.iload_n 1, 1) := by decide +kernel
theorem dX6_worst_21 : decode cX6_worst 21 = .ok (.ifCond .eq 10, 3) := by decide +kernel
theorem dX6_worst_24 : decode cX6_worst 24 = .ok (.iload_n 3, 1) := by decide +kernel
theorem dX6_worst_25 : decode cX6_worst 25 = .ok (.ifCond .ne 6, 3) := by decide +kernel
theorem dX6_worst_28 : decode cX6_worst 28 = .ok (.bipush (-102), 2) := by decide +kernel
theorem dX6_worst_30 : decode cX6_worst 30 = .ok (.ireturn, 1) := by decide +kernel
theorem dX6_worst_31 : decode cX6_worst 31 = .ok (.aload_n 0, 1) := by decide +kernel
theorem dX6_worst_32 : decode cX6_worst 32 = .ok (.getfield 19, 3) := by decide +kernel
theorem dX6_worst_35 : decode cX6_worst 35 = .ok (.getfield 111, 3) := by decide +kernel
theorem dX6_worst_38 : decode cX6_worst 38 = .ok (.ifCond .ne 6, 3) := by decide +kernel
theorem dX6_worst_41 : decode cX6_worst 41 = .ok (.bipush (-103), 2) := by decide +kernel
theorem dX6_worst_43 : decode cX6_worst 43 = .ok (.ireturn, 1) := by decide +kernel
theorem dX6_worst_44 : decode cX6_worst 44 = .ok (.iload_n 3, 1) := by decide +kernel
theorem dX6_worst_45 : decode cX6_worst 45 = .ok (.ifCond .eq 16, 3) := by decide +kernel
theorem dX6_worst_48 : decode cX6_worst 48 = .ok (.aload_n 0, 1) := by decide +kernel
theorem dX6_worst_49 : decode cX6_worst 49 = .ok (.getfield 19, 3) := by decide +kernel
theorem dX6_worst_52 : decode cX6_worst 52 = .ok (.iload_n 2, 1) := by decide +kernel
theorem dX6_worst_53 : decode cX6_worst 53 = .ok (.invokevirtual 62, 3) := by decide +kernel
theorem dX6_worst_56 : decode cX6_worst 56 = .ok (.ifCond .ne 5, 3) := by decide +kernel
theorem dX6_worst_59 : decode cX6_worst 59 = .ok (.iconst (-1), 1) := by decide +kernel
theorem dX6_worst_60 : decode cX6_worst 60 = .ok (.ireturn, 1) := by decide +kernel
theorem dX6_worst_61 : decode cX6_worst 61 = .ok (.aload_n 0, 1) := by decide +kernel
theorem dX6_worst_62 : decode cX6_worst 62 = .ok (.getfield 19, 3) := by decide +kernel
theorem dX6_worst_65 : decode cX6_worst 65 = .ok (.invokevirtual 166, 3) := by decide +kernel
theorem dX6_worst_68 : decode cX6_worst 68 = .ok (.istore 4, 2) := by decide +kernel
theorem dX6_worst_70 : decode cX6_worst 70 = .ok (.iload_n 3, 1) := by decide +kernel
theorem dX6_worst_71 : decode cX6_worst 71 = .ok (.ifCond .eq 16, 3) := by decide +kernel
theorem dX6_worst_74 : decode cX6_worst 74 = .ok (.aload_n 0, 1) := by decide +kernel
theorem dX6_worst_75 : decode cX6_worst 75 = .ok (.getfield 19, 3) := by decide +kernel
theorem dX6_worst_78 : decode cX6_worst 78 = .ok (.iload 4, 2) := by decide +kernel
theorem dX6_worst_80 : decode cX6_worst 80 = .ok (.iload_n 2, 1) := by decide +kernel
theorem dX6_worst_81 : decode cX6_worst 81 = .ok (.invokevirtual 169, 3) := by decide +kernel
theorem dX6_worst_84 : decode cX6_worst 84 = .ok (.goto 12, 3) := by decide +kernel
theorem dX6_worst_87 : decode cX6_worst 87 = .ok (.aload_n 0, 1) := by decide +kernel
theorem dX6_worst_88 : decode cX6_worst 88 = .ok (.getfield 19, 3) := by decide +kernel
theorem dX6_worst_91 : decode cX6_worst 91 = .ok (.iload 4, 2) := by decide +kernel
theorem dX6_worst_93 : decode cX6_worst 93 = .ok (.invokevirtual 172, 3) := by decide +kernel
theorem dX6_worst_96 : decode cX6_worst 96 = .ok (.ireturn, 1) := by decide +kernel
set_option maxRecDepth 20000 in
theorem ggX6_hear_X1_knows : GoodIn wsX6_hear wsX1_knows := goodIn_r _ [6, 7, 34, 35, 36] (by decide +kernel) (by decide +kernel)
set_option maxRecDepth 20000 in
theorem gX6_hear_X1_knows : GoodIn wsX6_hear (wsV RX6 62 RX1 yX1_knows wsX1_knows) := goodIn_app (goodIn_of _ (by decide +kernel)) ggX6_hear_X1_knows
set_option maxRecDepth 20000 in
theorem ggX6_hear_X6_isThing : GoodIn wsX6_hear wsX6_isThing := goodIn_r _ [11] (by decide +kernel) (by decide +kernel)
set_option maxRecDepth 20000 in
theorem gX6_hear_X6_isThing : GoodIn wsX6_hear (va_wsS RX6 66 yX6_isThing wsX6_isThing) := goodIn_app (goodIn_of _ (by decide +kernel)) ggX6_hear_X6_isThing
set_option maxRecDepth 20000 in
theorem ggX6_hear_X4_noteHeard : GoodIn wsX6_hear wsX4_noteHeard := goodIn_r _ [16, 17, 18, 19, 20, 21, 22, 23, 24, 25, 26, 27, 37, 38, 39, 40, 41, 42, 43, 44, 45, 46] (by decide +kernel) (by decide +kernel)
set_option maxRecDepth 20000 in
theorem gX6_hear_X4_noteHeard : GoodIn wsX6_hear (wsV RX6 178 RX4 yX4_noteHeard wsX4_noteHeard) := goodIn_app (goodIn_of _ (by decide +kernel)) ggX6_hear_X4_noteHeard
theorem dX6_hear_0 : decode cX6_hear 0 = .ok (.aload_n 0, 1) := by decide +kernel
theorem dX6_hear_1 : decode cX6_hear 1 = .ok (.getfield 19, 3) := by decide +kernel
theorem dX6_hear_4 : decode cX6_hear 4 = .ok (.iload_n 1, 1) := by decide +kernel
theorem dX6_hear_5 : decode cX6_hear 5 = .ok (.invokevirtual 62, 3) := by decide +kernel
theorem dX6_hear_8 : decode cX6_hear 8 = .ok (.ifCond .eq 22, 3) := by decide +kernel
theorem dX6_hear_11 : decode cX6_hear 11 = .ok (.iload_n 2, 1) := by decide +kernel
theorem dX6_hear_12 : decode cX6_hear 12 = .ok (.invokestatic 66, 3) := by decide +kernel
theorem dX6_hear_15 : decode cX6_hear 15 = .ok (.ifCond .eq 15, 3) := by decide +kernel
theorem dX6_hear_18 : decode cX6_hear 18 = .ok (.iload_n 3, 1) := by decide +kernel
theorem dX6_hear_19 : decode cX6_hear 19 = .ok (.invokestatic 66, 3) := by decide +kernel
theorem dX6_hear_22 : decode cX6_hear 22 = .ok (.ifCond .eq 8, 3) := by decide +kernel
theorem dX6_hear_25 : decode cX6_hear 25 = .ok (.iload_n 2, 1) := by decide +kernel
theorem dX6_hear_26 : decode cX6_hear 26 = .ok (.iload_n 3, 1) := by decide +kernel
theorem dX6_hear_27 : decode cX6_hear 27 = .ok (.if_icmp .ne 6, 3) := by decide +kernel
theorem dX6_hear_30 : decode cX6_hear 30 = .ok (.bipush (-101), 2) := by decide +kernel
theorem dX6_hear_32 : decode cX6_hear 32 = .ok (.ireturn, 1) := by decide +kernel
theorem dX6_hear_33 : decode cX6_hear 33 = .ok (.aload_n 0, 1) := by decide +kernel
theorem dX6_hear_34 : decode cX6_hear 34 = .ok (.getfield 19, 3) := by decide +kernel
theorem dX6_hear_37 : decode cX6_hear 37 = .ok (.getfield 69, 3) := by decide +kernel
theorem dX6_hear_40 : decode cX6_hear 40 = .ok (.getfield 175, 3) := by decide +kernel
theorem dX6_hear_43 : decode cX6_hear 43 = .ok (.bipush 6, 2) := by decide +kernel
theorem dX6_hear_45 : decode cX6_hear 45 = .ok (.if_icmp .lt 6, 3) := by decide +kernel
theorem dX6_hear_48 : decode cX6_hear 48 = .ok (.bipush (-104), 2) := by decide +kernel
theorem dX6_hear_50 : decode cX6_hear 50 = .ok (.ireturn, 1) := by decide +kernel
theorem dX6_hear_51 : decode cX6_hear 51 = .ok (.aload_n 0, 1) := by decide +kernel
theorem dX6_hear_52 : decode cX6_hear 52 = .ok (.getfield 19, 3) := by decide +kernel
theorem dX6_hear_55 : decode cX6_hear 55 = .ok (.getfield 69, 3) := by decide +kernel
theorem dX6_hear_58 : decode cX6_hear 58 = .ok (.iload_n 1, 1) := by decide +kernel
theorem dX6_hear_59 : decode cX6_hear 59 = .ok (.iload_n 2, 1) := by decide +kernel
theorem dX6_hear_60 : decode cX6_hear 60 = .ok (.iload_n 3, 1) := by decide +kernel
theorem dX6_hear_61 : decode cX6_hear 61 = .ok (.iload 4, 2) := by decide +kernel
theorem dX6_hear_63 : decode cX6_hear 63 = .ok (.invokevirtual 178, 3) := by decide +kernel
theorem dX6_hear_66 : decode cX6_hear 66 = .ok (.aload_n 0, 1) := by decide +kernel
theorem dX6_hear_67 : decode cX6_hear 67 = .ok (.getfield 19, 3) := by decide +kernel
theorem dX6_hear_70 : decode cX6_hear 70 = .ok (.getfield 69, 3) := by decide +kernel
theorem dX6_hear_73 : decode cX6_hear 73 = .ok (.getfield 175, 3) := by decide +kernel
theorem dX6_hear_76 : decode cX6_hear 76 = .ok (.ireturn, 1) := by decide +kernel
theorem dX6_forget_0 : decode cX6_forget 0 = .ok (.aload_n 0, 1) := by decide +kernel
theorem dX6_forget_1 : decode cX6_forget 1 = .ok (.getfield 19, 3) := by decide +kernel
theorem dX6_forget_4 : decode cX6_forget 4 = .ok (.getfield 69, 3) := by decide +kernel
theorem dX6_forget_7 : decode cX6_forget 7 = .ok (.getfield 175, 3) := by decide +kernel
theorem dX6_forget_10 : decode cX6_forget 10 = .ok (.istore_n 1, 1) := by decide +kernel
theorem dX6_forget_11 : decode cX6_forget 11 = .ok (.aload_n 0, 1) := by decide +kernel
theorem dX6_forget_12 : decode cX6_forget 12 = .ok (.getfield 19, 3) := by decide +kernel
theorem dX6_forget_15 : decode cX6_forget 15 = .ok (.getfield 69, 3) := by decide +kernel
theorem dX6_forget_18 : decode cX6_forget 18 = .ok (.iconst 0, 1) := by decide +kernel
theorem dX6_forget_19 : decode cX6_forget 19 = .ok (.putfield 175, 3) := by decide +kernel
theorem dX6_forget_22 : decode cX6_forget 22 = .ok (.iload_n 1, 1) := by decide +kernel
theorem dX6_forget_23 : decode cX6_forget 23 = .ok (.ireturn, 1) := by decide +kernel
set_option maxRecDepth 20000 in
theorem ggX6_truths_X1_knows : GoodIn wsX6_truths wsX1_knows := goodIn_r _ [6, 7, 35, 36, 37] (by decide +kernel) (by decide +kernel)
set_option maxRecDepth 20000 in
theorem gX6_truths_X1_knows : GoodIn wsX6_truths (wsV RX6 62 RX1 yX1_knows wsX1_knows) := goodIn_app (goodIn_of _ (by decide +kernel)) ggX6_truths_X1_knows
set_option maxRecDepth 20000 in
theorem ggX6_truths_X6_isThing : GoodIn wsX6_truths wsX6_isThing := goodIn_r _ [11] (by decide +kernel) (by decide +kernel)
set_option maxRecDepth 20000 in
theorem gX6_truths_X6_isThing : GoodIn wsX6_truths (va_wsS RX6 66 yX6_isThing wsX6_isThing) := goodIn_app (goodIn_of _ (by decide +kernel)) ggX6_truths_X6_isThing
set_option maxRecDepth 20000 in
theorem ggX6_truths_X1_wouldBeSo : GoodIn wsX6_truths wsX1_wouldBeSo := goodIn_r _ [15, 16, 17, 18, 19, 20, 21, 22, 23, 24, 25, 26, 27, 28, 35, 36, 37, 38, 39, 40, 41, 42, 43, 44, 45, 46, 47, 48] (by decide +kernel) (by decide +kernel)
set_option maxRecDepth 20000 in
theorem gX6_truths_X1_wouldBeSo : GoodIn wsX6_truths (wsV RX6 182 RX1 yX1_wouldBeSo wsX1_wouldBeSo) := goodIn_app (goodIn_of _ (by decide +kernel)) ggX6_truths_X1_wouldBeSo
theorem dX6_truths_0 : decode cX6_truths 0 = .ok (.aload_n 0, 1) := by decide +kernel
theorem dX6_truths_1 : decode cX6_truths 1 = .ok (.getfield 19, 3) := by decide +kernel
theorem dX6_truths_4 : decode cX6_truths 4 = .ok (.iload_n 1, 1) := by decide +kernel
theorem dX6_truths_5 : decode cX6_truths 5 = .ok (.invokevirtual 62, 3) := by decide +kernel
theorem dX6_truths_8 : decode cX6_truths 8 = .ok (.ifCond .eq 10, 3) := by decide +kernel
theorem dX6_truths_11 : decode cX6_truths 11 = .ok (.iload_n 2, 1) := by decide +kernel
theorem dX6_truths_12 : decode cX6_truths 12 = .ok (.invokestatic 66, 3) := by decide +kernel
theorem dX6_truths_15 : decode cX6_truths 15 = .ok (.ifCond .ne 6, 3) := by decide +kernel
theorem dX6_truths_18 : decode cX6_truths 18 = .ok (.bipush (-101), 2) := by decide +kernel
theorem dX6_truths_20 : decode cX6_truths 20 = .ok (.ireturn, 1) := by decide +kernel
theorem dX6_truths_21 : decode cX6_truths 21 = .ok (.iconst 0, 1) := by decide +kernel
theorem dX6_truths_22 : decode cX6_truths 22 = .ok (.istore_n 3, 1) := by decide +kernel
theorem dX6_truths_23 : decode cX6_truths 23 = .ok (.iconst 0, 1) := by decide +kernel
theorem dX6_truths_24 : decode cX6_truths 24 = .ok (.istore 4, 2) := by decide +kernel
theorem dX6_truths_26 : decode cX6_truths 26 = .ok (.iload 4, 2) := by decide +kernel
theorem dX6_truths_28 : decode cX6_truths 28 = .ok (.bipush 9, 2) := by decide +kernel
theorem dX6_truths_30 : decode cX6_truths 30 = .ok (.if_icmp .gt 30, 3) := by decide +kernel
theorem dX6_truths_33 : decode cX6_truths 33 = .ok (.aload_n 0, 1) := by decide +kernel
theorem dX6_truths_34 : decode cX6_truths 34 = .ok (.getfield 19, 3) := by decide +kernel
theorem dX6_truths_37 : decode cX6_truths 37 = .ok (.iload_n 1, 1) := by decide +kernel
theorem dX6_truths_38 : decode cX6_truths 38 = .ok (.iload_n 2, 1) := by decide +kernel
theorem dX6_truths_39 : decode cX6_truths 39 = .ok (.iload 4, 2) := by decide +kernel
theorem dX6_truths_41 : decode cX6_truths 41 = .ok (.invokevirtual 182, 3) := by decide +kernel
theorem dX6_truths_44 : decode cX6_truths 44 = .ok (.ifCond .eq 10, 3) := by decide +kernel
theorem dX6_truths_47 : decode cX6_truths 47 = .ok (.iload_n 3, 1) := by decide +kernel
theorem dX6_truths_48 : decode cX6_truths 48 = .ok (.iconst 1, 1) := by decide +kernel
theorem dX6_truths_49 : decode cX6_truths 49 = .ok (.iload 4, 2) := by decide +kernel
theorem dX6_truths_51 : decode cX6_truths 51 = .ok (.ishl, 1) := by decide +kernel
theorem dX6_truths_52 : decode cX6_truths 52 = .ok (.ior, 1) := by decide +kernel
theorem dX6_truths_53 : decode cX6_truths 53 = .ok (.istore_n 3, 1) := by decide +kernel
theorem dX6_truths_54 : decode cX6_truths 54 = .ok (.iinc 4 1, 3) := by decide +kernel
theorem dX6_truths_57 : decode cX6_truths 57 = .ok (.goto (-31), 3) := by decide +kernel
theorem dX6_truths_60 : decode cX6_truths 60 = .ok (.iload_n 3, 1) := by decide +kernel
theorem dX6_truths_61 : decode cX6_truths 61 = .ok (.ireturn, 1) := by decide +kernel
set_option maxRecDepth 20000 in
theorem ggX6_ask_X1_knows : GoodIn wsX6_ask wsX1_knows := goodIn_r _ [6, 7, 54, 55, 56] (by decide +kernel) (by decide +kernel)
set_option maxRecDepth 20000 in
theorem gX6_ask_X1_knows : GoodIn wsX6_ask (wsV RX6 62 RX1 yX1_knows wsX1_knows) := goodIn_app (goodIn_of _ (by decide +kernel)) ggX6_ask_X1_knows
set_option maxRecDepth 20000 in
theorem ggX6_ask_X6_isThing : GoodIn wsX6_ask wsX6_isThing := goodIn_r _ [11] (by decide +kernel) (by decide +kernel)
set_option maxRecDepth 20000 in
theorem gX6_ask_X6_isThing : GoodIn wsX6_ask (va_wsS RX6 66 yX6_isThing wsX6_isThing) := goodIn_app (goodIn_of _ (by decide +kernel)) ggX6_ask_X6_isThing
set_option maxRecDepth 20000 in
theorem ggX6_ask_X6_truths : GoodIn wsX6_ask wsX6_truths := goodIn_r _ [15, 1, 2, 3, 4, 5, 6, 7, 8, 9, 10, 11, 16, 17, 18, 19, 20, 21, 22, 23, 24, 25, 26, 27, 28, 29, 30, 31, 32, 48, 49, 50, 51, 52, 53, 54, 55, 56, 57, 58, 59, 60, 61, 62, 63, 64, 65, 66, 67] (by decide +kernel) (by decide +kernel)
set_option maxRecDepth 20000 in
theorem gX6_ask_X6_truths : GoodIn wsX6_ask (wsV RX6 186 RX6 yX6_truths wsX6_truths) := goodIn_app (goodIn_of _ (by decide +kernel)) ggX6_ask_X6_truths
set_option maxRecDepth 20000 in
theorem ggX6_ask_X5_at : GoodIn wsX6_ask wsX5_at := goodIn_r _ [31, 32, 67] (by decide +kernel) (by decide +kernel)
set_option maxRecDepth 20000 in
theorem gX6_ask_X5_at : GoodIn wsX6_ask (wsV RX6 76 RX5 yX5_at wsX5_at) := goodIn_app (goodIn_of _ (by decide +kernel)) ggX6_ask_X5_at
set_option maxRecDepth 20000 in
theorem ggX6_ask_X6_leftAtWorst : GoodIn wsX6_ask wsX6_leftAtWorst := goodIn_r _ [36, 37, 38, 39, 40, 41, 42, 43, 44, 45, 46, 47] (by decide +kernel) (by decide +kernel)
set_option maxRecDepth 20000 in
theorem gX6_ask_X6_leftAtWorst : GoodIn wsX6_ask (va_wsS RX6 189 yX6_leftAtWorst wsX6_leftAtWorst) := goodIn_app (goodIn_of _ (by decide +kernel)) ggX6_ask_X6_leftAtWorst
theorem dX6_ask_0 : decode cX6_ask 0 = .ok (.aload_n 0, 1) := by decide +kernel
theorem dX6_ask_1 : decode cX6_ask 1 = .ok (.getfield 19, 3) := by decide +kernel
theorem dX6_ask_4 : decode cX6_ask 4 = .ok (.iload_n 1, 1) := by decide +kernel
theorem dX6_ask_5 : decode cX6_ask 5 = .ok (.invokevirtual 62, 3) := by decide +kernel
theorem dX6_ask_8 : decode cX6_ask 8 = .ok (.ifCond .eq 10, 3) := by decide +kernel
theorem dX6_ask_11 : decode cX6_ask 11 = .ok (.iload_n 2, 1) := by decide +kernel
theorem dX6_ask_12 : decode cX6_ask 12 = .ok (.invokestatic 66, 3) := by decide +kernel
theorem dX6_ask_15 : decode cX6_ask 15 = .ok (.ifCond .ne 6, 3) := by decide +kernel
theorem dX6_ask_18 : decode cX6_ask 18 = .ok (.bipush (-101), 2) := by decide +kernel
theorem dX6_ask_20 : decode cX6_ask 20 = .ok (.ireturn, 1) := by decide +kernel
theorem dX6_ask_21 : decode cX6_ask 21 = .ok (.aload_n 0, 1) := by decide +kernel
theorem dX6_ask_22 : decode cX6_ask 22 = .ok (.iload_n 1, 1) := by decide +kernel
theorem dX6_ask_23 : decode cX6_ask 23 = .ok (.iload_n 2, 1) := by decide +kernel
theorem dX6_ask_24 : decode cX6_ask 24 = .ok (.invokevirtual 186, 3) := by decide +kernel
theorem dX6_ask_27 : decode cX6_ask 27 = .ok (.istore_n 3, 1) := by decide +kernel
theorem dX6_ask_28 : decode cX6_ask 28 = .ok (.iload_n 3, 1) := by decide +kernel
theorem dX6_ask_29 : decode cX6_ask 29 = .ok (.ifCond .ne 5, 3) := by decide +kernel
theorem dX6_ask_32 : decode cX6_ask 32 = .ok (.iconst (-1), 1) := by decide +kernel
theorem dX6_ask_33 : decode cX6_ask 33 = .ok (.ireturn, 1) := by decide +kernel
theorem dX6_ask_34 : decode cX6_ask 34 = .ok (.iconst (-1), 1) := by decide +kernel
theorem dX6_ask_35 : decode cX6_ask 35 = .ok (.istore 4, 2) := by decide +kernel
theorem dX6_ask_37 : decode cX6_ask 37 = .ok (.bipush 11, 2) := by decide +kernel
theorem dX6_ask_39 : decode cX6_ask 39 = .ok (.istore 5, 2) := by decide +kernel
theorem dX6_ask_41 : decode cX6_ask 41 = .ok (.iconst 0, 1) := by decide +kernel
theorem dX6_ask_42 : decode cX6_ask 42 = .ok (.istore 6, 2) := by decide +kernel
theorem dX6_ask_44 : decode cX6_ask 44 = .ok (.iload 6, 2) := by decide +kernel
theorem dX6_ask_46 : decode cX6_ask 46 = .ok (.iconst 4, 1) := by decide +kernel
theorem dX6_ask_47 : decode cX6_ask 47 = .ok (.if_icmp .ge 52, 3) := by decide +kernel
theorem dX6_ask_50 : decode cX6_ask 50 = .ok (.iload_n 3, 1) := by decide +kernel
theorem dX6_ask_51 : decode cX6_ask 51 = .ok (.aload_n 0, 1) := by decide +kernel
theorem dX6_ask_52 : decode cX6_ask 52 = .ok (.getfield 19, 3) := by decide +kernel
theorem dX6_ask_55 : decode cX6_ask 55 = .ok (.getfield 69, 3) := by decide +kernel
theorem dX6_ask_58 : decode cX6_ask 58 = .ok (.getfield 72, 3) := by decide +kernel
theorem dX6_ask_61 : decode cX6_ask 61 = .ok (.iload_n 1, 1) := by decide +kernel
theorem dX6_ask_62 : decode cX6_ask 62 = .ok (.iload 6, 2) := by decide +kernel
theorem dX6_ask_64 : decode cX6_ask 64 = .ok (.invokevirtual 76, 3) := by decide +kernel
theorem dX6_ask_67 : decode cX6_ask 67 = .ok (.invokestatic 189, 3) := by decide +kernel
theorem dX6_ask_70 : decode cX6_ask 70 = .ok (.istore 7, 2) := by decide +kernel
theorem dX6_ask_72 : decode cX6_ask 72 = .ok (.iload 6, 2) := by decide +kernel
theorem dX6_ask_74 : decode cX6_ask 74 = .ok (.iload_n 2, 1) := by decide +kernel
theorem dX6_ask_75 : decode cX6_ask 75 = .ok (.if_icmp .eq 18, 3) := by decide +kernel
theorem dX6_ask_78 : decode cX6_ask 78 = .ok (.iload 7, 2) := by decide +kernel
theorem dX6_ask_80 : decode cX6_ask 80 = .ok (.iload 5, 2) := by decide +kernel
theorem dX6_ask_82 : decode cX6_ask 82 = .ok (.if_icmp .ge 11, 3) := by decide +kernel
theorem dX6_ask_85 : decode cX6_ask 85 = .ok (.iload 6, 2) := by decide +kernel
theorem dX6_ask_87 : decode cX6_ask 87 = .ok (.istore 4, 2) := by decide +kernel
theorem dX6_ask_89 : decode cX6_ask 89 = .ok (.iload 7, 2) := by decide +kernel
theorem dX6_ask_91 : decode cX6_ask 91 = .ok (.istore 5, 2) := by decide +kernel
theorem dX6_ask_93 : decode cX6_ask 93 = .ok (.iinc 6 1, 3) := by decide +kernel
theorem dX6_ask_96 : decode cX6_ask 96 = .ok (.goto (-52), 3) := by decide +kernel
theorem dX6_ask_99 : decode cX6_ask 99 = .ok (.iload 4, 2) := by decide +kernel
theorem dX6_ask_101 : decode cX6_ask 101 = .ok (.ireturn, 1) := by decide +kernel
set_option maxRecDepth 20000 in
theorem ggX6_years_X6_nextSeed : GoodIn wsX6_years wsX6_nextSeed := goodIn_r _ [5, 6, 7, 8] (by decide +kernel) (by decide +kernel)
set_option maxRecDepth 20000 in
theorem gX6_years_X6_nextSeed : GoodIn wsX6_years (va_wsS RX6 192 yX6_nextSeed wsX6_nextSeed) := goodIn_app (goodIn_of _ (by decide +kernel)) ggX6_years_X6_nextSeed
set_option maxRecDepth 20000 in
theorem ggX6_years_X6_drawn : GoodIn wsX6_years wsX6_drawn := goodIn_r _ [11, 12] (by decide +kernel) (by decide +kernel)
set_option maxRecDepth 20000 in
theorem gX6_years_X6_drawn : GoodIn wsX6_years (va_wsS RX6 195 yX6_drawn wsX6_drawn) := goodIn_app (goodIn_of _ (by decide +kernel)) ggX6_years_X6_drawn
set_option maxRecDepth 20000 in
theorem ggX6_years_X1_mayIn : GoodIn wsX6_years wsX1_mayIn := goodIn_r _ [17, 18, 19, 20, 21, 16, 22, 23, 24, 25, 26, 27, 28, 29, 30, 31, 32, 33, 34, 35, 36, 37, 38, 39, 40, 41, 42, 43, 70, 71, 72, 73, 74, 75, 76, 77, 78, 79, 80, 81, 82, 83] (by decide +kernel) (by decide +kernel)
set_option maxRecDepth 20000 in
theorem gX6_years_X1_mayIn : GoodIn wsX6_years (wsV RX6 130 RX1 yX1_mayIn wsX1_mayIn) := goodIn_app (goodIn_of _ (by decide +kernel)) ggX6_years_X1_mayIn
set_option maxRecDepth 20000 in
theorem ggX6_years_X1_changed : GoodIn wsX6_years wsX1_changed := goodIn_r _ [47, 19, 20, 21, 16, 22, 23, 48, 49, 50, 51, 70, 71, 72] (by decide +kernel) (by decide +kernel)
set_option maxRecDepth 20000 in
theorem gX6_years_X1_changed : GoodIn wsX6_years (wsV RX6 134 RX1 yX1_changed wsX1_changed) := goodIn_app (goodIn_of _ (by decide +kernel)) ggX6_years_X1_changed
set_option maxRecDepth 20000 in
theorem ggX6_years_X1_contentIn : GoodIn wsX6_years wsX1_contentIn := goodIn_r _ [55, 23, 56, 57, 58, 16, 59, 60, 61, 62, 63, 18, 19, 20, 21, 22, 35, 36, 37, 38, 39, 40, 70, 71, 72, 73, 74, 75, 76, 77, 78, 79, 80, 81, 83] (by decide +kernel) (by decide +kernel)
set_option maxRecDepth 20000 in
theorem gX6_years_X1_contentIn : GoodIn wsX6_years (wsV RX6 198 RX1 yX1_contentIn wsX1_contentIn) := goodIn_app (goodIn_of _ (by decide +kernel)) ggX6_years_X1_contentIn
theorem dX6_years_0 : decode cX6_years 0 = .ok (.iload_n 1, 1) := by decide +kernel
theorem dX6_years_1 : decode cX6_years 1 = .ok (.iconst 1, 1) := by decide +kernel
theorem dX6_years_2 : decode cX6_years 2 = .ok (.if_icmp .lt 22, 3) := by decide +kernel
theorem dX6_years_5 : decode cX6_years 5 = .ok (.iload_n 1, 1) := by decide +kernel
theorem dX6_years_6 : decode cX6_years 6 = .ok (.bipush 60, 2) := by decide +kernel
theorem dX6_years_8 : decode cX6_years 8 = .ok (.if_icmp .gt 16, 3) := by decide +kernel
theorem dX6_years_11 : decode cX6_years 11 = .ok (.iload_n 2, 1) := by decide +kernel
theorem dX6_years_12 : decode cX6_years 12 = .ok (.ifCond .lt 12, 3) := by decide +kernel
theorem dX6_years_15 : decode cX6_years 15 = .ok (.iload_n 3, 1) := by decide +kernel
theorem dX6_years_16 : decode cX6_years 16 = .ok (.ifCond .lt 8, 3) := by decide +kernel
theorem dX6_years_19 : decode cX6_years 19 = .ok (.iload_n 3, 1) := by decide +kernel
theorem dX6_years_20 : decode cX6_years 20 = .ok (.iconst 2, 1) := by decide +kernel
theorem dX6_years_21 : decode cX6_years 21 = .ok (.if_icmp .le 6, 3) := by decide +kernel
theorem dX6_years_24 : decode cX6_years 24 = .ok (.bipush (-102), 2) := by decide +kernel
theorem dX6_years_26 : decode cX6_years 26 = .ok (.ireturn, 1) := by decide +kernel
theorem dX6_years_27 : decode cX6_years 27 = .ok (.aload_n 0, 1) := by decide +kernel
theorem dX6_years_28 : decode cX6_years 28 = .ok (.getfield 19, 3) := by decide +kernel
theorem dX6_years_31 : decode cX6_years 31 = .ok (.getfield 111, 3) := by decide +kernel
theorem dX6_years_34 : decode cX6_years 34 = .ok (.ifCond .ne 6, 3) := by decide +kernel
theorem dX6_years_37 : decode cX6_years 37 = .ok (.bipush (-103), 2) := by decide +kernel
theorem dX6_years_39 : decode cX6_years 39 = .ok (.ireturn, 1) := by decide +kernel
theorem dX6_years_40 : decode cX6_years 40 = .ok (.aload_n 0, 1) := by decide +kernel
theorem dX6_years_41 : decode cX6_years 41 = .ok (.getfield 19, 3) := by decide +kernel
theorem dX6_years_44 : decode cX6_years 44 = .ok (.getfield 69, 3) := by decide +kernel
theorem dX6_years_47 : decode cX6_years 47 = .ok (.getfield 98, 3) := by decide +kernel
theorem dX6_years_50 : decode cX6_years 50 = .ok (.istore 4, 2) := by decide +kernel
theorem dX6_years_52 : decode cX6_years 52 = .ok (.iconst 0, 1) := by decide +kernel
theorem dX6_years_53 : decode cX6_years 53 = .ok (.istore 5, 2) := by decide +kernel
theorem dX6_years_55 : decode cX6_years 55 = .ok (.iload_n 2, 1) := by decide +kernel
theorem dX6_years_56 : decode cX6_years 56 = .ok (.istore 6, 2) := by decide +kernel
theorem dX6_years_58 : decode cX6_years 58 = .ok (.iconst 0, 1) := by decide +kernel
theorem dX6_years_59 : decode cX6_years 59 = .ok (.istore 7, 2) := by decide +kernel
theorem dX6_years_61 : decode cX6_years 61 = .ok (.iload 7, 2) := by decide +kernel
theorem dX6_years_63 : decode cX6_years 63 = .ok (.iload_n 1, 1) := by decide +kernel
theorem dX6_years_64 : decode cX6_years 64 = .ok (.if_icmp .ge 93, 3) := by decide +kernel
theorem dX6_years_67 : decode cX6_years 67 = .ok (.iload 6, 2) := by decide +kernel
theorem dX6_years_69 : decode cX6_years 69 = .ok (.invokestatic 192, 3) := by decide +kernel
theorem dX6_years_72 : decode cX6_years 72 = .ok (.istore 6, 2) := by decide +kernel
theorem dX6_years_74 : decode cX6_years 74 = .ok (.iload 6, 2) := by decide +kernel
theorem dX6_years_76 : decode cX6_years 76 = .ok (.aload_n 0, 1) := by decide +kernel
theorem dX6_years_77 : decode cX6_years 77 = .ok (.getfield 19, 3) := by decide +kernel
theorem dX6_years_80 : decode cX6_years 80 = .ok (.getfield 111, 3) := by decide +kernel
theorem dX6_years_83 : decode cX6_years 83 = .ok (.invokestatic 195, 3) := by decide +kernel
theorem dX6_years_86 : decode cX6_years 86 = .ok (.istore 8, 2) := by decide +kernel
theorem dX6_years_88 : decode cX6_years 88 = .ok (.iload 6, 2) := by decide +kernel
theorem dX6_years_90 : decode cX6_years 90 = .ok (.invokestatic 192, 3) := by decide +kernel
theorem dX6_years_93 : decode cX6_years 93 = .ok (.istore 6, 2) := by decide +kernel
theorem dX6_years_95 : decode cX6_years 95 = .ok (.iload 6, 2) := by decide +kernel
theorem dX6_years_97 : decode cX6_years 97 = .ok (.aload_n 0, 1) := by decide +kernel
theorem dX6_years_98 : decode cX6_years 98 = .ok (.getfield 19, 3) := by decide +kernel
theorem dX6_years_101 : decode cX6_years 101 = .ok (.getfield 111, 3) := by decide +kernel
theorem dX6_years_104 : decode cX6_years 104 = .ok (.invokestatic 195, 3) := by decide +kernel
theorem dX6_years_107 : decode cX6_years 107 = .ok (.istore 9, 2) := by decide +kernel
theorem dX6_years_109 : decode cX6_years 109 = .ok (.iload 8, 2) := by decide +kernel
theorem dX6_years_111 : decode cX6_years 111 = .ok (.iload 9, 2) := by decide +kernel
theorem dX6_years_113 : decode cX6_years 113 = .ok (.if_icmp .eq 38, 3) := by decide +kernel
theorem dX6_years_116 : decode cX6_years 116 = .ok (.aload_n 0, 1) := by decide +kernel
theorem dX6_years_117 : decode cX6_years 117 = .ok (.getfield 19, 3) := by decide +kernel
theorem dX6_years_120 : decode cX6_years 120 = .ok (.iload 4, 2) := by decide +kernel
theorem dX6_years_122 : decode cX6_years 122 = .ok (.iload 8, 2) := by decide +kernel
theorem dX6_years_124 : decode cX6_years 124 = .ok (.iload 9, 2) := by decide +kernel
theorem dX6_years_126 : decode cX6_years 126 = .ok (.invokevirtual 130, 3) := by decide +kernel
theorem dX6_years_129 : decode cX6_years 129 = .ok (.iconst 3, 1) := by decide +kernel
theorem dX6_years_130 : decode cX6_years 130 = .ok (.if_icmp .ne 21, 3) := by decide +kernel
theorem dX6_years_133 : decode cX6_years 133 = .ok (.aload_n 0, 1) := by decide +kernel
theorem dX6_years_134 : decode cX6_years 134 = .ok (.getfield 19, 3) := by decide +kernel
theorem dX6_years_137 : decode cX6_years 137 = .ok (.iload 4, 2) := by decide +kernel
theorem dX6_years_139 : decode cX6_years 139 = .ok (.iload 8, 2) := by decide +kernel
theorem dX6_years_141 : decode cX6_years 141 = .ok (.iload 9, 2) := by decide +kernel
theorem dX6_years_143 : decode cX6_years 143 = .ok (.invokevirtual 134, 3) := by decide +kernel
theorem dX6_years_146 : decode cX6_years 146 = .ok (.istore 4, 2) := by decide +kernel
theorem dX6_years_148 : decode cX6_years 148 = .ok (.iinc 5 1, 3) := by decide +kernel
theorem dX6_years_151 : decode cX6_years 151 = .ok (.iinc 7 1, 3) := by decide +kernel
theorem dX6_years_154 : decode cX6_years 154 = .ok (.goto (-93), 3) := by decide +kernel
theorem dX6_years_157 : decode cX6_years 157 = .ok (.iload_n 3, 1) := by decide +kernel
theorem dX6_years_158 : decode cX6_years 158 = .ok (.ifCond .ne 6, 3) := by decide +kernel
theorem dX6_years_161 : decode cX6_years 161 = .ok (.iload 5, 2) := by decide +kernel
theorem dX6_years_163 : decode cX6_years 163 = .ok (.ireturn, 1) := by decide +kernel
theorem dX6_years_164 : decode cX6_years 164 = .ok (.iload_n 3, 1) := by decide +kernel
theorem dX6_years_165 : decode cX6_years 165 = .ok (.iconst 1, 1) := by decide +kernel
theorem dX6_years_166 : decode cX6_years 166 = .ok (.if_icmp .ne 15, 3) := by decide +kernel
theorem dX6_years_169 : decode cX6_years 169 = .ok (.aload_n 0, 1) := by decide +kernel
theorem dX6_years_170 : decode cX6_years 170 = .ok (.getfield 19, 3) := by decide +kernel
theorem dX6_years_173 : decode cX6_years 173 = .ok (.iload 4, 2) := by decide +kernel
theorem dX6_years_175 : decode cX6_years 175 = .ok (.invokevirtual 198, 3) := by decide +kernel
theorem dX6_years_178 : decode cX6_years 178 = .ok (.goto 5, 3) := by decide +kernel
theorem dX6_years_181 : decode cX6_years 181 = .ok (.iload 6, 2) := by decide +kernel
theorem dX6_years_183 : decode cX6_years 183 = .ok (.ireturn, 1) := by decide +kernel
set_option maxRecDepth 20000 in
theorem ggX6_image_X4_takeFrom : GoodIn wsX6_image wsX4_takeFrom := goodIn_r _ [9, 10, 11, 12, 13, 14, 15, 16, 17, 18, 19, 20, 21, 22, 23, 24, 25, 26, 27, 28, 29, 30, 40, 41, 42, 43, 44, 45, 46, 47, 48, 49, 50] (by decide +kernel) (by decide +kernel)
set_option maxRecDepth 20000 in
theorem gX6_image_X4_takeFrom : GoodIn wsX6_image (wsV RX6 201 RX4 yX4_takeFrom wsX4_takeFrom) := goodIn_app (goodIn_of _ (by decide +kernel)) ggX6_image_X4_takeFrom
theorem dX6_image_0 : decode cX6_image 0 = .ok (.aload_n 0, 1) := by decide +kernel
theorem dX6_image_1 : decode cX6_image 1 = .ok (.getfield 19, 3) := by decide +kernel
theorem dX6_image_4 : decode cX6_image 4 = .ok (.getfield 111, 3) := by decide +kernel
theorem dX6_image_7 : decode cX6_image 7 = .ok (.ifCond .ne 6, 3) := by decide +kernel
theorem dX6_image_10 : decode cX6_image 10 = .ok (.bipush (-103), 2) := by decide +kernel
theorem dX6_image_12 : decode cX6_image 12 = .ok (.ireturn, 1) := by decide +kernel
theorem dX6_image_13 : decode cX6_image 13 = .ok (.aload_n 0, 1) := by decide +kernel
theorem dX6_image_14 : decode cX6_image 14 = .ok (.getfield 33, 3) := by decide +kernel
theorem dX6_image_17 : decode cX6_image 17 = .ok (.aload_n 0, 1) := by decide +kernel
theorem dX6_image_18 : decode cX6_image 18 = .ok (.getfield 19, 3) := by decide +kernel
theorem dX6_image_21 : decode cX6_image 21 = .ok (.getfield 69, 3) := by decide +kernel
theorem dX6_image_24 : decode cX6_image 24 = .ok (.invokevirtual 201, 3) := by decide +kernel
theorem dX6_image_27 : decode cX6_image 27 = .ok (.aload_n 0, 1) := by decide +kernel
theorem dX6_image_28 : decode cX6_image 28 = .ok (.aload_n 0, 1) := by decide +kernel
theorem dX6_image_29 : decode cX6_image 29 = .ok (.getfield 37, 3) := by decide +kernel
theorem dX6_image_32 : decode cX6_image 32 = .ok (.putfield 41, 3) := by decide +kernel
theorem dX6_image_35 : decode cX6_image 35 = .ok (.aload_n 0, 1) := by decide +kernel
theorem dX6_image_36 : decode cX6_image 36 = .ok (.getfield 33, 3) := by decide +kernel
theorem dX6_image_39 : decode cX6_image 39 = .ok (.getfield 141, 3) := by decide +kernel
theorem dX6_image_42 : decode cX6_image 42 = .ok (.ireturn, 1) := by decide +kernel
set_option maxRecDepth 20000 in
theorem ggX6_restore_X4_takeFrom : GoodIn wsX6_restore wsX4_takeFrom := goodIn_r _ [9, 10, 11, 12, 13, 14, 15, 16, 17, 18, 19, 20, 21, 22, 23, 24, 25, 26, 27, 28, 29, 30, 40, 41, 42, 43, 44, 45, 46, 47, 48, 49, 50] (by decide +kernel) (by decide +kernel)
set_option maxRecDepth 20000 in
theorem gX6_restore_X4_takeFrom : GoodIn wsX6_restore (wsV RX6 201 RX4 yX4_takeFrom wsX4_takeFrom) := goodIn_app (goodIn_of _ (by decide +kernel)) ggX6_restore_X4_takeFrom
theorem dX6_restore_0 : decode cX6_restore 0 = .ok (.aload_n 0, 1) := by decide +kernel
theorem dX6_restore_1 : decode cX6_restore 1 = .ok (.getfield 41, 3) := by decide +kernel
theorem dX6_restore_4 : decode cX6_restore 4 = .ok (.ifCond .eq 14, 3) := by decide +kernel
theorem dX6_restore_7 : decode cX6_restore 7 = .ok (.aload_n 0, 1) := by decide +kernel
theorem dX6_restore_8 : decode cX6_restore 8 = .ok (.getfield 41, 3) := by decide +kernel
theorem dX6_restore_11 : decode cX6_restore 11 = .ok (.aload_n 0, 1) := by decide +kernel
theorem dX6_restore_12 : decode cX6_restore 12 = .ok (.getfield 37, 3) := by decide +kernel
theorem dX6_restore_15 : decode cX6_restore 15 = .ok (.if_icmp .eq 6, 3) := by decide +kernel
theorem dX6_restore_18 : decode cX6_restore 18 = .ok (.bipush (-103), 2) := by decide +kernel
theorem dX6_restore_20 : decode cX6_restore 20 = .ok (.ireturn, 1) := by decide +kernel
theorem dX6_restore_21 : decode cX6_restore 21 = .ok (.aload_n 0, 1) := by decide +kernel
theorem dX6_restore_22 : decode cX6_restore 22 = .ok (.getfield 19, 3) := by decide +kernel
theorem dX6_restore_25 : decode cX6_restore 25 = .ok (.getfield 69, 3) := by decide +kernel
theorem dX6_restore_28 : decode cX6_restore 28 = .ok (.aload_n 0, 1) := by decide +kernel
theorem dX6_restore_29 : decode cX6_restore 29 = .ok (.getfield 33, 3) := by decide +kernel
theorem dX6_restore_32 : decode cX6_restore 32 = .ok (.invokevirtual 201, 3) := by decide +kernel
theorem dX6_restore_35 : decode cX6_restore 35 = .ok (.aload_n 0, 1) := by decide +kernel
theorem dX6_restore_36 : decode cX6_restore 36 = .ok (.getfield 19, 3) := by decide +kernel
theorem dX6_restore_39 : decode cX6_restore 39 = .ok (.getfield 69, 3) := by decide +kernel
theorem dX6_restore_42 : decode cX6_restore 42 = .ok (.getfield 141, 3) := by decide +kernel
theorem dX6_restore_45 : decode cX6_restore 45 = .ok (.ireturn, 1) := by decide +kernel
set_option maxRecDepth 20000 in
theorem ggX6_count_X1_contentIn : GoodIn wsX6_count wsX1_contentIn := goodIn_r _ [8, 9, 10, 11, 12, 7, 13, 14, 15, 16, 17, 18, 19, 20, 21, 22, 23, 24, 25, 26, 27, 28, 39, 40, 41, 42, 43, 44, 45, 46, 47, 48, 49, 50, 53] (by decide +kernel) (by decide +kernel)
set_option maxRecDepth 20000 in
theorem gX6_count_X1_contentIn : GoodIn wsX6_count (wsV RX6 198 RX1 yX1_contentIn wsX1_contentIn) := goodIn_app (goodIn_of _ (by decide +kernel)) ggX6_count_X1_contentIn
set_option maxRecDepth 20000 in
theorem ggX6_count_X1_sumOf : GoodIn wsX6_count wsX1_sumOf := goodIn_r _ [32, 9, 14, 15, 16, 7, 17, 18, 19, 20, 21, 22, 23, 24, 25, 26, 27, 28, 39, 40, 41, 42, 43, 44, 45, 46, 47, 48, 49, 50, 53] (by decide +kernel) (by decide +kernel)
set_option maxRecDepth 20000 in
theorem gX6_count_X1_sumOf : GoodIn wsX6_count (wsV RX6 172 RX1 yX1_sumOf wsX1_sumOf) := goodIn_app (goodIn_of _ (by decide +kernel)) ggX6_count_X1_sumOf
theorem dX6_count_0 : decode cX6_count 0 = .ok (.iload_n 1, 1) := by decide +kernel
theorem dX6_count_1 : decode cX6_count 1 = .ok (.tableswitch 122 0 6 #[43, 51, 69, 80, 98, 109, 117], 43) := by decide +kernel
theorem dX6_count_44 : decode cX6_count 44 = .ok (.aload_n 0, 1) := by decide +kernel
theorem dX6_count_45 : decode cX6_count 45 = .ok (.getfield 19, 3) := by decide +kernel
theorem dX6_count_48 : decode cX6_count 48 = .ok (.getfield 111, 3) := by decide +kernel
theorem dX6_count_51 : decode cX6_count 51 = .ok (.ireturn, 1) := by decide +kernel
theorem dX6_count_52 : decode cX6_count 52 = .ok (.aload_n 0, 1) := by decide +kernel
theorem dX6_count_53 : decode cX6_count 53 = .ok (.getfield 19, 3) := by decide +kernel
theorem dX6_count_56 : decode cX6_count 56 = .ok (.aload_n 0, 1) := by decide +kernel
theorem dX6_count_57 : decode cX6_count 57 = .ok (.getfield 19, 3) := by decide +kernel
theorem dX6_count_60 : decode cX6_count 60 = .ok (.getfield 69, 3) := by decide +kernel
theorem dX6_count_63 : decode cX6_count 63 = .ok (.getfield 98, 3) := by decide +kernel
theorem dX6_count_66 : decode cX6_count 66 = .ok (.invokevirtual 198, 3) := by decide +kernel
theorem dX6_count_69 : decode cX6_count 69 = .ok (.ireturn, 1) := by decide +kernel
theorem dX6_count_70 : decode cX6_count 70 = .ok (.aload_n 0, 1) := by decide +kernel
theorem dX6_count_71 : decode cX6_count 71 = .ok (.getfield 19, 3) := by decide +kernel
theorem dX6_count_74 : decode cX6_count 74 = .ok (.getfield 69, 3) := by decide +kernel
theorem dX6_count_77 : decode cX6_count 77 = .ok (.getfield 141, 3) := by decide +kernel
theorem dX6_count_80 : decode cX6_count 80 = .ok (.ireturn, 1) := by decide +kernel
theorem dX6_count_81 : decode cX6_count 81 = .ok (.aload_n 0, 1) := by decide +kernel
theorem dX6_count_82 : decode cX6_count 82 = .ok (.getfield 19, 3) := by decide +kernel
theorem dX6_count_85 : decode cX6_count 85 = .ok (.aload_n 0, 1) := by decide +kernel
theorem dX6_count_86 : decode cX6_count 86 = .ok (.getfield 19, 3) := by decide +kernel
theorem dX6_count_89 : decode cX6_count 89 = .ok (.getfield 69, 3) := by decide +kernel
theorem dX6_count_92 : decode cX6_count 92 = .ok (.getfield 98, 3) := by decide +kernel
theorem dX6_count_95 : decode cX6_count 95 = .ok (.invokevirtual 172, 3) := by decide +kernel
theorem dX6_count_98 : decode cX6_count 98 = .ok (.ireturn, 1) := by decide +kernel
theorem dX6_count_99 : decode cX6_count 99 = .ok (.aload_n 0, 1) := by decide +kernel
theorem dX6_count_100 : decode cX6_count 100 = .ok (.getfield 19, 3) := by decide +kernel
theorem dX6_count_103 : decode cX6_count 103 = .ok (.getfield 69, 3) := by decide +kernel
theorem dX6_count_106 : decode cX6_count 106 = .ok (.getfield 175, 3) := by decide +kernel
theorem dX6_count_109 : decode cX6_count 109 = .ok (.ireturn, 1) := by decide +kernel
theorem dX6_count_110 : decode cX6_count 110 = .ok (.aload_n 0, 1) := by decide +kernel
theorem dX6_count_111 : decode cX6_count 111 = .ok (.getfield 12, 3) := by decide +kernel
theorem dX6_count_114 : decode cX6_count 114 = .ok (.getfield 44, 3) := by decide +kernel
theorem dX6_count_117 : decode cX6_count 117 = .ok (.ireturn, 1) := by decide +kernel
theorem dX6_count_118 : decode cX6_count 118 = .ok (.aload_n 0, 1) := by decide +kernel
theorem dX6_count_119 : decode cX6_count 119 = .ok (.getfield 37, 3) := by decide +kernel
theorem dX6_count_122 : decode cX6_count 122 = .ok (.ireturn, 1) := by decide +kernel
theorem dX6_count_123 : decode cX6_count 123 = .ok (.bipush (-102), 2) := by decide +kernel
theorem dX6_count_125 : decode cX6_count 125 = .ok (.ireturn, 1) := by decide +kernel
set_option maxRecDepth 20000 in
theorem ggX6_digest_X6_has : GoodIn wsX6_digest wsX6_has := goodIn_r _ [8, 2, 9, 10, 7, 11, 12, 13, 14, 15, 16, 17, 18, 19, 20, 21, 22, 23, 24, 25, 26, 195, 196, 197, 198, 199, 200, 201, 202, 203, 206, 207, 208, 209, 210, 211, 212, 213, 214] (by decide +kernel) (by decide +kernel)
set_option maxRecDepth 20000 in
theorem gX6_digest_X6_has : GoodIn wsX6_digest (wsV RX6 206 RX6 yX6_has wsX6_has) := goodIn_app (goodIn_of _ (by decide +kernel)) ggX6_digest_X6_has
set_option maxRecDepth 20000 in
theorem ggX6_digest_X6_with : GoodIn wsX6_digest wsX6_with := goodIn_r _ [29, 30] (by decide +kernel) (by decide +kernel)
set_option maxRecDepth 20000 in
theorem gX6_digest_X6_with : GoodIn wsX6_digest (va_wsS RX6 209 yX6_with wsX6_with) := goodIn_app (goodIn_of _ (by decide +kernel)) ggX6_digest_X6_with
set_option maxRecDepth 20000 in
theorem ggX6_digest_X6_ends : GoodIn wsX6_digest wsX6_ends := goodIn_r _ [34, 2, 35, 36, 37, 38, 39, 40, 41, 42, 43, 44, 45, 46, 47, 48, 49, 50, 51, 52, 53, 54, 55, 56, 57, 58, 59, 60, 61, 62, 63, 64, 65, 15, 66, 22, 23, 24, 25, 26, 17, 67, 68, 69, 70, 71, 72, 73, 74, 75, 76, 77, 78, 79, 80, 81, 82, 83, 84, 85, 86, 87, 88, 89, 90, 91, 92, 93, 94, 95, 96, 97, 98, 99, 100, 101, 102, 103, 104, 105, 106, 107, 108, 109, 110, 111, 195, 196, 197, 198, 199, 200, 201, 202, 203, 215, 216, 217, 218, 219, 220, 221, 206, 207, 208, 209, 210, 211, 212, 213, 214, 222, 223] (by decide +kernel) (by decide +kernel)
set_option maxRecDepth 20000 in
theorem gX6_digest_X6_ends : GoodIn wsX6_digest (wsV RX6 213 RX6 yX6_ends wsX6_ends) := goodIn_app (goodIn_of _ (by decide +kernel)) ggX6_digest_X6_ends
set_option maxRecDepth 20000 in
theorem ggX6_digest_X6_worst : GoodIn wsX6_digest wsX6_worst := goodIn_r _ [115, 2, 116, 117, 118, 15, 119, 17, 120, 121, 122, 123, 124, 125, 126, 127, 23, 24, 25, 26, 128, 129, 130, 131, 132, 133, 134, 135, 91, 92, 93, 94, 95, 96, 97, 22, 73, 74, 75, 76, 77, 78, 136, 137, 195, 196, 197, 198, 199, 200, 201, 202, 203, 206, 207, 208, 209, 210, 211, 212, 213, 214, 223] (by decide +kernel) (by decide +kernel)
set_option maxRecDepth 20000 in
theorem gX6_digest_X6_worst : GoodIn wsX6_digest (wsV RX6 216 RX6 yX6_worst wsX6_worst) := goodIn_app (goodIn_of _ (by decide +kernel)) ggX6_digest_X6_worst
set_option maxRecDepth 20000 in
theorem ggX6_digest_X6_withHeir : GoodIn wsX6_digest wsX6_withHeir := goodIn_r _ [141, 142, 143, 144, 7, 145, 2, 116, 117, 118, 15, 119, 17, 9, 10, 11, 146, 74, 75, 76, 77, 78, 147, 68, 69, 70, 71, 22, 72, 50, 51, 52, 53, 54, 73, 79, 80, 81, 148, 149, 19, 20, 21, 23, 24, 25, 26, 150, 151, 152, 153, 94, 95, 96, 97, 27, 28, 29, 30, 154, 155, 156, 157, 158, 56, 57, 58, 159, 160, 161, 162, 163, 164, 165, 166, 67, 86, 87, 88, 89, 167, 168, 169, 170, 171, 172, 173, 174, 175, 176, 177, 178, 179, 180, 181, 182, 183, 104, 105, 106, 184, 129, 130, 131, 132, 133, 134, 195, 196, 197, 198, 199, 200, 201, 202, 203, 206, 207, 208, 209, 210, 211, 212, 213, 214, 223, 222] (by decide +kernel) (by decide +kernel)
set_option maxRecDepth 20000 in
theorem gX6_digest_X6_withHeir : GoodIn wsX6_digest (wsV RX6 219 RX6 yX6_withHeir wsX6_withHeir) := goodIn_app (goodIn_of _ (by decide +kernel)) ggX6_digest_X6_withHeir
set_option maxRecDepth 20000 in
theorem ggX6_digest_X3_get : GoodIn wsX6_digest wsX3_get := goodIn_r _ [53, 54, 222] (by decide +kernel) (by decide +kernel)
set_option maxRecDepth 20000 in
theorem gX6_digest_X3_get : GoodIn wsX6_digest (wsV RX6 89 RX3 yX3_get wsX3_get) := goodIn_app (goodIn_of _ (by decide +kernel)) ggX6_digest_X3_get
set_option maxRecDepth 20000 in
theorem ggX6_digest_X6_count : GoodIn wsX6_digest wsX6_count := goodIn_r _ [188, 2, 3, 189, 190, 191, 192, 15, 193, 17, 194, 151, 152, 153, 94, 95, 96, 97, 22, 23, 24, 25, 26, 73, 74, 75, 76, 77, 78, 137, 91, 92, 93, 195, 196, 197, 198, 199, 200, 201, 202, 203, 206, 207, 208, 209, 210, 211, 212, 213, 214, 204, 205, 223] (by decide +kernel) (by decide +kernel)
set_option maxRecDepth 20000 in
theorem gX6_digest_X6_count : GoodIn wsX6_digest (wsV RX6 225 RX6 yX6_count wsX6_count) := goodIn_app (goodIn_of _ (by decide +kernel)) ggX6_digest_X6_count
theorem dX6_digest_0 : decode cX6_digest 0 = .ok (.ldc2_w 204, 3) := by decide +kernel
theorem dX6_digest_3 : decode cX6_digest 3 = .ok (.lstore_n 1, 1) := by decide +kernel
theorem dX6_digest_4 : decode cX6_digest 4 = .ok (.aload_n 0, 1) := by decide +kernel
theorem dX6_digest_5 : decode cX6_digest 5 = .ok (.getfield 19, 3) := by decide +kernel
theorem dX6_digest_8 : decode cX6_digest 8 = .ok (.getfield 111, 3) := by decide +kernel
theorem dX6_digest_11 : decode cX6_digest 11 = .ok (.ifCond .eq 85, 3) := by decide +kernel
theorem dX6_digest_14 : decode cX6_digest 14 = .ok (.iconst 0, 1) := by decide +kernel
theorem dX6_digest_15 : decode cX6_digest 15 = .ok (.istore_n 3, 1) := by decide +kernel
theorem dX6_digest_16 : decode cX6_digest 16 = .ok (.iload_n 3, 1) := by decide +kernel
theorem dX6_digest_17 : decode cX6_digest 17 = .ok (.iconst 4, 1) := by decide +kernel
theorem dX6_digest_18 : decode cX6_digest 18 = .ok (.if_icmp .ge 19, 3) := by decide +kernel
theorem dX6_digest_21 : decode cX6_digest 21 = .ok (.lload_n 1, 1) := by decide +kernel
theorem dX6_digest_22 : decode cX6_digest 22 = .ok (.aload_n 0, 1) := by decide +kernel
theorem dX6_digest_23 : decode cX6_digest 23 = .ok (.iload_n 3, 1) := by decide +kernel
theorem dX6_digest_24 : decode cX6_digest 24 = .ok (.invokevirtual 206, 3) := by decide +kernel
theorem dX6_digest_27 : decode cX6_digest 27 = .ok (.invokestatic 209, 3) := by decide +kernel
theorem dX6_digest_30 : decode cX6_digest 30 = .ok (.lstore_n 1, 1) := by decide +kernel
theorem dX6_digest_31 : decode cX6_digest 31 = .ok (.iinc 3 1, 3) := by decide +kernel
theorem dX6_digest_34 : decode cX6_digest 34 = .ok (.goto (-18), 3) := by decide +kernel
theorem dX6_digest_37 : decode cX6_digest 37 = .ok (.iconst 0, 1) := by decide +kernel
theorem dX6_digest_38 : decode cX6_digest 38 = .ok (.istore_n 3, 1) := by decide +kernel
theorem dX6_digest_39 : decode cX6_digest 39 = .ok (.iload_n 3, 1) := by decide +kernel
theorem dX6_digest_40 : decode cX6_digest 40 = .ok (.iconst 3, 1) := by decide +kernel
theorem dX6_digest_41 : decode cX6_digest 41 = .ok (.if_icmp .gt 19, 3) := by decide +kernel
theorem dX6_digest_44 : decode cX6_digest 44 = .ok (.lload_n 1, 1) := by decide +kernel
theorem dX6_digest_45 : decode cX6_digest 45 = .ok (.aload_n 0, 1) := by decide +kernel
theorem dX6_digest_46 : decode cX6_digest 46 = .ok (.iload_n 3, 1) := by decide +kernel
theorem dX6_digest_47 : decode cX6_digest 47 = .ok (.invokevirtual 213, 3) := by decide +kernel
theorem dX6_digest_50 : decode cX6_digest 50 = .ok (.invokestatic 209, 3) := by decide +kernel
theorem dX6_digest_53 : decode cX6_digest 53 = .ok (.lstore_n 1, 1) := by decide +kernel
theorem dX6_digest_54 : decode cX6_digest 54 = .ok (.iinc 3 1, 3) := by decide +kernel
theorem dX6_digest_57 : decode cX6_digest 57 = .ok (.goto (-18), 3) := by decide +kernel
theorem dX6_digest_60 : decode cX6_digest 60 = .ok (.lload_n 1, 1) := by decide +kernel
theorem dX6_digest_61 : decode cX6_digest 61 = .ok (.aload_n 0, 1) := by decide +kernel
theorem dX6_digest_62 : decode cX6_digest 62 = .ok (.iconst 0, 1) := by decide +kernel
theorem dX6_digest_63 : decode cX6_digest 63 = .ok (.invokevirtual 216, 3) := by decide +kernel
theorem dX6_digest_66 : decode cX6_digest 66 = .ok (.invokestatic 209, 3) := by decide +kernel
theorem dX6_digest_69 : decode cX6_digest 69 = .ok (.lstore_n 1, 1) := by decide +kernel
theorem dX6_digest_70 : decode cX6_digest 70 = .ok (.iconst 0, 1) := by decide +kernel
theorem dX6_digest_71 : decode cX6_digest 71 = .ok (.istore_n 3, 1) := by decide +kernel
theorem dX6_digest_72 : decode cX6_digest 72 = .ok (.iload_n 3, 1) := by decide +kernel
theorem dX6_digest_73 : decode cX6_digest 73 = .ok (.iconst 4, 1) := by decide +kernel
theorem dX6_digest_74 : decode cX6_digest 74 = .ok (.if_icmp .ge 22, 3) := by decide +kernel
theorem dX6_digest_77 : decode cX6_digest 77 = .ok (.lload_n 1, 1) := by decide +kernel
theorem dX6_digest_78 : decode cX6_digest 78 = .ok (.aload_n 0, 1) := by decide +kernel
theorem dX6_digest_79 : decode cX6_digest 79 = .ok (.bipush 10, 2) := by decide +kernel
theorem dX6_digest_81 : decode cX6_digest 81 = .ok (.iload_n 3, 1) := by decide +kernel
theorem dX6_digest_82 : decode cX6_digest 82 = .ok (.iadd, 1) := by decide +kernel
theorem dX6_digest_83 : decode cX6_digest 83 = .ok (.invokevirtual 216, 3) := by decide +kernel
theorem dX6_digest_86 : decode cX6_digest 86 = .ok (.invokestatic 209, 3) := by decide +kernel
theorem dX6_digest_89 : decode cX6_digest 89 = .ok (.lstore_n 1, 1) := by decide +kernel
theorem dX6_digest_90 : decode cX6_digest 90 = .ok (.iinc 3 1, 3) := by decide +kernel
theorem dX6_digest_93 : decode cX6_digest 93 = .ok (.goto (-21), 3) := by decide +kernel
theorem dX6_digest_96 : decode cX6_digest 96 = .ok (.iconst 0, 1) := by decide +kernel
theorem dX6_digest_97 : decode cX6_digest 97 = .ok (.istore_n 3, 1) := by decide +kernel
theorem dX6_digest_98 : decode cX6_digest 98 = .ok (.iload_n 3, 1) := by decide +kernel
theorem dX6_digest_99 : decode cX6_digest 99 = .ok (.iconst 4, 1) := by decide +kernel
theorem dX6_digest_100 : decode cX6_digest 100 = .ok (.if_icmp .ge 27, 3) := by decide +kernel
theorem dX6_digest_103 : decode cX6_digest 103 = .ok (.iload_n 3, 1) := by decide +kernel
theorem dX6_digest_104 : decode cX6_digest 104 = .ok (.aload_n 0, 1) := by decide +kernel
theorem dX6_digest_105 : decode cX6_digest 105 = .ok (.getfield 19, 3) := by decide +kernel
theorem dX6_digest_108 : decode cX6_digest 108 = .ok (.getfield 111, 3) := by decide +kernel
theorem dX6_digest_111 : decode cX6_digest 111 = .ok (.if_icmp .ge 16, 3) := by decide +kernel
theorem dX6_digest_114 : decode cX6_digest 114 = .ok (.aload_n 0, 1) := by decide +kernel
theorem dX6_digest_115 : decode cX6_digest 115 = .ok (.lload_n 1, 1) := by decide +kernel
theorem dX6_digest_116 : decode cX6_digest 116 = .ok (.iload_n 3, 1) := by decide +kernel
theorem dX6_digest_117 : decode cX6_digest 117 = .ok (.invokevirtual 219, 3) := by decide +kernel
theorem dX6_digest_120 : decode cX6_digest 120 = .ok (.lstore_n 1, 1) := by decide +kernel
theorem dX6_digest_121 : decode cX6_digest 121 = .ok (.iinc 3 1, 3) := by decide +kernel
theorem dX6_digest_124 : decode cX6_digest 124 = .ok (.goto (-26), 3) := by decide +kernel
theorem dX6_digest_127 : decode cX6_digest 127 = .ok (.iconst 0, 1) := by decide +kernel
theorem dX6_digest_128 : decode cX6_digest 128 = .ok (.istore_n 3, 1) := by decide +kernel
theorem dX6_digest_129 : decode cX6_digest 129 = .ok (.iload_n 3, 1) := by decide +kernel
theorem dX6_digest_130 : decode cX6_digest 130 = .ok (.bipush 25, 2) := by decide +kernel
theorem dX6_digest_132 : decode cX6_digest 132 = .ok (.if_icmp .ge 36, 3) := by decide +kernel
theorem dX6_digest_135 : decode cX6_digest 135 = .ok (.iload_n 3, 1) := by decide +kernel
theorem dX6_digest_136 : decode cX6_digest 136 = .ok (.aload_n 0, 1) := by decide +kernel
theorem dX6_digest_137 : decode cX6_digest 137 = .ok (.getfield 12, 3) := by decide +kernel
theorem dX6_digest_140 : decode cX6_digest 140 = .ok (.getfield 44, 3) := by decide +kernel
theorem dX6_digest_143 : decode cX6_digest 143 = .ok (.if_icmp .ge 25, 3) := by decide +kernel
theorem dX6_digest_146 : decode cX6_digest 146 = .ok (.lload_n 1, 1) := by decide +kernel
theorem dX6_digest_147 : decode cX6_digest 147 = .ok (.aload_n 0, 1) := by decide +kernel
theorem dX6_digest_148 : decode cX6_digest 148 = .ok (.getfield 12, 3) := by decide +kernel
theorem dX6_digest_151 : decode cX6_digest 151 = .ok (.getfield 222, 3) := by decide +kernel
theorem dX6_digest_154 : decode cX6_digest 154 = .ok (.iload_n 3, 1) := by decide +kernel
theorem dX6_digest_155 : decode cX6_digest 155 = .ok (.invokevirtual 89, 3) := by decide +kernel
theorem dX6_digest_158 : decode cX6_digest 158 = .ok (.invokestatic 209, 3) := by decide +kernel
theorem dX6_digest_161 : decode cX6_digest 161 = .ok (.lstore_n 1, 1) := by decide +kernel
theorem dX6_digest_162 : decode cX6_digest 162 = .ok (.iinc 3 1, 3) := by decide +kernel
theorem dX6_digest_165 : decode cX6_digest 165 = .ok (.goto (-36), 3) := by decide +kernel
theorem dX6_digest_168 : decode cX6_digest 168 = .ok (.iconst 0, 1) := by decide +kernel
theorem dX6_digest_169 : decode cX6_digest 169 = .ok (.istore_n 3, 1) := by decide +kernel
theorem dX6_digest_170 : decode cX6_digest 170 = .ok (.iload_n 3, 1) := by decide +kernel
theorem dX6_digest_171 : decode cX6_digest 171 = .ok (.bipush 7, 2) := by decide +kernel
theorem dX6_digest_173 : decode cX6_digest 173 = .ok (.if_icmp .ge 19, 3) := by decide +kernel
theorem dX6_digest_176 : decode cX6_digest 176 = .ok (.lload_n 1, 1) := by decide +kernel
theorem dX6_digest_177 : decode cX6_digest 177 = .ok (.aload_n 0, 1) := by decide +kernel
theorem dX6_digest_178 : decode cX6_digest 178 = .ok (.iload_n 3, 1) := by decide +kernel
theorem dX6_digest_179 : decode cX6_digest 179 = .ok (.invokevirtual 225, 3) := by decide +kernel
theorem dX6_digest_182 : decode cX6_digest 182 = .ok (.invokestatic 209, 3) := by decide +kernel
theorem dX6_digest_185 : decode cX6_digest 185 = .ok (.lstore_n 1, 1) := by decide +kernel
theorem dX6_digest_186 : decode cX6_digest 186 = .ok (.iinc 3 1, 3) := by decide +kernel
theorem dX6_digest_189 : decode cX6_digest 189 = .ok (.goto (-19), 3) := by decide +kernel
theorem dX6_digest_192 : decode cX6_digest 192 = .ok (.lload_n 1, 1) := by decide +kernel
theorem dX6_digest_193 : decode cX6_digest 193 = .ok (.lreturn, 1) := by decide +kernel
theorem dX6_with_0 : decode cX6_with 0 = .ok (.ldc2_w 228, 3) := by decide +kernel
theorem dX6_with_3 : decode cX6_with 3 = .ok (.lload_n 0, 1) := by decide +kernel
theorem dX6_with_4 : decode cX6_with 4 = .ok (.lmul, 1) := by decide +kernel
theorem dX6_with_5 : decode cX6_with 5 = .ok (.iload_n 2, 1) := by decide +kernel
theorem dX6_with_6 : decode cX6_with 6 = .ok (.i2l, 1) := by decide +kernel
theorem dX6_with_7 : decode cX6_with 7 = .ok (.ladd, 1) := by decide +kernel
theorem dX6_with_8 : decode cX6_with 8 = .ok (.lreturn, 1) := by decide +kernel
set_option maxRecDepth 20000 in
theorem ggX6_withHeir_X6_about : GoodIn wsX6_withHeir wsX6_about := goodIn_r _ [5, 6, 7, 8, 9, 10, 11, 12, 13, 14, 4, 15, 16, 17, 18, 19, 20, 21, 22, 23, 24, 25, 26, 27, 28, 29, 30, 31, 32, 33, 34, 35, 36, 37, 38, 39, 40, 41, 42, 43, 44, 45, 46, 47, 48, 49, 50, 51, 52, 53, 54, 107, 108, 109, 110, 111, 112, 113, 114, 115, 116, 117, 118, 119, 120, 121, 122, 123, 124, 125, 126] (by decide +kernel) (by decide +kernel)
set_option maxRecDepth 20000 in
theorem gX6_withHeir_X6_about : GoodIn wsX6_withHeir (wsV RX6 230 RX6 yX6_about wsX6_about) := goodIn_app (goodIn_of _ (by decide +kernel)) ggX6_withHeir_X6_about
set_option maxRecDepth 20000 in
theorem ggX6_withHeir_X6_with : GoodIn wsX6_withHeir wsX6_with := goodIn_r _ [57, 58] (by decide +kernel) (by decide +kernel)
set_option maxRecDepth 20000 in
theorem gX6_withHeir_X6_with : GoodIn wsX6_withHeir (va_wsS RX6 209 yX6_with wsX6_with) := goodIn_app (goodIn_of _ (by decide +kernel)) ggX6_withHeir_X6_with
set_option maxRecDepth 20000 in
theorem ggX6_withHeir_X6_served : GoodIn wsX6_withHeir wsX6_served := goodIn_r _ [62, 6, 7, 8, 9, 10, 11, 12, 38, 29, 30, 31, 32, 33, 63, 64, 65, 66, 67, 68, 69, 70, 71, 72, 73, 74, 75, 23, 24, 25, 26, 27, 28, 34, 17, 18, 19, 20, 21, 35, 36, 37, 76, 77, 78, 79, 80, 52, 53, 54, 43, 44, 45, 46, 107, 108, 109, 110, 111, 112, 113, 114, 115, 126, 116, 117, 118, 119, 120, 121, 122, 123, 124, 125] (by decide +kernel) (by decide +kernel)
set_option maxRecDepth 20000 in
theorem gX6_withHeir_X6_served : GoodIn wsX6_withHeir (wsV RX6 233 RX6 yX6_served wsX6_served) := goodIn_app (goodIn_of _ (by decide +kernel)) ggX6_withHeir_X6_served
set_option maxRecDepth 20000 in
theorem ggX6_withHeir_X6_truths : GoodIn wsX6_withHeir wsX6_truths := goodIn_r _ [84, 6, 7, 8, 9, 10, 11, 12, 13, 14, 4, 15, 85, 86, 87, 88, 27, 28, 29, 30, 31, 32, 33, 34, 17, 18, 19, 20, 21, 107, 108, 109, 110, 111, 112, 113, 114, 115, 116, 117, 118, 119, 120, 121, 122, 123, 124, 126, 125] (by decide +kernel) (by decide +kernel)
set_option maxRecDepth 20000 in
theorem gX6_withHeir_X6_truths : GoodIn wsX6_withHeir (wsV RX6 186 RX6 yX6_truths wsX6_truths) := goodIn_app (goodIn_of _ (by decide +kernel)) ggX6_withHeir_X6_truths
set_option maxRecDepth 20000 in
theorem ggX6_withHeir_X6_ask : GoodIn wsX6_withHeir wsX6_ask := goodIn_r _ [92, 6, 7, 8, 9, 10, 11, 12, 13, 14, 4, 15, 81, 82, 83, 84, 85, 86, 87, 88, 27, 28, 29, 30, 31, 32, 33, 34, 17, 18, 19, 20, 21, 16, 93, 94, 95, 96, 97, 98, 99, 100, 101, 102, 103, 104, 105, 106, 107, 108, 109, 110, 111, 112, 113, 114, 115, 116, 117, 118, 119, 120, 121, 122, 123, 124, 126, 125] (by decide +kernel) (by decide +kernel)
set_option maxRecDepth 20000 in
theorem gX6_withHeir_X6_ask : GoodIn wsX6_withHeir (wsV RX6 236 RX6 yX6_ask wsX6_ask) := goodIn_app (goodIn_of _ (by decide +kernel)) ggX6_withHeir_X6_ask
theorem dX6_withHeir_0 : decode cX6_withHeir 0 = .ok (.lload_n 1, 1) := by decide +kernel
theorem dX6_withHeir_1 : decode cX6_withHeir 1 = .ok (.lstore 4, 2) := by decide +kernel
theorem dX6_withHeir_3 : decode cX6_withHeir 3 = .ok (.iconst 0, 1) := by decide +kernel
theorem dX6_withHeir_4 : decode cX6_withHeir 4 = .ok (.istore 6, 2) := by decide +kernel
theorem dX6_withHeir_6 : decode cX6_withHeir 6 = .ok (.iload 6, 2) := by decide +kernel
theorem dX6_withHeir_8 : decode cX6_withHeir 8 = .ok (.iconst 3, 1) := by decide +kernel
theorem dX6_withHeir_9 : decode cX6_withHeir 9 = .ok (.if_icmp .gt 23, 3) := by decide +kernel
theorem dX6_withHeir_12 : decode cX6_withHeir 12 = .ok (.lload 4, 2) := by decide +kernel
theorem dX6_withHeir_14 : decode cX6_withHeir 14 = .ok (.aload_n 0, 1) := by decide +kernel
theorem dX6_withHeir_15 : decode cX6_withHeir 15 = .ok (.iload_n 3, 1) := by decide +kernel
theorem dX6_withHeir_16 : decode cX6_withHeir 16 = .ok (.iload 6, 2) := by decide +kernel
theorem dX6_withHeir_18 : decode cX6_withHeir 18 = .ok (.invokevirtual 230, 3) := by decide +kernel
theorem dX6_withHeir_21 : decode cX6_withHeir 21 = .ok (.invokestatic 209, 3) := by decide +kernel
theorem dX6_withHeir_24 : decode cX6_withHeir 24 = .ok (.lstore 4, 2) := by decide +kernel
theorem dX6_withHeir_26 : decode cX6_withHeir 26 = .ok (.iinc 6 1, 3) := by decide +kernel
theorem dX6_withHeir_29 : decode cX6_withHeir 29 = .ok (.goto (-23), 3) := by decide +kernel
theorem dX6_withHeir_32 : decode cX6_withHeir 32 = .ok (.iconst 0, 1) := by decide +kernel
theorem dX6_withHeir_33 : decode cX6_withHeir 33 = .ok (.istore 6, 2) := by decide +kernel
theorem dX6_withHeir_35 : decode cX6_withHeir 35 = .ok (.iload 6, 2) := by decide +kernel
theorem dX6_withHeir_37 : decode cX6_withHeir 37 = .ok (.iconst 4, 1) := by decide +kernel
theorem dX6_withHeir_38 : decode cX6_withHeir 38 = .ok (.if_icmp .ge 26, 3) := by decide +kernel
theorem dX6_withHeir_41 : decode cX6_withHeir 41 = .ok (.lload 4, 2) := by decide +kernel
theorem dX6_withHeir_43 : decode cX6_withHeir 43 = .ok (.aload_n 0, 1) := by decide +kernel
theorem dX6_withHeir_44 : decode cX6_withHeir 44 = .ok (.iload_n 3, 1) := by decide +kernel
theorem dX6_withHeir_45 : decode cX6_withHeir 45 = .ok (.bipush 10, 2) := by decide +kernel
theorem dX6_withHeir_47 : decode cX6_withHeir 47 = .ok (.iload 6, 2) := by decide +kernel
theorem dX6_withHeir_49 : decode cX6_withHeir 49 = .ok (.iadd, 1) := by decide +kernel
theorem dX6_withHeir_50 : decode cX6_withHeir 50 = .ok (.invokevirtual 230, 3) := by decide +kernel
theorem dX6_withHeir_53 : decode cX6_withHeir 53 = .ok (.invokestatic 209, 3) := by decide +kernel
theorem dX6_withHeir_56 : decode cX6_withHeir 56 = .ok (.lstore 4, 2) := by decide +kernel
theorem dX6_withHeir_58 : decode cX6_withHeir 58 = .ok (.iinc 6 1, 3) := by decide +kernel
theorem dX6_withHeir_61 : decode cX6_withHeir 61 = .ok (.goto (-26), 3) := by decide +kernel
theorem dX6_withHeir_64 : decode cX6_withHeir 64 = .ok (.iconst 0, 1) := by decide +kernel
theorem dX6_withHeir_65 : decode cX6_withHeir 65 = .ok (.istore 6, 2) := by decide +kernel
theorem dX6_withHeir_67 : decode cX6_withHeir 67 = .ok (.iload 6, 2) := by decide +kernel
theorem dX6_withHeir_69 : decode cX6_withHeir 69 = .ok (.iconst 4, 1) := by decide +kernel
theorem dX6_withHeir_70 : decode cX6_withHeir 70 = .ok (.if_icmp .ge 26, 3) := by decide +kernel
theorem dX6_withHeir_73 : decode cX6_withHeir 73 = .ok (.lload 4, 2) := by decide +kernel
theorem dX6_withHeir_75 : decode cX6_withHeir 75 = .ok (.aload_n 0, 1) := by decide +kernel
theorem dX6_withHeir_76 : decode cX6_withHeir 76 = .ok (.iload_n 3, 1) := by decide +kernel
theorem dX6_withHeir_77 : decode cX6_withHeir 77 = .ok (.bipush 20, 2) := by decide +kernel
theorem dX6_withHeir_79 : decode cX6_withHeir 79 = .ok (.iload 6, 2) := by decide +kernel
theorem dX6_withHeir_81 : decode cX6_withHeir 81 = .ok (.iadd, 1) := by decide +kernel
theorem dX6_withHeir_82 : decode cX6_withHeir 82 = .ok (.invokevirtual 230, 3) := by decide +kernel
theorem dX6_withHeir_85 : decode cX6_withHeir 85 = .ok (.invokestatic 209, 3) := by decide +kernel
theorem dX6_withHeir_88 : decode cX6_withHeir 88 = .ok (.lstore 4, 2) := by decide +kernel
theorem dX6_withHeir_90 : decode cX6_withHeir 90 = .ok (.iinc 6 1, 3) := by decide +kernel
theorem dX6_withHeir_93 : decode cX6_withHeir 93 = .ok (.goto (-26), 3) := by decide +kernel
theorem dX6_withHeir_96 : decode cX6_withHeir 96 = .ok (.lload 4, 2) := by decide +kernel
theorem dX6_withHeir_98 : decode cX6_withHeir 98 = .ok (.aload_n 0, 1) := by decide +kernel
theorem dX6_withHeir_99 : decode cX6_withHeir 99 = .ok (.iload_n 3, 1) := by decide +kernel
theorem dX6_withHeir_100 : decode cX6_withHeir 100 = .ok (.iconst 0, 1) := by decide +kernel
theorem dX6_withHeir_101 : decode cX6_withHeir 101 = .ok (.invokevirtual 233, 3) := by decide +kernel
theorem dX6_withHeir_104 : decode cX6_withHeir 104 = .ok (.invokestatic 209, 3) := by decide +kernel
theorem dX6_withHeir_107 : decode cX6_withHeir 107 = .ok (.lstore 4, 2) := by decide +kernel
theorem dX6_withHeir_109 : decode cX6_withHeir 109 = .ok (.lload 4, 2) := by decide +kernel
theorem dX6_withHeir_111 : decode cX6_withHeir 111 = .ok (.aload_n 0, 1) := by decide +kernel
theorem dX6_withHeir_112 : decode cX6_withHeir 112 = .ok (.iload_n 3, 1) := by decide +kernel
theorem dX6_withHeir_113 : decode cX6_withHeir 113 = .ok (.iconst 1, 1) := by decide +kernel
theorem dX6_withHeir_114 : decode cX6_withHeir 114 = .ok (.invokevirtual 233, 3) := by decide +kernel
theorem dX6_withHeir_117 : decode cX6_withHeir 117 = .ok (.invokestatic 209, 3) := by decide +kernel
theorem dX6_withHeir_120 : decode cX6_withHeir 120 = .ok (.lstore 4, 2) := by decide +kernel
theorem dX6_withHeir_122 : decode cX6_withHeir 122 = .ok (.iconst 0, 1) := by decide +kernel
theorem dX6_withHeir_123 : decode cX6_withHeir 123 = .ok (.istore 6, 2) := by decide +kernel
theorem dX6_withHeir_125 : decode cX6_withHeir 125 = .ok (.iload 6, 2) := by decide +kernel
theorem dX6_withHeir_127 : decode cX6_withHeir 127 = .ok (.iconst 4, 1) := by decide +kernel
theorem dX6_withHeir_128 : decode cX6_withHeir 128 = .ok (.if_icmp .ge 37, 3) := by decide +kernel
theorem dX6_withHeir_131 : decode cX6_withHeir 131 = .ok (.lload 4, 2) := by decide +kernel
theorem dX6_withHeir_133 : decode cX6_withHeir 133 = .ok (.aload_n 0, 1) := by decide +kernel
theorem dX6_withHeir_134 : decode cX6_withHeir 134 = .ok (.iload_n 3, 1) := by decide +kernel
theorem dX6_withHeir_135 : decode cX6_withHeir 135 = .ok (.iload 6, 2) := by decide +kernel
theorem dX6_withHeir_137 : decode cX6_withHeir 137 = .ok (.invokevirtual 186, 3) := by decide +kernel
theorem dX6_withHeir_140 : decode cX6_withHeir 140 = .ok (.invokestatic 209, 3) := by decide +kernel
theorem dX6_withHeir_143 : decode cX6_withHeir 143 = .ok (.lstore 4, 2) := by decide +kernel
theorem dX6_withHeir_145 : decode cX6_withHeir 145 = .ok (.lload 4, 2) := by decide +kernel
theorem dX6_withHeir_147 : decode cX6_withHeir 147 = .ok (.aload_n 0, 1) := by decide +kernel
theorem dX6_withHeir_148 : decode cX6_withHeir 148 = .ok (.iload_n 3, 1) := by decide +kernel
theorem dX6_withHeir_149 : decode cX6_withHeir 149 = .ok (.iload 6, 2) := by decide +kernel
theorem dX6_withHeir_151 : decode cX6_withHeir 151 = .ok (.invokevirtual 236, 3) := by decide +kernel
theorem dX6_withHeir_154 : decode cX6_withHeir 154 = .ok (.invokestatic 209, 3) := by decide +kernel
theorem dX6_withHeir_157 : decode cX6_withHeir 157 = .ok (.lstore 4, 2) := by decide +kernel
theorem dX6_withHeir_159 : decode cX6_withHeir 159 = .ok (.iinc 6 1, 3) := by decide +kernel
theorem dX6_withHeir_162 : decode cX6_withHeir 162 = .ok (.goto (-37), 3) := by decide +kernel
theorem dX6_withHeir_165 : decode cX6_withHeir 165 = .ok (.lload 4, 2) := by decide +kernel
theorem dX6_withHeir_167 : decode cX6_withHeir 167 = .ok (.lreturn, 1) := by decide +kernel
set_option maxRecDepth 20000 in
theorem ggX6_areTwo_X1_knows : GoodIn wsX6_areTwo wsX1_knows := goodIn_r _ [6, 7, 14, 15, 16] (by decide +kernel) (by decide +kernel)
set_option maxRecDepth 20000 in
theorem gX6_areTwo_X1_knows : GoodIn wsX6_areTwo (wsV RX6 62 RX1 yX1_knows wsX1_knows) := goodIn_app (goodIn_of _ (by decide +kernel)) ggX6_areTwo_X1_knows
theorem dX6_areTwo_0 : decode cX6_areTwo 0 = .ok (.aload_n 0, 1) := by decide +kernel
theorem dX6_areTwo_1 : decode cX6_areTwo 1 = .ok (.getfield 19, 3) := by decide +kernel
theorem dX6_areTwo_4 : decode cX6_areTwo 4 = .ok (.iload_n 1, 1) := by decide +kernel
theorem dX6_areTwo_5 : decode cX6_areTwo 5 = .ok (.invokevirtual 62, 3) := by decide +kernel
theorem dX6_areTwo_8 : decode cX6_areTwo 8 = .ok (.ifCond .eq 23, 3) := by decide +kernel
theorem dX6_areTwo_11 : decode cX6_areTwo 11 = .ok (.aload_n 0, 1) := by decide +kernel
theorem dX6_areTwo_12 : decode cX6_areTwo 12 = .ok (.getfield 19, 3) := by decide +kernel
theorem dX6_areTwo_15 : decode cX6_areTwo 15 = .ok (.iload_n 2, 1) := by decide +kernel
theorem dX6_areTwo_16 : decode cX6_areTwo 16 = .ok (.invokevirtual 62, 3) := by decide +kernel
theorem dX6_areTwo_19 : decode cX6_areTwo 19 = .ok (.ifCond .eq 12, 3) := by decide +kernel
theorem dX6_areTwo_22 : decode cX6_areTwo 22 = .ok (.iload_n 1, 1) := by decide +kernel
theorem dX6_areTwo_23 : decode cX6_areTwo 23 = .ok (.iload_n 2, 1) := by decide +kernel
theorem dX6_areTwo_24 : decode cX6_areTwo 24 = .ok (.if_icmp .eq 7, 3) := by decide +kernel
theorem dX6_areTwo_27 : decode cX6_areTwo 27 = .ok (.iconst 1, 1) := by decide +kernel
theorem dX6_areTwo_28 : decode cX6_areTwo 28 = .ok (.goto 4, 3) := by decide +kernel
theorem dX6_areTwo_31 : decode cX6_areTwo 31 = .ok (.iconst 0, 1) := by decide +kernel
theorem dX6_areTwo_32 : decode cX6_areTwo 32 = .ok (.ireturn, 1) := by decide +kernel
theorem dX6_isThing_0 : decode cX6_isThing 0 = .ok (.iload_n 0, 1) := by decide +kernel
theorem dX6_isThing_1 : decode cX6_isThing 1 = .ok (.ifCond .lt 12, 3) := by decide +kernel
theorem dX6_isThing_4 : decode cX6_isThing 4 = .ok (.iload_n 0, 1) := by decide +kernel
theorem dX6_isThing_5 : decode cX6_isThing 5 = .ok (.iconst 4, 1) := by decide +kernel
theorem dX6_isThing_6 : decode cX6_isThing 6 = .ok (.if_icmp .ge 7, 3) := by decide +kernel
theorem dX6_isThing_9 : decode cX6_isThing 9 = .ok (.iconst 1, 1) := by decide +kernel
theorem dX6_isThing_10 : decode cX6_isThing 10 = .ok (.goto 4, 3) := by decide +kernel
theorem dX6_isThing_13 : decode cX6_isThing 13 = .ok (.iconst 0, 1) := by decide +kernel
theorem dX6_isThing_14 : decode cX6_isThing 14 = .ok (.ireturn, 1) := by decide +kernel
theorem dX6_isA_0 : decode cX6_isA 0 = .ok (.iload_n 1, 1) := by decide +kernel
theorem dX6_isA_1 : decode cX6_isA 1 = .ok (.ifCond .eq 18, 3) := by decide +kernel
theorem dX6_isA_4 : decode cX6_isA 4 = .ok (.iload_n 1, 1) := by decide +kernel
theorem dX6_isA_5 : decode cX6_isA 5 = .ok (.iload_n 0, 1) := by decide +kernel
theorem dX6_isA_6 : decode cX6_isA 6 = .ok (.if_icmp .eq 13, 3) := by decide +kernel
theorem dX6_isA_9 : decode cX6_isA 9 = .ok (.iload_n 1, 1) := by decide +kernel
theorem dX6_isA_10 : decode cX6_isA 10 = .ok (.iconst 1, 1) := by decide +kernel
theorem dX6_isA_11 : decode cX6_isA 11 = .ok (.if_icmp .ne 12, 3) := by decide +kernel
theorem dX6_isA_14 : decode cX6_isA 14 = .ok (.iload_n 0, 1) := by decide +kernel
theorem dX6_isA_15 : decode cX6_isA 15 = .ok (.iconst 4, 1) := by decide +kernel
theorem dX6_isA_16 : decode cX6_isA 16 = .ok (.if_icmp .ne 7, 3) := by decide +kernel
theorem dX6_isA_19 : decode cX6_isA 19 = .ok (.iconst 1, 1) := by decide +kernel
theorem dX6_isA_20 : decode cX6_isA 20 = .ok (.goto 4, 3) := by decide +kernel
theorem dX6_isA_23 : decode cX6_isA 23 = .ok (.iconst 0, 1) := by decide +kernel
theorem dX6_isA_24 : decode cX6_isA 24 = .ok (.ireturn, 1) := by decide +kernel
set_option maxRecDepth 20000 in
theorem ggX6_leftAtWorst_J6_bitCount_0f7a4 : GoodIn wsX6_leftAtWorst wsJ6_bitCount_0f7a4 := goodIn_r _ [8, 9, 10, 11] (by decide +kernel) (by decide +kernel)
set_option maxRecDepth 20000 in
theorem gX6_leftAtWorst_J6_bitCount_0f7a4 : GoodIn wsX6_leftAtWorst (va_wsS RX6 239 yJ6_bitCount_0f7a4 wsJ6_bitCount_0f7a4) := goodIn_app (goodIn_of _ (by decide +kernel)) ggX6_leftAtWorst_J6_bitCount_0f7a4
theorem dX6_leftAtWorst_0 : decode cX6_leftAtWorst 0 = .ok (.iload_n 0, 1) := by decide +kernel
theorem dX6_leftAtWorst_1 : decode cX6_leftAtWorst 1 = .ok (.iload_n 1, 1) := by decide +kernel
theorem dX6_leftAtWorst_2 : decode cX6_leftAtWorst 2 = .ok (.iconst 1, 1) := by decide +kernel
theorem dX6_leftAtWorst_3 : decode cX6_leftAtWorst 3 = .ok (.iadd, 1) := by decide +kernel
theorem dX6_leftAtWorst_4 : decode cX6_leftAtWorst 4 = .ok (.ishr, 1) := by decide +kernel
theorem dX6_leftAtWorst_5 : decode cX6_leftAtWorst 5 = .ok (.invokestatic 239, 3) := by decide +kernel
theorem dX6_leftAtWorst_8 : decode cX6_leftAtWorst 8 = .ok (.istore_n 2, 1) := by decide +kernel
theorem dX6_leftAtWorst_9 : decode cX6_leftAtWorst 9 = .ok (.iload_n 2, 1) := by decide +kernel
theorem dX6_leftAtWorst_10 : decode cX6_leftAtWorst 10 = .ok (.iload_n 0, 1) := by decide +kernel
theorem dX6_leftAtWorst_11 : decode cX6_leftAtWorst 11 = .ok (.invokestatic 239, 3) := by decide +kernel
theorem dX6_leftAtWorst_14 : decode cX6_leftAtWorst 14 = .ok (.iload_n 2, 1) := by decide +kernel
theorem dX6_leftAtWorst_15 : decode cX6_leftAtWorst 15 = .ok (.isub, 1) := by decide +kernel
theorem dX6_leftAtWorst_16 : decode cX6_leftAtWorst 16 = .ok (.invokestatic 244, 3) := by decide +kernel
theorem dX6_leftAtWorst_19 : decode cX6_leftAtWorst 19 = .ok (.ireturn, 1) := by decide +kernel
theorem dX6_nextSeed_0 : decode cX6_nextSeed 0 = .ok (.ldc2_w 249, 3) := by decide +kernel
theorem dX6_nextSeed_3 : decode cX6_nextSeed 3 = .ok (.iload_n 0, 1) := by decide +kernel
theorem dX6_nextSeed_4 : decode cX6_nextSeed 4 = .ok (.i2l, 1) := by decide +kernel
theorem dX6_nextSeed_5 : decode cX6_nextSeed 5 = .ok (.lmul, 1) := by decide +kernel
theorem dX6_nextSeed_6 : decode cX6_nextSeed 6 = .ok (.ldc2_w 251, 3) := by decide +kernel
theorem dX6_nextSeed_9 : decode cX6_nextSeed 9 = .ok (.ladd, 1) := by decide +kernel
theorem dX6_nextSeed_10 : decode cX6_nextSeed 10 = .ok (.ldc2_w 253, 3) := by decide +kernel
theorem dX6_nextSeed_13 : decode cX6_nextSeed 13 = .ok (.land, 1) := by decide +kernel
theorem dX6_nextSeed_14 : decode cX6_nextSeed 14 = .ok (.l2i, 1) := by decide +kernel
theorem dX6_nextSeed_15 : decode cX6_nextSeed 15 = .ok (.ireturn, 1) := by decide +kernel
theorem dX6_drawn_0 : decode cX6_drawn 0 = .ok (.iload_n 1, 1) := by decide +kernel
theorem dX6_drawn_1 : decode cX6_drawn 1 = .ok (.ifCond .gt 7, 3) := by decide +kernel
theorem dX6_drawn_4 : decode cX6_drawn 4 = .ok (.iconst 0, 1) := by decide +kernel
theorem dX6_drawn_5 : decode cX6_drawn 5 = .ok (.goto 9, 3) := by decide +kernel
theorem dX6_drawn_8 : decode cX6_drawn 8 = .ok (.iload_n 0, 1) := by decide +kernel
theorem dX6_drawn_9 : decode cX6_drawn 9 = .ok (.ldc 255, 2) := by decide +kernel
theorem dX6_drawn_11 : decode cX6_drawn 11 = .ok (.idiv, 1) := by decide +kernel
theorem dX6_drawn_12 : decode cX6_drawn 12 = .ok (.iload_n 1, 1) := by decide +kernel
theorem dX6_drawn_13 : decode cX6_drawn 13 = .ok (.irem, 1) := by decide +kernel
theorem dX6_drawn_14 : decode cX6_drawn 14 = .ok (.ireturn, 1) := by decide +kernel
