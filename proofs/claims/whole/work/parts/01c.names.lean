theorem dX7_init_0 : decode cX7_init 0 = .ok (.aload_n 0, 1) := by decide +kernel
theorem dX7_init_1 : decode cX7_init 1 = .ok (.invokespecial 1, 3) := by decide +kernel
theorem dX7_init_4 : decode cX7_init 4 = .ok (.aload_n 0, 1) := by decide +kernel
theorem dX7_init_5 : decode cX7_init 5 = .ok (.iconst 4, 1) := by decide +kernel
theorem dX7_init_6 : decode cX7_init 6 = .ok (.newarray .int, 2) := by decide +kernel
theorem dX7_init_8 : decode cX7_init 8 = .ok (.putfield 7, 3) := by decide +kernel
theorem dX7_init_11 : decode cX7_init 11 = .ok (.aload_n 0, 1) := by decide +kernel
theorem dX7_init_12 : decode cX7_init 12 = .ok (.bipush 16, 2) := by decide +kernel
theorem dX7_init_14 : decode cX7_init 14 = .ok (.newarray .int, 2) := by decide +kernel
theorem dX7_init_16 : decode cX7_init 16 = .ok (.putfield 13, 3) := by decide +kernel
theorem dX7_init_19 : decode cX7_init 19 = .ok (.aload_n 0, 1) := by decide +kernel
theorem dX7_init_20 : decode cX7_init 20 = .ok (.iconst 4, 1) := by decide +kernel
theorem dX7_init_21 : decode cX7_init 21 = .ok (.newarray .int, 2) := by decide +kernel
theorem dX7_init_23 : decode cX7_init 23 = .ok (.putfield 16, 3) := by decide +kernel
theorem dX7_init_26 : decode cX7_init 26 = .ok (.aload_n 0, 1) := by decide +kernel
theorem dX7_init_27 : decode cX7_init 27 = .ok (.iconst 4, 1) := by decide +kernel
theorem dX7_init_28 : decode cX7_init 28 = .ok (.newarray .int, 2) := by decide +kernel
theorem dX7_init_30 : decode cX7_init 30 = .ok (.putfield 19, 3) := by decide +kernel
theorem dX7_init_33 : decode cX7_init 33 = .ok (.aload_n 0, 1) := by decide +kernel
theorem dX7_init_34 : decode cX7_init 34 = .ok (.bipush 6, 2) := by decide +kernel
theorem dX7_init_36 : decode cX7_init 36 = .ok (.newarray .int, 2) := by decide +kernel
theorem dX7_init_38 : decode cX7_init 38 = .ok (.putfield 22, 3) := by decide +kernel
theorem dX7_init_41 : decode cX7_init 41 = .ok (.aload_n 0, 1) := by decide +kernel
theorem dX7_init_42 : decode cX7_init 42 = .ok (.bipush 6, 2) := by decide +kernel
theorem dX7_init_44 : decode cX7_init 44 = .ok (.newarray .int, 2) := by decide +kernel
theorem dX7_init_46 : decode cX7_init 46 = .ok (.putfield 25, 3) := by decide +kernel
theorem dX7_init_49 : decode cX7_init 49 = .ok (.aload_n 0, 1) := by decide +kernel
theorem dX7_init_50 : decode cX7_init 50 = .ok (.bipush 6, 2) := by decide +kernel
theorem dX7_init_52 : decode cX7_init 52 = .ok (.newarray .int, 2) := by decide +kernel
theorem dX7_init_54 : decode cX7_init 54 = .ok (.putfield 28, 3) := by decide +kernel
theorem dX7_init_57 : decode cX7_init 57 = .ok (.aload_n 0, 1) := by decide +kernel
theorem dX7_init_58 : decode cX7_init 58 = .ok (.bipush 6, 2) := by decide +kernel
theorem dX7_init_60 : decode cX7_init 60 = .ok (.newarray .int, 2) := by decide +kernel
theorem dX7_init_62 : decode cX7_init 62 = .ok (.putfield 31, 3) := by decide +kernel
theorem dX7_init_65 : decode cX7_init 65 = .ok (.aload_n 0, 1) := by decide +kernel
theorem dX7_init_66 : decode cX7_init 66 = .ok (.bipush 25, 2) := by decide +kernel
theorem dX7_init_68 : decode cX7_init 68 = .ok (.newarray .byte, 2) := by decide +kernel
theorem dX7_init_70 : decode cX7_init 70 = .ok (.putfield 34, 3) := by decide +kernel
theorem dX7_init_73 : decode cX7_init 73 = .ok (.aload_n 0, 1) := by decide +kernel
theorem dX7_init_74 : decode cX7_init 74 = .ok (.bipush 16, 2) := by decide +kernel
theorem dX7_init_76 : decode cX7_init 76 = .ok (.newarray .int, 2) := by decide +kernel
theorem dX7_init_78 : decode cX7_init 78 = .ok (.putfield 38, 3) := by decide +kernel
theorem dX7_init_81 : decode cX7_init 81 = .ok (.aload_n 0, 1) := by decide +kernel
theorem dX7_init_82 : decode cX7_init 82 = .ok (.iconst 4, 1) := by decide +kernel
theorem dX7_init_83 : decode cX7_init 83 = .ok (.newarray .int, 2) := by decide +kernel
theorem dX7_init_85 : decode cX7_init 85 = .ok (.putfield 41, 3) := by decide +kernel
theorem dX7_init_88 : decode cX7_init 88 = .ok (.aload_n 0, 1) := by decide +kernel
theorem dX7_init_89 : decode cX7_init 89 = .ok (.sipush 256, 3) := by decide +kernel
theorem dX7_init_92 : decode cX7_init 92 = .ok (.newarray .int, 2) := by decide +kernel
theorem dX7_init_94 : decode cX7_init 94 = .ok (.putfield 44, 3) := by decide +kernel
theorem dX7_init_97 : decode cX7_init 97 = .ok (.aload_n 0, 1) := by decide +kernel
theorem dX7_init_98 : decode cX7_init 98 = .ok (.iconst 4, 1) := by decide +kernel
theorem dX7_init_99 : decode cX7_init 99 = .ok (.newarray .int, 2) := by decide +kernel
theorem dX7_init_101 : decode cX7_init 101 = .ok (.putfield 47, 3) := by decide +kernel
theorem dX7_init_104 : decode cX7_init 104 = .ok (.aload_n 0, 1) := by decide +kernel
theorem dX7_init_105 : decode cX7_init 105 = .ok (.bipush 16, 2) := by decide +kernel
theorem dX7_init_107 : decode cX7_init 107 = .ok (.newarray .int, 2) := by decide +kernel
theorem dX7_init_109 : decode cX7_init 109 = .ok (.putfield 50, 3) := by decide +kernel
theorem dX7_init_112 : decode cX7_init 112 = .ok (.aload_n 0, 1) := by decide +kernel
theorem dX7_init_113 : decode cX7_init 113 = .ok (.iconst 4, 1) := by decide +kernel
theorem dX7_init_114 : decode cX7_init 114 = .ok (.newarray .int, 2) := by decide +kernel
theorem dX7_init_116 : decode cX7_init 116 = .ok (.putfield 53, 3) := by decide +kernel
theorem dX7_init_119 : decode cX7_init 119 = .ok (.aload_n 0, 1) := by decide +kernel
theorem dX7_init_120 : decode cX7_init 120 = .ok (.iconst 4, 1) := by decide +kernel
theorem dX7_init_121 : decode cX7_init 121 = .ok (.newarray .int, 2) := by decide +kernel
theorem dX7_init_123 : decode cX7_init 123 = .ok (.putfield 56, 3) := by decide +kernel
theorem dX7_init_126 : decode cX7_init 126 = .ok (.aload_n 0, 1) := by decide +kernel
theorem dX7_init_127 : decode cX7_init 127 = .ok (.bipush 6, 2) := by decide +kernel
theorem dX7_init_129 : decode cX7_init 129 = .ok (.newarray .int, 2) := by decide +kernel
theorem dX7_init_131 : decode cX7_init 131 = .ok (.putfield 59, 3) := by decide +kernel
theorem dX7_init_134 : decode cX7_init 134 = .ok (.aload_n 0, 1) := by decide +kernel
theorem dX7_init_135 : decode cX7_init 135 = .ok (.bipush 6, 2) := by decide +kernel
theorem dX7_init_137 : decode cX7_init 137 = .ok (.newarray .int, 2) := by decide +kernel
theorem dX7_init_139 : decode cX7_init 139 = .ok (.putfield 62, 3) := by decide +kernel
theorem dX7_init_142 : decode cX7_init 142 = .ok (.aload_n 0, 1) := by decide +kernel
theorem dX7_init_143 : decode cX7_init 143 = .ok (.bipush 6, 2) := by decide +kernel
theorem dX7_init_145 : decode cX7_init 145 = .ok (.newarray .int, 2) := by decide +kernel
theorem dX7_init_147 : decode cX7_init 147 = .ok (.putfield 65, 3) := by decide +kernel
theorem dX7_init_150 : decode cX7_init 150 = .ok (.aload_n 0, 1) := by decide +kernel
theorem dX7_init_151 : decode cX7_init 151 = .ok (.bipush 6, 2) := by decide +kernel
theorem dX7_init_153 : decode cX7_init 153 = .ok (.newarray .int, 2) := by decide +kernel
theorem dX7_init_155 : decode cX7_init 155 = .ok (.putfield 68, 3) := by decide +kernel
theorem dX7_init_158 : decode cX7_init 158 = .ok (.return_, 1) := by decide +kernel
theorem dX7_within_0 : decode cX7_within 0 = .ok (.iload_n 0, 1) := by decide +kernel
theorem dX7_within_1 : decode cX7_within 1 = .ok (.iload_n 1, 1) := by decide +kernel
theorem dX7_within_2 : decode cX7_within 2 = .ok (.if_icmp .lt 12, 3) := by decide +kernel
theorem dX7_within_5 : decode cX7_within 5 = .ok (.iload_n 0, 1) := by decide +kernel
theorem dX7_within_6 : decode cX7_within 6 = .ok (.iload_n 2, 1) := by decide +kernel
theorem dX7_within_7 : decode cX7_within 7 = .ok (.if_icmp .gt 7, 3) := by decide +kernel
theorem dX7_within_10 : decode cX7_within 10 = .ok (.iconst 1, 1) := by decide +kernel
theorem dX7_within_11 : decode cX7_within 11 = .ok (.goto 4, 3) := by decide +kernel
theorem dX7_within_14 : decode cX7_within 14 = .ok (.iconst 0, 1) := by decide +kernel
theorem dX7_within_15 : decode cX7_within 15 = .ok (.ireturn, 1) := by decide +kernel
theorem dX7_isIn_0 : decode cX7_isIn 0 = .ok (.iload_n 0, 1) := by decide +kernel
theorem dX7_isIn_1 : decode cX7_isIn 1 = .ok (.iload_n 1, 1) := by decide +kernel
theorem dX7_isIn_2 : decode cX7_isIn 2 = .ok (.ishr, 1) := by decide +kernel
theorem dX7_isIn_3 : decode cX7_isIn 3 = .ok (.iconst 1, 1) := by decide +kernel
theorem dX7_isIn_4 : decode cX7_isIn 4 = .ok (.iand, 1) := by decide +kernel
theorem dX7_isIn_5 : decode cX7_isIn 5 = .ok (.iconst 1, 1) := by decide +kernel
theorem dX7_isIn_6 : decode cX7_isIn 6 = .ok (.if_icmp .ne 7, 3) := by decide +kernel
theorem dX7_isIn_9 : decode cX7_isIn 9 = .ok (.iconst 1, 1) := by decide +kernel
theorem dX7_isIn_10 : decode cX7_isIn 10 = .ok (.goto 4, 3) := by decide +kernel
theorem dX7_isIn_13 : decode cX7_isIn 13 = .ok (.iconst 0, 1) := by decide +kernel
theorem dX7_isIn_14 : decode cX7_isIn 14 = .ok (.ireturn, 1) := by decide +kernel
set_option maxRecDepth 20000 in
theorem ggX7_letter_X7_within : GoodIn wsX7_letter wsX7_within := goodIn_r _ [6] (by decide +kernel) (by decide +kernel)
set_option maxRecDepth 20000 in
theorem gX7_letter_X7_within : GoodIn wsX7_letter (va_wsS RX7 71 yX7_within wsX7_within) := goodIn_app (goodIn_of _ (by decide +kernel)) ggX7_letter_X7_within
theorem dX7_letter_0 : decode cX7_letter 0 = .ok (.iload_n 1, 1) := by decide +kernel
theorem dX7_letter_1 : decode cX7_letter 1 = .ok (.bipush 32, 2) := by decide +kernel
theorem dX7_letter_3 : decode cX7_letter 3 = .ok (.bipush 126, 2) := by decide +kernel
theorem dX7_letter_5 : decode cX7_letter 5 = .ok (.invokestatic 71, 3) := by decide +kernel
theorem dX7_letter_8 : decode cX7_letter 8 = .ok (.ifCond .ne 6, 3) := by decide +kernel
theorem dX7_letter_11 : decode cX7_letter 11 = .ok (.bipush (-102), 2) := by decide +kernel
theorem dX7_letter_13 : decode cX7_letter 13 = .ok (.ireturn, 1) := by decide +kernel
theorem dX7_letter_14 : decode cX7_letter 14 = .ok (.aload_n 0, 1) := by decide +kernel
theorem dX7_letter_15 : decode cX7_letter 15 = .ok (.getfield 75, 3) := by decide +kernel
theorem dX7_letter_18 : decode cX7_letter 18 = .ok (.bipush 25, 2) := by decide +kernel
theorem dX7_letter_20 : decode cX7_letter 20 = .ok (.if_icmp .ne 6, 3) := by decide +kernel
theorem dX7_letter_23 : decode cX7_letter 23 = .ok (.bipush (-104), 2) := by decide +kernel
theorem dX7_letter_25 : decode cX7_letter 25 = .ok (.ireturn, 1) := by decide +kernel
theorem dX7_letter_26 : decode cX7_letter 26 = .ok (.aload_n 0, 1) := by decide +kernel
theorem dX7_letter_27 : decode cX7_letter 27 = .ok (.getfield 34, 3) := by decide +kernel
theorem dX7_letter_30 : decode cX7_letter 30 = .ok (.aload_n 0, 1) := by decide +kernel
theorem dX7_letter_31 : decode cX7_letter 31 = .ok (.getfield 75, 3) := by decide +kernel
theorem dX7_letter_34 : decode cX7_letter 34 = .ok (.iload_n 1, 1) := by decide +kernel
theorem dX7_letter_35 : decode cX7_letter 35 = .ok (.i2b, 1) := by decide +kernel
theorem dX7_letter_36 : decode cX7_letter 36 = .ok (.bastore, 1) := by decide +kernel
theorem dX7_letter_37 : decode cX7_letter 37 = .ok (.aload_n 0, 1) := by decide +kernel
theorem dX7_letter_38 : decode cX7_letter 38 = .ok (.dup, 1) := by decide +kernel
theorem dX7_letter_39 : decode cX7_letter 39 = .ok (.getfield 75, 3) := by decide +kernel
theorem dX7_letter_42 : decode cX7_letter 42 = .ok (.iconst 1, 1) := by decide +kernel
theorem dX7_letter_43 : decode cX7_letter 43 = .ok (.iadd, 1) := by decide +kernel
theorem dX7_letter_44 : decode cX7_letter 44 = .ok (.putfield 75, 3) := by decide +kernel
theorem dX7_letter_47 : decode cX7_letter 47 = .ok (.aload_n 0, 1) := by decide +kernel
theorem dX7_letter_48 : decode cX7_letter 48 = .ok (.getfield 75, 3) := by decide +kernel
theorem dX7_letter_51 : decode cX7_letter 51 = .ok (.ireturn, 1) := by decide +kernel
theorem dX7_blank_0 : decode cX7_blank 0 = .ok (.aload_n 0, 1) := by decide +kernel
theorem dX7_blank_1 : decode cX7_blank 1 = .ok (.getfield 75, 3) := by decide +kernel
theorem dX7_blank_4 : decode cX7_blank 4 = .ok (.istore_n 1, 1) := by decide +kernel
theorem dX7_blank_5 : decode cX7_blank 5 = .ok (.aload_n 0, 1) := by decide +kernel
theorem dX7_blank_6 : decode cX7_blank 6 = .ok (.iconst 0, 1) := by decide +kernel
theorem dX7_blank_7 : decode cX7_blank 7 = .ok (.putfield 75, 3) := by decide +kernel
theorem dX7_blank_10 : decode cX7_blank 10 = .ok (.iload_n 1, 1) := by decide +kernel
theorem dX7_blank_11 : decode cX7_blank 11 = .ok (.ireturn, 1) := by decide +kernel
theorem dX7_kindBy_0 : decode cX7_kindBy 0 = .ok (.iload_n 0, 1) := by decide +kernel
theorem dX7_kindBy_1 : decode cX7_kindBy 1 = .ok (.lookupswitch 61 #[(97, 59), (104, 51), (108, 57), (112, 55), (115, 53)], 51) := by decide +kernel
theorem dX7_kindBy_52 : decode cX7_kindBy 52 = .ok (.iconst 0, 1) := by decide +kernel
theorem dX7_kindBy_53 : decode cX7_kindBy 53 = .ok (.ireturn, 1) := by decide +kernel
theorem dX7_kindBy_54 : decode cX7_kindBy 54 = .ok (.iconst 1, 1) := by decide +kernel
theorem dX7_kindBy_55 : decode cX7_kindBy 55 = .ok (.ireturn, 1) := by decide +kernel
theorem dX7_kindBy_56 : decode cX7_kindBy 56 = .ok (.iconst 2, 1) := by decide +kernel
theorem dX7_kindBy_57 : decode cX7_kindBy 57 = .ok (.ireturn, 1) := by decide +kernel
theorem dX7_kindBy_58 : decode cX7_kindBy 58 = .ok (.iconst 3, 1) := by decide +kernel
theorem dX7_kindBy_59 : decode cX7_kindBy 59 = .ok (.ireturn, 1) := by decide +kernel
theorem dX7_kindBy_60 : decode cX7_kindBy 60 = .ok (.iconst 4, 1) := by decide +kernel
theorem dX7_kindBy_61 : decode cX7_kindBy 61 = .ok (.ireturn, 1) := by decide +kernel
theorem dX7_kindBy_62 : decode cX7_kindBy 62 = .ok (.iconst (-1), 1) := by decide +kernel
theorem dX7_kindBy_63 : decode cX7_kindBy 63 = .ok (.ireturn, 1) := by decide +kernel
set_option maxRecDepth 20000 in
theorem ggX7_isGood_X7_kindBy : GoodIn wsX7_isGood wsX7_kindBy := goodIn_r _ [5] (by decide +kernel) (by decide +kernel)
set_option maxRecDepth 20000 in
theorem gX7_isGood_X7_kindBy : GoodIn wsX7_isGood (va_wsS RX7 79 yX7_kindBy wsX7_kindBy) := goodIn_app (goodIn_of _ (by decide +kernel)) ggX7_isGood_X7_kindBy
set_option maxRecDepth 20000 in
theorem ggX7_isGood_X7_within : GoodIn wsX7_isGood wsX7_within := goodIn_r _ [8] (by decide +kernel) (by decide +kernel)
set_option maxRecDepth 20000 in
theorem gX7_isGood_X7_within : GoodIn wsX7_isGood (va_wsS RX7 71 yX7_within wsX7_within) := goodIn_app (goodIn_of _ (by decide +kernel)) ggX7_isGood_X7_within
theorem dX7_isGood_0 : decode cX7_isGood 0 = .ok (.aload_n 0, 1) := by decide +kernel
theorem dX7_isGood_1 : decode cX7_isGood 1 = .ok (.getfield 34, 3) := by decide +kernel
theorem dX7_isGood_4 : decode cX7_isGood 4 = .ok (.iload_n 1, 1) := by decide +kernel
theorem dX7_isGood_5 : decode cX7_isGood 5 = .ok (.baload, 1) := by decide +kernel
theorem dX7_isGood_6 : decode cX7_isGood 6 = .ok (.istore_n 2, 1) := by decide +kernel
theorem dX7_isGood_7 : decode cX7_isGood 7 = .ok (.iload_n 1, 1) := by decide +kernel
theorem dX7_isGood_8 : decode cX7_isGood 8 = .ok (.bipush 6, 2) := by decide +kernel
theorem dX7_isGood_10 : decode cX7_isGood 10 = .ok (.irem, 1) := by decide +kernel
theorem dX7_isGood_11 : decode cX7_isGood 11 = .ok (.istore_n 3, 1) := by decide +kernel
theorem dX7_isGood_12 : decode cX7_isGood 12 = .ok (.iload_n 1, 1) := by decide +kernel
theorem dX7_isGood_13 : decode cX7_isGood 13 = .ok (.bipush 23, 2) := by decide +kernel
theorem dX7_isGood_15 : decode cX7_isGood 15 = .ok (.if_icmp .lt 5, 3) := by decide +kernel
theorem dX7_isGood_18 : decode cX7_isGood 18 = .ok (.iconst 0, 1) := by decide +kernel
theorem dX7_isGood_19 : decode cX7_isGood 19 = .ok (.ireturn, 1) := by decide +kernel
theorem dX7_isGood_20 : decode cX7_isGood 20 = .ok (.iload_n 3, 1) := by decide +kernel
theorem dX7_isGood_21 : decode cX7_isGood 21 = .ok (.ifCond .ne 19, 3) := by decide +kernel
theorem dX7_isGood_24 : decode cX7_isGood 24 = .ok (.iload_n 2, 1) := by decide +kernel
theorem dX7_isGood_25 : decode cX7_isGood 25 = .ok (.invokestatic 79, 3) := by decide +kernel
theorem dX7_isGood_28 : decode cX7_isGood 28 = .ok (.iconst (-1), 1) := by decide +kernel
theorem dX7_isGood_29 : decode cX7_isGood 29 = .ok (.if_icmp .eq 7, 3) := by decide +kernel
theorem dX7_isGood_32 : decode cX7_isGood 32 = .ok (.iconst 1, 1) := by decide +kernel
theorem dX7_isGood_33 : decode cX7_isGood 33 = .ok (.goto 36, 3) := by decide +kernel
theorem dX7_isGood_36 : decode cX7_isGood 36 = .ok (.iconst 0, 1) := by decide +kernel
theorem dX7_isGood_37 : decode cX7_isGood 37 = .ok (.goto 32, 3) := by decide +kernel
theorem dX7_isGood_40 : decode cX7_isGood 40 = .ok (.iload_n 3, 1) := by decide +kernel
theorem dX7_isGood_41 : decode cX7_isGood 41 = .ok (.iconst 5, 1) := by decide +kernel
theorem dX7_isGood_42 : decode cX7_isGood 42 = .ok (.if_icmp .ne 17, 3) := by decide +kernel
theorem dX7_isGood_45 : decode cX7_isGood 45 = .ok (.iload_n 2, 1) := by decide +kernel
theorem dX7_isGood_46 : decode cX7_isGood 46 = .ok (.bipush 44, 2) := by decide +kernel
theorem dX7_isGood_48 : decode cX7_isGood 48 = .ok (.if_icmp .ne 7, 3) := by decide +kernel
theorem dX7_isGood_51 : decode cX7_isGood 51 = .ok (.iconst 1, 1) := by decide +kernel
theorem dX7_isGood_52 : decode cX7_isGood 52 = .ok (.goto 17, 3) := by decide +kernel
theorem dX7_isGood_55 : decode cX7_isGood 55 = .ok (.iconst 0, 1) := by decide +kernel
theorem dX7_isGood_56 : decode cX7_isGood 56 = .ok (.goto 13, 3) := by decide +kernel
theorem dX7_isGood_59 : decode cX7_isGood 59 = .ok (.iload_n 2, 1) := by decide +kernel
theorem dX7_isGood_60 : decode cX7_isGood 60 = .ok (.bipush 48, 2) := by decide +kernel
theorem dX7_isGood_62 : decode cX7_isGood 62 = .ok (.isub, 1) := by decide +kernel
theorem dX7_isGood_63 : decode cX7_isGood 63 = .ok (.iconst 0, 1) := by decide +kernel
theorem dX7_isGood_64 : decode cX7_isGood 64 = .ok (.bipush 9, 2) := by decide +kernel
theorem dX7_isGood_66 : decode cX7_isGood 66 = .ok (.invokestatic 71, 3) := by decide +kernel
theorem dX7_isGood_69 : decode cX7_isGood 69 = .ok (.ireturn, 1) := by decide +kernel
set_option maxRecDepth 20000 in
theorem ggX7_faultNow_X7_isGood : GoodIn wsX7_faultNow wsX7_isGood := goodIn_r _ [6, 7, 8, 9, 5, 10, 11, 12, 13, 14, 15, 16, 17, 18, 19, 20, 21, 22, 23, 24, 25, 26, 27, 28, 29, 30, 31, 32, 33, 34, 35, 36, 37, 38, 39, 40, 41, 42, 43, 44, 45, 46, 47, 48] (by decide +kernel) (by decide +kernel)
set_option maxRecDepth 20000 in
theorem gX7_faultNow_X7_isGood : GoodIn wsX7_faultNow (wsV RX7 83 RX7 yX7_isGood wsX7_isGood) := goodIn_app (goodIn_of _ (by decide +kernel)) ggX7_faultNow_X7_isGood
theorem dX7_faultNow_0 : decode cX7_faultNow 0 = .ok (.iconst 0, 1) := by decide +kernel
theorem dX7_faultNow_1 : decode cX7_faultNow 1 = .ok (.istore_n 1, 1) := by decide +kernel
theorem dX7_faultNow_2 : decode cX7_faultNow 2 = .ok (.iload_n 1, 1) := by decide +kernel
theorem dX7_faultNow_3 : decode cX7_faultNow 3 = .ok (.aload_n 0, 1) := by decide +kernel
theorem dX7_faultNow_4 : decode cX7_faultNow 4 = .ok (.getfield 75, 3) := by decide +kernel
theorem dX7_faultNow_7 : decode cX7_faultNow 7 = .ok (.if_icmp .ge 17, 3) := by decide +kernel
theorem dX7_faultNow_10 : decode cX7_faultNow 10 = .ok (.aload_n 0, 1) := by decide +kernel
theorem dX7_faultNow_11 : decode cX7_faultNow 11 = .ok (.iload_n 1, 1) := by decide +kernel
theorem dX7_faultNow_12 : decode cX7_faultNow 12 = .ok (.invokevirtual 83, 3) := by decide +kernel
theorem dX7_faultNow_15 : decode cX7_faultNow 15 = .ok (.ifCond .eq 9, 3) := by decide +kernel
theorem dX7_faultNow_18 : decode cX7_faultNow 18 = .ok (.iinc 1 1, 3) := by decide +kernel
theorem dX7_faultNow_21 : decode cX7_faultNow 21 = .ok (.goto (-19), 3) := by decide +kernel
theorem dX7_faultNow_24 : decode cX7_faultNow 24 = .ok (.iload_n 1, 1) := by decide +kernel
theorem dX7_faultNow_25 : decode cX7_faultNow 25 = .ok (.ireturn, 1) := by decide +kernel
set_option maxRecDepth 20000 in
theorem ggX7_fault_X7_faultNow : GoodIn wsX7_fault wsX7_faultNow := goodIn_r _ [5, 6, 7, 8, 9, 4, 10, 11, 12, 13, 14, 15, 16, 17, 18, 19, 20, 21, 22, 23, 24, 25, 26, 27, 28, 29, 30, 31, 32, 33, 34, 35, 36, 37, 38, 39, 40, 41, 42, 43, 44, 45, 46, 47, 48, 49, 50, 51, 52] (by decide +kernel) (by decide +kernel)
set_option maxRecDepth 20000 in
theorem gX7_fault_X7_faultNow : GoodIn wsX7_fault (wsV RX7 87 RX7 yX7_faultNow wsX7_faultNow) := goodIn_app (goodIn_of _ (by decide +kernel)) ggX7_fault_X7_faultNow
theorem dX7_fault_0 : decode cX7_fault 0 = .ok (.aload_n 0, 1) := by decide +kernel
theorem dX7_fault_1 : decode cX7_fault 1 = .ok (.invokevirtual 87, 3) := by decide +kernel
theorem dX7_fault_4 : decode cX7_fault 4 = .ok (.ireturn, 1) := by decide +kernel
set_option maxRecDepth 20000 in
theorem ggX7_will_X7_faultNow : GoodIn wsX7_will wsX7_faultNow := goodIn_r _ [15, 1, 16, 17, 18, 14, 19, 4, 20, 21, 22, 23, 24, 25, 47, 48, 49, 50, 51, 52, 53, 54, 55, 56, 57, 58, 59, 60, 61, 62, 63, 64, 65, 66, 67, 68, 69, 70, 71, 72, 73, 74, 75, 76, 77, 78, 79, 80, 81] (by decide +kernel) (by decide +kernel)
set_option maxRecDepth 20000 in
theorem gX7_will_X7_faultNow : GoodIn wsX7_will (wsV RX7 87 RX7 yX7_faultNow wsX7_faultNow) := goodIn_app (goodIn_of _ (by decide +kernel)) ggX7_will_X7_faultNow
set_option maxRecDepth 20000 in
theorem ggX7_will_X7_kindBy : GoodIn wsX7_will wsX7_kindBy := goodIn_r _ [22] (by decide +kernel) (by decide +kernel)
set_option maxRecDepth 20000 in
theorem gX7_will_X7_kindBy : GoodIn wsX7_will (va_wsS RX7 79 yX7_kindBy wsX7_kindBy) := goodIn_app (goodIn_of _ (by decide +kernel)) ggX7_will_X7_kindBy
set_option maxRecDepth 20000 in
theorem ggX7_will_X7_dealNow : GoodIn wsX7_will wsX7_dealNow := goodIn_r _ [29, 2, 6, 30, 31, 32, 33, 14, 34, 35, 36, 37, 38, 39, 40, 41, 42, 43, 7, 3, 44, 45, 46, 47, 48, 49, 50, 51, 52, 53, 54, 55, 56, 57, 58, 59, 60, 61, 62, 63, 64, 65, 66, 67, 68, 69, 70, 71, 72, 73, 74, 75, 76, 77, 78, 79, 80, 81] (by decide +kernel) (by decide +kernel)
set_option maxRecDepth 20000 in
theorem gX7_will_X7_dealNow : GoodIn wsX7_will (wsV RX7 103 RX7 yX7_dealNow wsX7_dealNow) := goodIn_app (goodIn_of _ (by decide +kernel)) ggX7_will_X7_dealNow
theorem dX7_will_0 : decode cX7_will 0 = .ok (.aload_n 0, 1) := by decide +kernel
theorem dX7_will_1 : decode cX7_will 1 = .ok (.getfield 75, 3) := by decide +kernel
theorem dX7_will_4 : decode cX7_will 4 = .ok (.iconst 1, 1) := by decide +kernel
theorem dX7_will_5 : decode cX7_will 5 = .ok (.iadd, 1) := by decide +kernel
theorem dX7_will_6 : decode cX7_will 6 = .ok (.bipush 6, 2) := by decide +kernel
theorem dX7_will_8 : decode cX7_will 8 = .ok (.idiv, 1) := by decide +kernel
theorem dX7_will_9 : decode cX7_will 9 = .ok (.istore_n 1, 1) := by decide +kernel
theorem dX7_will_10 : decode cX7_will 10 = .ok (.aload_n 0, 1) := by decide +kernel
theorem dX7_will_11 : decode cX7_will 11 = .ok (.invokevirtual 87, 3) := by decide +kernel
theorem dX7_will_14 : decode cX7_will 14 = .ok (.aload_n 0, 1) := by decide +kernel
theorem dX7_will_15 : decode cX7_will 15 = .ok (.getfield 75, 3) := by decide +kernel
theorem dX7_will_18 : decode cX7_will 18 = .ok (.if_icmp .ne 19, 3) := by decide +kernel
theorem dX7_will_21 : decode cX7_will 21 = .ok (.aload_n 0, 1) := by decide +kernel
theorem dX7_will_22 : decode cX7_will 22 = .ok (.getfield 75, 3) := by decide +kernel
theorem dX7_will_25 : decode cX7_will 25 = .ok (.bipush 6, 2) := by decide +kernel
theorem dX7_will_27 : decode cX7_will 27 = .ok (.irem, 1) := by decide +kernel
theorem dX7_will_28 : decode cX7_will 28 = .ok (.iconst 5, 1) := by decide +kernel
theorem dX7_will_29 : decode cX7_will 29 = .ok (.if_icmp .ne 8, 3) := by decide +kernel
theorem dX7_will_32 : decode cX7_will 32 = .ok (.iload_n 1, 1) := by decide +kernel
theorem dX7_will_33 : decode cX7_will 33 = .ok (.iconst 2, 1) := by decide +kernel
theorem dX7_will_34 : decode cX7_will 34 = .ok (.if_icmp .ge 6, 3) := by decide +kernel
theorem dX7_will_37 : decode cX7_will 37 = .ok (.bipush (-103), 2) := by decide +kernel
theorem dX7_will_39 : decode cX7_will 39 = .ok (.ireturn, 1) := by decide +kernel
theorem dX7_will_40 : decode cX7_will 40 = .ok (.aload_n 0, 1) := by decide +kernel
theorem dX7_will_41 : decode cX7_will 41 = .ok (.iload_n 1, 1) := by decide +kernel
theorem dX7_will_42 : decode cX7_will 42 = .ok (.putfield 91, 3) := by decide +kernel
theorem dX7_will_45 : decode cX7_will 45 = .ok (.iconst 0, 1) := by decide +kernel
theorem dX7_will_46 : decode cX7_will 46 = .ok (.istore_n 2, 1) := by decide +kernel
theorem dX7_will_47 : decode cX7_will 47 = .ok (.iload_n 2, 1) := by decide +kernel
theorem dX7_will_48 : decode cX7_will 48 = .ok (.aload_n 0, 1) := by decide +kernel
theorem dX7_will_49 : decode cX7_will 49 = .ok (.getfield 91, 3) := by decide +kernel
theorem dX7_will_52 : decode cX7_will 52 = .ok (.if_icmp .ge 80, 3) := by decide +kernel
theorem dX7_will_55 : decode cX7_will 55 = .ok (.aload_n 0, 1) := by decide +kernel
theorem dX7_will_56 : decode cX7_will 56 = .ok (.getfield 7, 3) := by decide +kernel
theorem dX7_will_59 : decode cX7_will 59 = .ok (.iload_n 2, 1) := by decide +kernel
theorem dX7_will_60 : decode cX7_will 60 = .ok (.aload_n 0, 1) := by decide +kernel
theorem dX7_will_61 : decode cX7_will 61 = .ok (.getfield 34, 3) := by decide +kernel
theorem dX7_will_64 : decode cX7_will 64 = .ok (.bipush 6, 2) := by decide +kernel
theorem dX7_will_66 : decode cX7_will 66 = .ok (.iload_n 2, 1) := by decide +kernel
theorem dX7_will_67 : decode cX7_will 67 = .ok (.imul, 1) := by decide +kernel
theorem dX7_will_68 : decode cX7_will 68 = .ok (.baload, 1) := by decide +kernel
theorem dX7_will_69 : decode cX7_will 69 = .ok (.invokestatic 79, 3) := by decide +kernel
theorem dX7_will_72 : decode cX7_will 72 = .ok (.iastore, 1) := by decide +kernel
theorem dX7_will_73 : decode cX7_will 73 = .ok (.aload_n 0, 1) := by decide +kernel
theorem dX7_will_74 : decode cX7_will 74 = .ok (.getfield 19, 3) := by decide +kernel
theorem dX7_will_77 : decode cX7_will 77 = .ok (.iload_n 2, 1) := by decide +kernel
theorem dX7_will_78 : decode cX7_will 78 = .ok (.iconst 0, 1) := by decide +kernel
theorem dX7_will_79 : decode cX7_will 79 = .ok (.iastore, 1) := by decide +kernel
theorem dX7_will_80 : decode cX7_will 80 = .ok (.aload_n 0, 1) := by decide +kernel
theorem dX7_will_81 : decode cX7_will 81 = .ok (.getfield 16, 3) := by decide +kernel
theorem dX7_will_84 : decode cX7_will 84 = .ok (.iload_n 2, 1) := by decide +kernel
theorem dX7_will_85 : decode cX7_will 85 = .ok (.iconst (-1), 1) := by decide +kernel
theorem dX7_will_86 : decode cX7_will 86 = .ok (.iastore, 1) := by decide +kernel
theorem dX7_will_87 : decode cX7_will 87 = .ok (.iconst 0, 1) := by decide +kernel
theorem dX7_will_88 : decode cX7_will 88 = .ok (.istore_n 3, 1) := by decide +kernel
theorem dX7_will_89 : decode cX7_will 89 = .ok (.iload_n 3, 1) := by decide +kernel
theorem dX7_will_90 : decode cX7_will 90 = .ok (.iconst 4, 1) := by decide +kernel
theorem dX7_will_91 : decode cX7_will 91 = .ok (.if_icmp .ge 35, 3) := by decide +kernel
theorem dX7_will_94 : decode cX7_will 94 = .ok (.aload_n 0, 1) := by decide +kernel
theorem dX7_will_95 : decode cX7_will 95 = .ok (.getfield 13, 3) := by decide +kernel
theorem dX7_will_98 : decode cX7_will 98 = .ok (.iconst 4, 1) := by decide +kernel
theorem dX7_will_99 : decode cX7_will 99 = .ok (.iload_n 2, 1) := by decide +kernel
theorem dX7_will_100 : decode cX7_will 100 = .ok (.imul, 1) := by decide +kernel
theorem dX7_will_101 : decode cX7_will 101 = .ok (.iload_n 3, 1) := by decide +kernel
theorem dX7_will_102 : decode cX7_will 102 = .ok (.iadd, 1) := by decide +kernel
theorem dX7_will_103 : decode cX7_will 103 = .ok (.aload_n 0, 1) := by decide +kernel
theorem dX7_will_104 : decode cX7_will 104 = .ok (.getfield 34, 3) := by decide +kernel
theorem dX7_will_107 : decode cX7_will 107 = .ok (.bipush 6, 2) := by decide +kernel
theorem dX7_will_109 : decode cX7_will 109 = .ok (.iload_n 2, 1) := by decide +kernel
theorem dX7_will_110 : decode cX7_will 110 = .ok (.imul, 1) := by decide +kernel
theorem dX7_will_111 : decode cX7_will 111 = .ok (.iconst 1, 1) := by decide +kernel
theorem dX7_will_112 : decode cX7_will 112 = .ok (.iadd, 1) := by decide +kernel
theorem dX7_will_113 : decode cX7_will 113 = .ok (.iload_n 3, 1) := by decide +kernel
theorem dX7_will_114 : decode cX7_will 114 = .ok (.iadd, 1) := by decide +kernel
theorem dX7_will_115 : decode cX7_will 115 = .ok (.baload, 1) := by decide +kernel
theorem dX7_will_116 : decode cX7_will 116 = .ok (.bipush 48, 2) := by decide +kernel
theorem dX7_will_118 : decode cX7_will 118 = .ok (.isub, 1) := by decide +kernel
theorem dX7_will_119 : decode cX7_will 119 = .ok (.iastore, 1) := by decide +kernel
theorem dX7_will_120 : decode cX7_will 120 = .ok (.iinc 3 1, 3) := by decide +kernel
theorem dX7_will_123 : decode cX7_will 123 = .ok (.goto (-34), 3) := by decide +kernel
theorem dX7_will_126 : decode cX7_will 126 = .ok (.iinc 2 1, 3) := by decide +kernel
theorem dX7_will_129 : decode cX7_will 129 = .ok (.goto (-82), 3) := by decide +kernel
theorem dX7_will_132 : decode cX7_will 132 = .ok (.aload_n 0, 1) := by decide +kernel
theorem dX7_will_133 : decode cX7_will 133 = .ok (.dup, 1) := by decide +kernel
theorem dX7_will_134 : decode cX7_will 134 = .ok (.getfield 94, 3) := by decide +kernel
theorem dX7_will_137 : decode cX7_will 137 = .ok (.iconst 1, 1) := by decide +kernel
theorem dX7_will_138 : decode cX7_will 138 = .ok (.iadd, 1) := by decide +kernel
theorem dX7_will_139 : decode cX7_will 139 = .ok (.putfield 94, 3) := by decide +kernel
theorem dX7_will_142 : decode cX7_will 142 = .ok (.aload_n 0, 1) := by decide +kernel
theorem dX7_will_143 : decode cX7_will 143 = .ok (.iconst 0, 1) := by decide +kernel
theorem dX7_will_144 : decode cX7_will 144 = .ok (.putfield 97, 3) := by decide +kernel
theorem dX7_will_147 : decode cX7_will 147 = .ok (.aload_n 0, 1) := by decide +kernel
theorem dX7_will_148 : decode cX7_will 148 = .ok (.iconst 0, 1) := by decide +kernel
theorem dX7_will_149 : decode cX7_will 149 = .ok (.putfield 100, 3) := by decide +kernel
theorem dX7_will_152 : decode cX7_will 152 = .ok (.aload_n 0, 1) := by decide +kernel
theorem dX7_will_153 : decode cX7_will 153 = .ok (.iconst 0, 1) := by decide +kernel
theorem dX7_will_154 : decode cX7_will 154 = .ok (.putfield 75, 3) := by decide +kernel
theorem dX7_will_157 : decode cX7_will 157 = .ok (.aload_n 0, 1) := by decide +kernel
theorem dX7_will_158 : decode cX7_will 158 = .ok (.invokevirtual 103, 3) := by decide +kernel
theorem dX7_will_161 : decode cX7_will 161 = .ok (.pop, 1) := by decide +kernel
theorem dX7_will_162 : decode cX7_will 162 = .ok (.aload_n 0, 1) := by decide +kernel
theorem dX7_will_163 : decode cX7_will 163 = .ok (.getfield 91, 3) := by decide +kernel
theorem dX7_will_166 : decode cX7_will 166 = .ok (.ireturn, 1) := by decide +kernel
set_option maxRecDepth 20000 in
theorem ggX7_isHeir_X7_within : GoodIn wsX7_isHeir wsX7_within := goodIn_r _ [5] (by decide +kernel) (by decide +kernel)
set_option maxRecDepth 20000 in
theorem gX7_isHeir_X7_within : GoodIn wsX7_isHeir (va_wsS RX7 71 yX7_within wsX7_within) := goodIn_app (goodIn_of _ (by decide +kernel)) ggX7_isHeir_X7_within
theorem dX7_isHeir_0 : decode cX7_isHeir 0 = .ok (.iload_n 1, 1) := by decide +kernel
theorem dX7_isHeir_1 : decode cX7_isHeir 1 = .ok (.iconst 0, 1) := by decide +kernel
theorem dX7_isHeir_2 : decode cX7_isHeir 2 = .ok (.aload_n 0, 1) := by decide +kernel
theorem dX7_isHeir_3 : decode cX7_isHeir 3 = .ok (.getfield 91, 3) := by decide +kernel
theorem dX7_isHeir_6 : decode cX7_isHeir 6 = .ok (.iconst 1, 1) := by decide +kernel
theorem dX7_isHeir_7 : decode cX7_isHeir 7 = .ok (.isub, 1) := by decide +kernel
theorem dX7_isHeir_8 : decode cX7_isHeir 8 = .ok (.invokestatic 71, 3) := by decide +kernel
theorem dX7_isHeir_11 : decode cX7_isHeir 11 = .ok (.ireturn, 1) := by decide +kernel
set_option maxRecDepth 20000 in
theorem ggX7_isThing_X7_within : GoodIn wsX7_isThing wsX7_within := goodIn_r _ [5] (by decide +kernel) (by decide +kernel)
set_option maxRecDepth 20000 in
theorem gX7_isThing_X7_within : GoodIn wsX7_isThing (va_wsS RX7 71 yX7_within wsX7_within) := goodIn_app (goodIn_of _ (by decide +kernel)) ggX7_isThing_X7_within
theorem dX7_isThing_0 : decode cX7_isThing 0 = .ok (.aload_n 0, 1) := by decide +kernel
theorem dX7_isThing_1 : decode cX7_isThing 1 = .ok (.getfield 91, 3) := by decide +kernel
theorem dX7_isThing_4 : decode cX7_isThing 4 = .ok (.ifCond .le 16, 3) := by decide +kernel
theorem dX7_isThing_7 : decode cX7_isThing 7 = .ok (.iload_n 1, 1) := by decide +kernel
theorem dX7_isThing_8 : decode cX7_isThing 8 = .ok (.iconst 0, 1) := by decide +kernel
theorem dX7_isThing_9 : decode cX7_isThing 9 = .ok (.iconst 3, 1) := by decide +kernel
theorem dX7_isThing_10 : decode cX7_isThing 10 = .ok (.invokestatic 71, 3) := by decide +kernel
theorem dX7_isThing_13 : decode cX7_isThing 13 = .ok (.ifCond .eq 7, 3) := by decide +kernel
theorem dX7_isThing_16 : decode cX7_isThing 16 = .ok (.iconst 1, 1) := by decide +kernel
theorem dX7_isThing_17 : decode cX7_isThing 17 = .ok (.goto 4, 3) := by decide +kernel
theorem dX7_isThing_20 : decode cX7_isThing 20 = .ok (.iconst 0, 1) := by decide +kernel
theorem dX7_isThing_21 : decode cX7_isThing 21 = .ok (.ireturn, 1) := by decide +kernel
theorem dX7_saysBy_0 : decode cX7_saysBy 0 = .ok (.aload_n 0, 1) := by decide +kernel
theorem dX7_saysBy_1 : decode cX7_saysBy 1 = .ok (.getfield 13, 3) := by decide +kernel
theorem dX7_saysBy_4 : decode cX7_saysBy 4 = .ok (.iconst 4, 1) := by decide +kernel
theorem dX7_saysBy_5 : decode cX7_saysBy 5 = .ok (.iload_n 1, 1) := by decide +kernel
theorem dX7_saysBy_6 : decode cX7_saysBy 6 = .ok (.imul, 1) := by decide +kernel
theorem dX7_saysBy_7 : decode cX7_saysBy 7 = .ok (.iload_n 2, 1) := by decide +kernel
theorem dX7_saysBy_8 : decode cX7_saysBy 8 = .ok (.iadd, 1) := by decide +kernel
theorem dX7_saysBy_9 : decode cX7_saysBy 9 = .ok (.iaload, 1) := by decide +kernel
theorem dX7_saysBy_10 : decode cX7_saysBy 10 = .ok (.istore_n 3, 1) := by decide +kernel
theorem dX7_saysBy_11 : decode cX7_saysBy 11 = .ok (.aload_n 0, 1) := by decide +kernel
theorem dX7_saysBy_12 : decode cX7_saysBy 12 = .ok (.getfield 7, 3) := by decide +kernel
theorem dX7_saysBy_15 : decode cX7_saysBy 15 = .ok (.iload_n 1, 1) := by decide +kernel
theorem dX7_saysBy_16 : decode cX7_saysBy 16 = .ok (.iaload, 1) := by decide +kernel
theorem dX7_saysBy_17 : decode cX7_saysBy 17 = .ok (.tableswitch 77 1 4 #[31, 36, 38, 63], 31) := by decide +kernel
theorem dX7_saysBy_48 : decode cX7_saysBy 48 = .ok (.bipush 9, 2) := by decide +kernel
theorem dX7_saysBy_50 : decode cX7_saysBy 50 = .ok (.iload_n 3, 1) := by decide +kernel
theorem dX7_saysBy_51 : decode cX7_saysBy 51 = .ok (.isub, 1) := by decide +kernel
theorem dX7_saysBy_52 : decode cX7_saysBy 52 = .ok (.ireturn, 1) := by decide +kernel
theorem dX7_saysBy_53 : decode cX7_saysBy 53 = .ok (.iconst 5, 1) := by decide +kernel
theorem dX7_saysBy_54 : decode cX7_saysBy 54 = .ok (.ireturn, 1) := by decide +kernel
theorem dX7_saysBy_55 : decode cX7_saysBy 55 = .ok (.iload_n 1, 1) := by decide +kernel
theorem dX7_saysBy_56 : decode cX7_saysBy 56 = .ok (.ifCond .ne 8, 3) := by decide +kernel
theorem dX7_saysBy_59 : decode cX7_saysBy 59 = .ok (.bipush 9, 2) := by decide +kernel
theorem dX7_saysBy_61 : decode cX7_saysBy 61 = .ok (.goto 18, 3) := by decide +kernel
theorem dX7_saysBy_64 : decode cX7_saysBy 64 = .ok (.bipush 9, 2) := by decide +kernel
theorem dX7_saysBy_66 : decode cX7_saysBy 66 = .ok (.aload_n 0, 1) := by decide +kernel
theorem dX7_saysBy_67 : decode cX7_saysBy 67 = .ok (.getfield 38, 3) := by decide +kernel
theorem dX7_saysBy_70 : decode cX7_saysBy 70 = .ok (.iconst 4, 1) := by decide +kernel
theorem dX7_saysBy_71 : decode cX7_saysBy 71 = .ok (.iload_n 1, 1) := by decide +kernel
theorem dX7_saysBy_72 : decode cX7_saysBy 72 = .ok (.iconst 1, 1) := by decide +kernel
theorem dX7_saysBy_73 : decode cX7_saysBy 73 = .ok (.isub, 1) := by decide +kernel
theorem dX7_saysBy_74 : decode cX7_saysBy 74 = .ok (.imul, 1) := by decide +kernel
theorem dX7_saysBy_75 : decode cX7_saysBy 75 = .ok (.iload_n 2, 1) := by decide +kernel
theorem dX7_saysBy_76 : decode cX7_saysBy 76 = .ok (.iadd, 1) := by decide +kernel
theorem dX7_saysBy_77 : decode cX7_saysBy 77 = .ok (.iaload, 1) := by decide +kernel
theorem dX7_saysBy_78 : decode cX7_saysBy 78 = .ok (.isub, 1) := by decide +kernel
theorem dX7_saysBy_79 : decode cX7_saysBy 79 = .ok (.ireturn, 1) := by decide +kernel
theorem dX7_saysBy_80 : decode cX7_saysBy 80 = .ok (.iload_n 3, 1) := by decide +kernel
theorem dX7_saysBy_81 : decode cX7_saysBy 81 = .ok (.iconst 5, 1) := by decide +kernel
theorem dX7_saysBy_82 : decode cX7_saysBy 82 = .ok (.if_icmp .lt 10, 3) := by decide +kernel
theorem dX7_saysBy_85 : decode cX7_saysBy 85 = .ok (.bipush 9, 2) := by decide +kernel
theorem dX7_saysBy_87 : decode cX7_saysBy 87 = .ok (.iload_n 3, 1) := by decide +kernel
theorem dX7_saysBy_88 : decode cX7_saysBy 88 = .ok (.isub, 1) := by decide +kernel
theorem dX7_saysBy_89 : decode cX7_saysBy 89 = .ok (.goto 4, 3) := by decide +kernel
theorem dX7_saysBy_92 : decode cX7_saysBy 92 = .ok (.iconst 0, 1) := by decide +kernel
theorem dX7_saysBy_93 : decode cX7_saysBy 93 = .ok (.ireturn, 1) := by decide +kernel
theorem dX7_saysBy_94 : decode cX7_saysBy 94 = .ok (.iload_n 3, 1) := by decide +kernel
theorem dX7_saysBy_95 : decode cX7_saysBy 95 = .ok (.ireturn, 1) := by decide +kernel
set_option maxRecDepth 20000 in
theorem ggX7_laySays_X7_saysBy : GoodIn wsX7_laySays wsX7_saysBy := goodIn_r _ [7, 8, 9, 2, 10, 11, 12, 13, 14, 15, 16, 17, 18, 19, 20, 21, 22, 23, 24, 25, 26, 27, 28, 29, 30, 31, 32, 33, 34, 35, 36, 37, 38, 39, 40, 41, 42, 43, 44] (by decide +kernel) (by decide +kernel)
set_option maxRecDepth 20000 in
theorem gX7_laySays_X7_saysBy : GoodIn wsX7_laySays (wsV RX7 106 RX7 yX7_saysBy wsX7_saysBy) := goodIn_app (goodIn_of _ (by decide +kernel)) ggX7_laySays_X7_saysBy
theorem dX7_laySays_0 : decode cX7_laySays 0 = .ok (.iconst 0, 1) := by decide +kernel
theorem dX7_laySays_1 : decode cX7_laySays 1 = .ok (.istore_n 1, 1) := by decide +kernel
theorem dX7_laySays_2 : decode cX7_laySays 2 = .ok (.iload_n 1, 1) := by decide +kernel
theorem dX7_laySays_3 : decode cX7_laySays 3 = .ok (.aload_n 0, 1) := by decide +kernel
theorem dX7_laySays_4 : decode cX7_laySays 4 = .ok (.getfield 91, 3) := by decide +kernel
theorem dX7_laySays_7 : decode cX7_laySays 7 = .ok (.if_icmp .ge 38, 3) := by decide +kernel
theorem dX7_laySays_10 : decode cX7_laySays 10 = .ok (.iconst 0, 1) := by decide +kernel
theorem dX7_laySays_11 : decode cX7_laySays 11 = .ok (.istore_n 2, 1) := by decide +kernel
theorem dX7_laySays_12 : decode cX7_laySays 12 = .ok (.iload_n 2, 1) := by decide +kernel
theorem dX7_laySays_13 : decode cX7_laySays 13 = .ok (.iconst 4, 1) := by decide +kernel
theorem dX7_laySays_14 : decode cX7_laySays 14 = .ok (.if_icmp .ge 25, 3) := by decide +kernel
theorem dX7_laySays_17 : decode cX7_laySays 17 = .ok (.aload_n 0, 1) := by decide +kernel
theorem dX7_laySays_18 : decode cX7_laySays 18 = .ok (.getfield 38, 3) := by decide +kernel
theorem dX7_laySays_21 : decode cX7_laySays 21 = .ok (.iconst 4, 1) := by decide +kernel
theorem dX7_laySays_22 : decode cX7_laySays 22 = .ok (.iload_n 1, 1) := by decide +kernel
theorem dX7_laySays_23 : decode cX7_laySays 23 = .ok (.imul, 1) := by decide +kernel
theorem dX7_laySays_24 : decode cX7_laySays 24 = .ok (.iload_n 2, 1) := by decide +kernel
theorem dX7_laySays_25 : decode cX7_laySays 25 = .ok (.iadd, 1) := by decide +kernel
theorem dX7_laySays_26 : decode cX7_laySays 26 = .ok (.aload_n 0, 1) := by decide +kernel
theorem dX7_laySays_27 : decode cX7_laySays 27 = .ok (.iload_n 1, 1) := by decide +kernel
theorem dX7_laySays_28 : decode cX7_laySays 28 = .ok (.iload_n 2, 1) := by decide +kernel
theorem dX7_laySays_29 : decode cX7_laySays 29 = .ok (.invokevirtual 106, 3) := by decide +kernel
theorem dX7_laySays_32 : decode cX7_laySays 32 = .ok (.iastore, 1) := by decide +kernel
theorem dX7_laySays_33 : decode cX7_laySays 33 = .ok (.iinc 2 1, 3) := by decide +kernel
theorem dX7_laySays_36 : decode cX7_laySays 36 = .ok (.goto (-24), 3) := by decide +kernel
theorem dX7_laySays_39 : decode cX7_laySays 39 = .ok (.iinc 1 1, 3) := by decide +kernel
theorem dX7_laySays_42 : decode cX7_laySays 42 = .ok (.goto (-40), 3) := by decide +kernel
theorem dX7_laySays_45 : decode cX7_laySays 45 = .ok (.return_, 1) := by decide +kernel
set_option maxRecDepth 20000 in
theorem ggX7_layDeal_X7_laySays : GoodIn wsX7_layDeal wsX7_laySays := goodIn_r _ [8, 1, 2, 9, 10, 11, 7, 12, 13, 14, 18, 19, 20, 21, 22, 23, 24, 25, 26, 27, 28, 29, 30, 31, 32, 33, 34, 35, 36, 37, 38, 39, 40, 41, 42, 43, 44, 45, 46, 47, 48, 49, 50, 51, 52] (by decide +kernel) (by decide +kernel)
set_option maxRecDepth 20000 in
theorem gX7_layDeal_X7_laySays : GoodIn wsX7_layDeal (wsV RX7 110 RX7 yX7_laySays wsX7_laySays) := goodIn_app (goodIn_of _ (by decide +kernel)) ggX7_layDeal_X7_laySays
set_option maxRecDepth 20000 in
theorem ggX7_layDeal_X7_isIn : GoodIn wsX7_layDeal wsX7_isIn := goodIn_r _ [17] (by decide +kernel) (by decide +kernel)
set_option maxRecDepth 20000 in
theorem gX7_layDeal_X7_isIn : GoodIn wsX7_layDeal (va_wsS RX7 113 yX7_isIn wsX7_isIn) := goodIn_app (goodIn_of _ (by decide +kernel)) ggX7_layDeal_X7_isIn
theorem dX7_layDeal_0 : decode cX7_layDeal 0 = .ok (.aload_n 0, 1) := by decide +kernel
theorem dX7_layDeal_1 : decode cX7_layDeal 1 = .ok (.invokevirtual 110, 3) := by decide +kernel
theorem dX7_layDeal_4 : decode cX7_layDeal 4 = .ok (.iconst 0, 1) := by decide +kernel
theorem dX7_layDeal_5 : decode cX7_layDeal 5 = .ok (.istore_n 1, 1) := by decide +kernel
theorem dX7_layDeal_6 : decode cX7_layDeal 6 = .ok (.iconst 0, 1) := by decide +kernel
theorem dX7_layDeal_7 : decode cX7_layDeal 7 = .ok (.istore_n 2, 1) := by decide +kernel
theorem dX7_layDeal_8 : decode cX7_layDeal 8 = .ok (.iload_n 2, 1) := by decide +kernel
theorem dX7_layDeal_9 : decode cX7_layDeal 9 = .ok (.aload_n 0, 1) := by decide +kernel
theorem dX7_layDeal_10 : decode cX7_layDeal 10 = .ok (.getfield 91, 3) := by decide +kernel
theorem dX7_layDeal_13 : decode cX7_layDeal 13 = .ok (.if_icmp .ge 96, 3) := by decide +kernel
theorem dX7_layDeal_16 : decode cX7_layDeal 16 = .ok (.iconst (-1), 1) := by decide +kernel
theorem dX7_layDeal_17 : decode cX7_layDeal 17 = .ok (.istore_n 3, 1) := by decide +kernel
theorem dX7_layDeal_18 : decode cX7_layDeal 18 = .ok (.iconst 0, 1) := by decide +kernel
theorem dX7_layDeal_19 : decode cX7_layDeal 19 = .ok (.istore 4, 2) := by decide +kernel
theorem dX7_layDeal_21 : decode cX7_layDeal 21 = .ok (.iload 4, 2) := by decide +kernel
theorem dX7_layDeal_23 : decode cX7_layDeal 23 = .ok (.iconst 4, 1) := by decide +kernel
theorem dX7_layDeal_24 : decode cX7_layDeal 24 = .ok (.if_icmp .ge 66, 3) := by decide +kernel
theorem dX7_layDeal_27 : decode cX7_layDeal 27 = .ok (.iload_n 3, 1) := by decide +kernel
theorem dX7_layDeal_28 : decode cX7_layDeal 28 = .ok (.iconst (-1), 1) := by decide +kernel
theorem dX7_layDeal_29 : decode cX7_layDeal 29 = .ok (.if_icmp .eq 27, 3) := by decide +kernel
theorem dX7_layDeal_32 : decode cX7_layDeal 32 = .ok (.aload_n 0, 1) := by decide +kernel
theorem dX7_layDeal_33 : decode cX7_layDeal 33 = .ok (.getfield 38, 3) := by decide +kernel
theorem dX7_layDeal_36 : decode cX7_layDeal 36 = .ok (.iconst 4, 1) := by decide +kernel
theorem dX7_layDeal_37 : decode cX7_layDeal 37 = .ok (.iload_n 2, 1) := by decide +kernel
theorem dX7_layDeal_38 : decode cX7_layDeal 38 = .ok (.imul, 1) := by decide +kernel
theorem dX7_layDeal_39 : decode cX7_layDeal 39 = .ok (.iload 4, 2) := by decide +kernel
theorem dX7_layDeal_41 : decode cX7_layDeal 41 = .ok (.iadd, 1) := by decide +kernel
theorem dX7_layDeal_42 : decode cX7_layDeal 42 = .ok (.iaload, 1) := by decide +kernel
theorem dX7_layDeal_43 : decode cX7_layDeal 43 = .ok (.aload_n 0, 1) := by decide +kernel
theorem dX7_layDeal_44 : decode cX7_layDeal 44 = .ok (.getfield 38, 3) := by decide +kernel
theorem dX7_layDeal_47 : decode cX7_layDeal 47 = .ok (.iconst 4, 1) := by decide +kernel
theorem dX7_layDeal_48 : decode cX7_layDeal 48 = .ok (.iload_n 2, 1) := by decide +kernel
theorem dX7_layDeal_49 : decode cX7_layDeal 49 = .ok (.imul, 1) := by decide +kernel
theorem dX7_layDeal_50 : decode cX7_layDeal 50 = .ok (.iload_n 3, 1) := by decide +kernel
theorem dX7_layDeal_51 : decode cX7_layDeal 51 = .ok (.iadd, 1) := by decide +kernel
theorem dX7_layDeal_52 : decode cX7_layDeal 52 = .ok (.iaload, 1) := by decide +kernel
theorem dX7_layDeal_53 : decode cX7_layDeal 53 = .ok (.if_icmp .ge 7, 3) := by decide +kernel
theorem dX7_layDeal_56 : decode cX7_layDeal 56 = .ok (.iconst 1, 1) := by decide +kernel
theorem dX7_layDeal_57 : decode cX7_layDeal 57 = .ok (.goto 4, 3) := by decide +kernel
theorem dX7_layDeal_60 : decode cX7_layDeal 60 = .ok (.iconst 0, 1) := by decide +kernel
theorem dX7_layDeal_61 : decode cX7_layDeal 61 = .ok (.istore 5, 2) := by decide +kernel
theorem dX7_layDeal_63 : decode cX7_layDeal 63 = .ok (.iload_n 1, 1) := by decide +kernel
theorem dX7_layDeal_64 : decode cX7_layDeal 64 = .ok (.iload 4, 2) := by decide +kernel
theorem dX7_layDeal_66 : decode cX7_layDeal 66 = .ok (.invokestatic 113, 3) := by decide +kernel
theorem dX7_layDeal_69 : decode cX7_layDeal 69 = .ok (.ifCond .ne 13, 3) := by decide +kernel
theorem dX7_layDeal_72 : decode cX7_layDeal 72 = .ok (.iload 5, 2) := by decide +kernel
theorem dX7_layDeal_74 : decode cX7_layDeal 74 = .ok (.ifCond .eq 8, 3) := by decide +kernel
theorem dX7_layDeal_77 : decode cX7_layDeal 77 = .ok (.iload 4, 2) := by decide +kernel
theorem dX7_layDeal_79 : decode cX7_layDeal 79 = .ok (.goto 4, 3) := by decide +kernel
theorem dX7_layDeal_82 : decode cX7_layDeal 82 = .ok (.iload_n 3, 1) := by decide +kernel
theorem dX7_layDeal_83 : decode cX7_layDeal 83 = .ok (.istore_n 3, 1) := by decide +kernel
theorem dX7_layDeal_84 : decode cX7_layDeal 84 = .ok (.iinc 4 1, 3) := by decide +kernel
theorem dX7_layDeal_87 : decode cX7_layDeal 87 = .ok (.goto (-66), 3) := by decide +kernel
theorem dX7_layDeal_90 : decode cX7_layDeal 90 = .ok (.iload_n 1, 1) := by decide +kernel
theorem dX7_layDeal_91 : decode cX7_layDeal 91 = .ok (.iconst 1, 1) := by decide +kernel
theorem dX7_layDeal_92 : decode cX7_layDeal 92 = .ok (.iload_n 3, 1) := by decide +kernel
theorem dX7_layDeal_93 : decode cX7_layDeal 93 = .ok (.ishl, 1) := by decide +kernel
theorem dX7_layDeal_94 : decode cX7_layDeal 94 = .ok (.ior, 1) := by decide +kernel
theorem dX7_layDeal_95 : decode cX7_layDeal 95 = .ok (.istore_n 1, 1) := by decide +kernel
theorem dX7_layDeal_96 : decode cX7_layDeal 96 = .ok (.aload_n 0, 1) := by decide +kernel
theorem dX7_layDeal_97 : decode cX7_layDeal 97 = .ok (.getfield 41, 3) := by decide +kernel
theorem dX7_layDeal_100 : decode cX7_layDeal 100 = .ok (.iload_n 2, 1) := by decide +kernel
theorem dX7_layDeal_101 : decode cX7_layDeal 101 = .ok (.iload_n 3, 1) := by decide +kernel
theorem dX7_layDeal_102 : decode cX7_layDeal 102 = .ok (.iastore, 1) := by decide +kernel
theorem dX7_layDeal_103 : decode cX7_layDeal 103 = .ok (.iinc 2 1, 3) := by decide +kernel
theorem dX7_layDeal_106 : decode cX7_layDeal 106 = .ok (.goto (-98), 3) := by decide +kernel
theorem dX7_layDeal_109 : decode cX7_layDeal 109 = .ok (.return_, 1) := by decide +kernel
set_option maxRecDepth 20000 in
theorem ggX7_dealNow_X7_layDeal : GoodIn wsX7_dealNow wsX7_layDeal := goodIn_r _ [8, 1, 9, 3, 10, 11, 12, 7, 13, 14, 15, 16, 17, 18, 19, 20, 21, 22, 23, 24, 25, 26, 27, 28, 29, 30, 31, 32, 33, 34, 35, 36, 37, 38, 39, 40, 41, 42, 43, 44, 45, 46, 47, 48, 49, 50, 51, 52, 53, 54, 55, 56, 57] (by decide +kernel) (by decide +kernel)
set_option maxRecDepth 20000 in
theorem gX7_dealNow_X7_layDeal : GoodIn wsX7_dealNow (wsV RX7 117 RX7 yX7_layDeal wsX7_layDeal) := goodIn_app (goodIn_of _ (by decide +kernel)) ggX7_dealNow_X7_layDeal
theorem dX7_dealNow_0 : decode cX7_dealNow 0 = .ok (.aload_n 0, 1) := by decide +kernel
theorem dX7_dealNow_1 : decode cX7_dealNow 1 = .ok (.invokevirtual 117, 3) := by decide +kernel
theorem dX7_dealNow_4 : decode cX7_dealNow 4 = .ok (.iconst 0, 1) := by decide +kernel
theorem dX7_dealNow_5 : decode cX7_dealNow 5 = .ok (.istore_n 1, 1) := by decide +kernel
theorem dX7_dealNow_6 : decode cX7_dealNow 6 = .ok (.iconst 0, 1) := by decide +kernel
theorem dX7_dealNow_7 : decode cX7_dealNow 7 = .ok (.istore_n 2, 1) := by decide +kernel
theorem dX7_dealNow_8 : decode cX7_dealNow 8 = .ok (.iload_n 2, 1) := by decide +kernel
theorem dX7_dealNow_9 : decode cX7_dealNow 9 = .ok (.aload_n 0, 1) := by decide +kernel
theorem dX7_dealNow_10 : decode cX7_dealNow 10 = .ok (.getfield 91, 3) := by decide +kernel
theorem dX7_dealNow_13 : decode cX7_dealNow 13 = .ok (.if_icmp .ge 44, 3) := by decide +kernel
theorem dX7_dealNow_16 : decode cX7_dealNow 16 = .ok (.iload_n 1, 1) := by decide +kernel
theorem dX7_dealNow_17 : decode cX7_dealNow 17 = .ok (.aload_n 0, 1) := by decide +kernel
theorem dX7_dealNow_18 : decode cX7_dealNow 18 = .ok (.getfield 16, 3) := by decide +kernel
theorem dX7_dealNow_21 : decode cX7_dealNow 21 = .ok (.iload_n 2, 1) := by decide +kernel
theorem dX7_dealNow_22 : decode cX7_dealNow 22 = .ok (.iaload, 1) := by decide +kernel
theorem dX7_dealNow_23 : decode cX7_dealNow 23 = .ok (.aload_n 0, 1) := by decide +kernel
theorem dX7_dealNow_24 : decode cX7_dealNow 24 = .ok (.getfield 41, 3) := by decide +kernel
theorem dX7_dealNow_27 : decode cX7_dealNow 27 = .ok (.iload_n 2, 1) := by decide +kernel
theorem dX7_dealNow_28 : decode cX7_dealNow 28 = .ok (.iaload, 1) := by decide +kernel
theorem dX7_dealNow_29 : decode cX7_dealNow 29 = .ok (.if_icmp .ne 7, 3) := by decide +kernel
theorem dX7_dealNow_32 : decode cX7_dealNow 32 = .ok (.iconst 0, 1) := by decide +kernel
theorem dX7_dealNow_33 : decode cX7_dealNow 33 = .ok (.goto 4, 3) := by decide +kernel
theorem dX7_dealNow_36 : decode cX7_dealNow 36 = .ok (.iconst 1, 1) := by decide +kernel
theorem dX7_dealNow_37 : decode cX7_dealNow 37 = .ok (.iadd, 1) := by decide +kernel
theorem dX7_dealNow_38 : decode cX7_dealNow 38 = .ok (.istore_n 1, 1) := by decide +kernel
theorem dX7_dealNow_39 : decode cX7_dealNow 39 = .ok (.aload_n 0, 1) := by decide +kernel
theorem dX7_dealNow_40 : decode cX7_dealNow 40 = .ok (.getfield 16, 3) := by decide +kernel
theorem dX7_dealNow_43 : decode cX7_dealNow 43 = .ok (.iload_n 2, 1) := by decide +kernel
theorem dX7_dealNow_44 : decode cX7_dealNow 44 = .ok (.aload_n 0, 1) := by decide +kernel
theorem dX7_dealNow_45 : decode cX7_dealNow 45 = .ok (.getfield 41, 3) := by decide +kernel
theorem dX7_dealNow_48 : decode cX7_dealNow 48 = .ok (.iload_n 2, 1) := by decide +kernel
theorem dX7_dealNow_49 : decode cX7_dealNow 49 = .ok (.iaload, 1) := by decide +kernel
theorem dX7_dealNow_50 : decode cX7_dealNow 50 = .ok (.iastore, 1) := by decide +kernel
theorem dX7_dealNow_51 : decode cX7_dealNow 51 = .ok (.iinc 2 1, 3) := by decide +kernel
theorem dX7_dealNow_54 : decode cX7_dealNow 54 = .ok (.goto (-46), 3) := by decide +kernel
theorem dX7_dealNow_57 : decode cX7_dealNow 57 = .ok (.iload_n 1, 1) := by decide +kernel
theorem dX7_dealNow_58 : decode cX7_dealNow 58 = .ok (.ireturn, 1) := by decide +kernel
theorem dX7_isContent_0 : decode cX7_isContent 0 = .ok (.aload_n 0, 1) := by decide +kernel
theorem dX7_isContent_1 : decode cX7_isContent 1 = .ok (.getfield 13, 3) := by decide +kernel
theorem dX7_isContent_4 : decode cX7_isContent 4 = .ok (.iconst 4, 1) := by decide +kernel
theorem dX7_isContent_5 : decode cX7_isContent 5 = .ok (.iload_n 1, 1) := by decide +kernel
theorem dX7_isContent_6 : decode cX7_isContent 6 = .ok (.imul, 1) := by decide +kernel
theorem dX7_isContent_7 : decode cX7_isContent 7 = .ok (.aload_n 0, 1) := by decide +kernel
theorem dX7_isContent_8 : decode cX7_isContent 8 = .ok (.getfield 16, 3) := by decide +kernel
theorem dX7_isContent_11 : decode cX7_isContent 11 = .ok (.iload_n 1, 1) := by decide +kernel
theorem dX7_isContent_12 : decode cX7_isContent 12 = .ok (.iaload, 1) := by decide +kernel
theorem dX7_isContent_13 : decode cX7_isContent 13 = .ok (.iadd, 1) := by decide +kernel
theorem dX7_isContent_14 : decode cX7_isContent 14 = .ok (.iaload, 1) := by decide +kernel
theorem dX7_isContent_15 : decode cX7_isContent 15 = .ok (.iconst 5, 1) := by decide +kernel
theorem dX7_isContent_16 : decode cX7_isContent 16 = .ok (.if_icmp .lt 7, 3) := by decide +kernel
theorem dX7_isContent_19 : decode cX7_isContent 19 = .ok (.iconst 1, 1) := by decide +kernel
theorem dX7_isContent_20 : decode cX7_isContent 20 = .ok (.goto 4, 3) := by decide +kernel
theorem dX7_isContent_23 : decode cX7_isContent 23 = .ok (.iconst 0, 1) := by decide +kernel
theorem dX7_isContent_24 : decode cX7_isContent 24 = .ok (.ireturn, 1) := by decide +kernel
set_option maxRecDepth 20000 in
theorem ggX7_saysNow_X7_laySays : GoodIn wsX7_saysNow wsX7_laySays := goodIn_r _ [6, 7, 1, 8, 9, 10, 5, 11, 12, 13, 14, 15, 16, 17, 18, 19, 20, 21, 22, 23, 24, 25, 26, 27, 28, 29, 30, 31, 32, 33, 34, 35, 36, 37, 38, 39, 40, 41, 42, 43, 44, 45, 46, 47, 48] (by decide +kernel) (by decide +kernel)
set_option maxRecDepth 20000 in
theorem gX7_saysNow_X7_laySays : GoodIn wsX7_saysNow (wsV RX7 110 RX7 yX7_laySays wsX7_laySays) := goodIn_app (goodIn_of _ (by decide +kernel)) ggX7_saysNow_X7_laySays
theorem dX7_saysNow_0 : decode cX7_saysNow 0 = .ok (.aload_n 0, 1) := by decide +kernel
theorem dX7_saysNow_1 : decode cX7_saysNow 1 = .ok (.invokevirtual 110, 3) := by decide +kernel
theorem dX7_saysNow_4 : decode cX7_saysNow 4 = .ok (.aload_n 0, 1) := by decide +kernel
theorem dX7_saysNow_5 : decode cX7_saysNow 5 = .ok (.getfield 38, 3) := by decide +kernel
theorem dX7_saysNow_8 : decode cX7_saysNow 8 = .ok (.iconst 4, 1) := by decide +kernel
theorem dX7_saysNow_9 : decode cX7_saysNow 9 = .ok (.iload_n 1, 1) := by decide +kernel
theorem dX7_saysNow_10 : decode cX7_saysNow 10 = .ok (.imul, 1) := by decide +kernel
theorem dX7_saysNow_11 : decode cX7_saysNow 11 = .ok (.iload_n 2, 1) := by decide +kernel
theorem dX7_saysNow_12 : decode cX7_saysNow 12 = .ok (.iadd, 1) := by decide +kernel
theorem dX7_saysNow_13 : decode cX7_saysNow 13 = .ok (.iaload, 1) := by decide +kernel
theorem dX7_saysNow_14 : decode cX7_saysNow 14 = .ok (.ireturn, 1) := by decide +kernel
set_option maxRecDepth 20000 in
theorem ggX7_heirNow_X7_saysNow : GoodIn wsX7_heirNow wsX7_saysNow := goodIn_r _ [9, 10, 11, 12, 13, 8, 14, 15, 16, 17, 18, 19, 1, 2, 24, 25, 26, 27, 28, 29, 30, 31, 32, 33, 34, 35, 36, 37, 38, 39, 40, 41, 42, 43, 44, 45, 46, 47, 48, 49, 50, 51, 52, 53, 54, 55, 56, 57, 58] (by decide +kernel) (by decide +kernel)
set_option maxRecDepth 20000 in
theorem gX7_heirNow_X7_saysNow : GoodIn wsX7_heirNow (wsV RX7 120 RX7 yX7_saysNow wsX7_saysNow) := goodIn_app (goodIn_of _ (by decide +kernel)) ggX7_heirNow_X7_saysNow
set_option maxRecDepth 20000 in
theorem ggX7_heirNow_X7_isContent : GoodIn wsX7_heirNow wsX7_isContent := goodIn_r _ [23, 1, 3, 24, 25, 26, 27, 28, 29, 30, 31, 32, 33, 34, 35, 36, 37, 38, 39, 40, 41, 42, 43, 44, 45, 46, 47, 48, 49, 50, 51, 52, 53, 54, 55, 56, 57, 58] (by decide +kernel) (by decide +kernel)
set_option maxRecDepth 20000 in
theorem gX7_heirNow_X7_isContent : GoodIn wsX7_heirNow (wsV RX7 123 RX7 yX7_isContent wsX7_isContent) := goodIn_app (goodIn_of _ (by decide +kernel)) ggX7_heirNow_X7_isContent
theorem dX7_heirNow_0 : decode cX7_heirNow 0 = .ok (.iload_n 2, 1) := by decide +kernel
theorem dX7_heirNow_1 : decode cX7_heirNow 1 = .ok (.bipush 20, 2) := by decide +kernel
theorem dX7_heirNow_3 : decode cX7_heirNow 3 = .ok (.if_icmp .lt 13, 3) := by decide +kernel
theorem dX7_heirNow_6 : decode cX7_heirNow 6 = .ok (.aload_n 0, 1) := by decide +kernel
theorem dX7_heirNow_7 : decode cX7_heirNow 7 = .ok (.iload_n 1, 1) := by decide +kernel
theorem dX7_heirNow_8 : decode cX7_heirNow 8 = .ok (.iload_n 2, 1) := by decide +kernel
theorem dX7_heirNow_9 : decode cX7_heirNow 9 = .ok (.bipush 20, 2) := by decide +kernel
theorem dX7_heirNow_11 : decode cX7_heirNow 11 = .ok (.isub, 1) := by decide +kernel
theorem dX7_heirNow_12 : decode cX7_heirNow 12 = .ok (.invokevirtual 120, 3) := by decide +kernel
theorem dX7_heirNow_15 : decode cX7_heirNow 15 = .ok (.ireturn, 1) := by decide +kernel
theorem dX7_heirNow_16 : decode cX7_heirNow 16 = .ok (.iload_n 2, 1) := by decide +kernel
theorem dX7_heirNow_17 : decode cX7_heirNow 17 = .ok (.bipush 10, 2) := by decide +kernel
theorem dX7_heirNow_19 : decode cX7_heirNow 19 = .ok (.if_icmp .lt 17, 3) := by decide +kernel
theorem dX7_heirNow_22 : decode cX7_heirNow 22 = .ok (.aload_n 0, 1) := by decide +kernel
theorem dX7_heirNow_23 : decode cX7_heirNow 23 = .ok (.getfield 13, 3) := by decide +kernel
theorem dX7_heirNow_26 : decode cX7_heirNow 26 = .ok (.iconst 4, 1) := by decide +kernel
theorem dX7_heirNow_27 : decode cX7_heirNow 27 = .ok (.iload_n 1, 1) := by decide +kernel
theorem dX7_heirNow_28 : decode cX7_heirNow 28 = .ok (.imul, 1) := by decide +kernel
theorem dX7_heirNow_29 : decode cX7_heirNow 29 = .ok (.iload_n 2, 1) := by decide +kernel
theorem dX7_heirNow_30 : decode cX7_heirNow 30 = .ok (.iadd, 1) := by decide +kernel
theorem dX7_heirNow_31 : decode cX7_heirNow 31 = .ok (.bipush 10, 2) := by decide +kernel
theorem dX7_heirNow_33 : decode cX7_heirNow 33 = .ok (.isub, 1) := by decide +kernel
theorem dX7_heirNow_34 : decode cX7_heirNow 34 = .ok (.iaload, 1) := by decide +kernel
theorem dX7_heirNow_35 : decode cX7_heirNow 35 = .ok (.ireturn, 1) := by decide +kernel
theorem dX7_heirNow_36 : decode cX7_heirNow 36 = .ok (.iload_n 2, 1) := by decide +kernel
theorem dX7_heirNow_37 : decode cX7_heirNow 37 = .ok (.ifCond .ne 12, 3) := by decide +kernel
theorem dX7_heirNow_40 : decode cX7_heirNow 40 = .ok (.aload_n 0, 1) := by decide +kernel
theorem dX7_heirNow_41 : decode cX7_heirNow 41 = .ok (.getfield 7, 3) := by decide +kernel
theorem dX7_heirNow_44 : decode cX7_heirNow 44 = .ok (.iload_n 1, 1) := by decide +kernel
theorem dX7_heirNow_45 : decode cX7_heirNow 45 = .ok (.iaload, 1) := by decide +kernel
theorem dX7_heirNow_46 : decode cX7_heirNow 46 = .ok (.goto 44, 3) := by decide +kernel
theorem dX7_heirNow_49 : decode cX7_heirNow 49 = .ok (.iload_n 2, 1) := by decide +kernel
theorem dX7_heirNow_50 : decode cX7_heirNow 50 = .ok (.iconst 1, 1) := by decide +kernel
theorem dX7_heirNow_51 : decode cX7_heirNow 51 = .ok (.if_icmp .ne 12, 3) := by decide +kernel
theorem dX7_heirNow_54 : decode cX7_heirNow 54 = .ok (.aload_n 0, 1) := by decide +kernel
theorem dX7_heirNow_55 : decode cX7_heirNow 55 = .ok (.getfield 16, 3) := by decide +kernel
theorem dX7_heirNow_58 : decode cX7_heirNow 58 = .ok (.iload_n 1, 1) := by decide +kernel
theorem dX7_heirNow_59 : decode cX7_heirNow 59 = .ok (.iaload, 1) := by decide +kernel
theorem dX7_heirNow_60 : decode cX7_heirNow 60 = .ok (.goto 30, 3) := by decide +kernel
theorem dX7_heirNow_63 : decode cX7_heirNow 63 = .ok (.iload_n 2, 1) := by decide +kernel
theorem dX7_heirNow_64 : decode cX7_heirNow 64 = .ok (.iconst 2, 1) := by decide +kernel
theorem dX7_heirNow_65 : decode cX7_heirNow 65 = .ok (.if_icmp .ne 19, 3) := by decide +kernel
theorem dX7_heirNow_68 : decode cX7_heirNow 68 = .ok (.aload_n 0, 1) := by decide +kernel
theorem dX7_heirNow_69 : decode cX7_heirNow 69 = .ok (.iload_n 1, 1) := by decide +kernel
theorem dX7_heirNow_70 : decode cX7_heirNow 70 = .ok (.invokevirtual 123, 3) := by decide +kernel
theorem dX7_heirNow_73 : decode cX7_heirNow 73 = .ok (.ifCond .eq 7, 3) := by decide +kernel
theorem dX7_heirNow_76 : decode cX7_heirNow 76 = .ok (.iconst 1, 1) := by decide +kernel
theorem dX7_heirNow_77 : decode cX7_heirNow 77 = .ok (.goto 13, 3) := by decide +kernel
theorem dX7_heirNow_80 : decode cX7_heirNow 80 = .ok (.iconst 0, 1) := by decide +kernel
theorem dX7_heirNow_81 : decode cX7_heirNow 81 = .ok (.goto 9, 3) := by decide +kernel
theorem dX7_heirNow_84 : decode cX7_heirNow 84 = .ok (.aload_n 0, 1) := by decide +kernel
theorem dX7_heirNow_85 : decode cX7_heirNow 85 = .ok (.getfield 19, 3) := by decide +kernel
theorem dX7_heirNow_88 : decode cX7_heirNow 88 = .ok (.iload_n 1, 1) := by decide +kernel
theorem dX7_heirNow_89 : decode cX7_heirNow 89 = .ok (.iaload, 1) := by decide +kernel
theorem dX7_heirNow_90 : decode cX7_heirNow 90 = .ok (.ireturn, 1) := by decide +kernel
set_option maxRecDepth 20000 in
theorem ggX7_about_X7_within : GoodIn wsX7_about wsX7_within := goodIn_r _ [4] (by decide +kernel) (by decide +kernel)
set_option maxRecDepth 20000 in
theorem gX7_about_X7_within : GoodIn wsX7_about (va_wsS RX7 71 yX7_within wsX7_within) := goodIn_app (goodIn_of _ (by decide +kernel)) ggX7_about_X7_within
set_option maxRecDepth 20000 in
theorem ggX7_about_X7_isHeir : GoodIn wsX7_about wsX7_isHeir := goodIn_r _ [8, 9, 1, 2, 3, 4, 35, 36, 37, 38, 39, 40, 41, 42, 43, 44, 45, 46, 47, 48, 49, 50, 51, 52, 53, 54, 55, 56, 57, 58, 59, 60, 61, 62, 63, 64, 65, 66, 67, 68, 69] (by decide +kernel) (by decide +kernel)
set_option maxRecDepth 20000 in
theorem gX7_about_X7_isHeir : GoodIn wsX7_about (wsV RX7 126 RX7 yX7_isHeir wsX7_isHeir) := goodIn_app (goodIn_of _ (by decide +kernel)) ggX7_about_X7_isHeir
set_option maxRecDepth 20000 in
theorem ggX7_about_X7_heirNow : GoodIn wsX7_about wsX7_heirNow := goodIn_r _ [13, 14, 15, 16, 17, 18, 19, 20, 3, 21, 22, 23, 24, 25, 26, 9, 27, 28, 29, 30, 31, 32, 33, 34, 35, 36, 37, 38, 39, 40, 41, 42, 43, 44, 45, 46, 47, 48, 49, 50, 51, 52, 53, 54, 55, 56, 57, 58, 59, 60, 61, 62, 63, 64, 65, 66, 67, 68, 69] (by decide +kernel) (by decide +kernel)
set_option maxRecDepth 20000 in
theorem gX7_about_X7_heirNow : GoodIn wsX7_about (wsV RX7 129 RX7 yX7_heirNow wsX7_heirNow) := goodIn_app (goodIn_of _ (by decide +kernel)) ggX7_about_X7_heirNow
theorem dX7_about_0 : decode cX7_about 0 = .ok (.iload_n 2, 1) := by decide +kernel
theorem dX7_about_1 : decode cX7_about 1 = .ok (.iconst 0, 1) := by decide +kernel
theorem dX7_about_2 : decode cX7_about 2 = .ok (.iconst 3, 1) := by decide +kernel
theorem dX7_about_3 : decode cX7_about 3 = .ok (.invokestatic 71, 3) := by decide +kernel
theorem dX7_about_6 : decode cX7_about 6 = .ok (.ifCond .ne 25, 3) := by decide +kernel
theorem dX7_about_9 : decode cX7_about 9 = .ok (.iload_n 2, 1) := by decide +kernel
theorem dX7_about_10 : decode cX7_about 10 = .ok (.bipush 10, 2) := by decide +kernel
theorem dX7_about_12 : decode cX7_about 12 = .ok (.bipush 13, 2) := by decide +kernel
theorem dX7_about_14 : decode cX7_about 14 = .ok (.invokestatic 71, 3) := by decide +kernel
theorem dX7_about_17 : decode cX7_about 17 = .ok (.ifCond .ne 14, 3) := by decide +kernel
theorem dX7_about_20 : decode cX7_about 20 = .ok (.iload_n 2, 1) := by decide +kernel
theorem dX7_about_21 : decode cX7_about 21 = .ok (.bipush 20, 2) := by decide +kernel
theorem dX7_about_23 : decode cX7_about 23 = .ok (.bipush 23, 2) := by decide +kernel
theorem dX7_about_25 : decode cX7_about 25 = .ok (.invokestatic 71, 3) := by decide +kernel
theorem dX7_about_28 : decode cX7_about 28 = .ok (.ifCond .eq 7, 3) := by decide +kernel
theorem dX7_about_31 : decode cX7_about 31 = .ok (.iconst 1, 1) := by decide +kernel
theorem dX7_about_32 : decode cX7_about 32 = .ok (.goto 4, 3) := by decide +kernel
theorem dX7_about_35 : decode cX7_about 35 = .ok (.iconst 0, 1) := by decide +kernel
theorem dX7_about_36 : decode cX7_about 36 = .ok (.istore_n 3, 1) := by decide +kernel
theorem dX7_about_37 : decode cX7_about 37 = .ok (.aload_n 0, 1) := by decide +kernel
theorem dX7_about_38 : decode cX7_about 38 = .ok (.iload_n 1, 1) := by decide +kernel
theorem dX7_about_39 : decode cX7_about 39 = .ok (.invokevirtual 126, 3) := by decide +kernel
theorem dX7_about_42 : decode cX7_about 42 = .ok (.ifCond .ne 8, 3) := by decide +kernel
theorem dX7_about_45 : decode cX7_about 45 = .ok (.bipush (-101), 2) := by decide +kernel
theorem dX7_about_47 : decode cX7_about 47 = .ok (.goto 18, 3) := by decide +kernel
theorem dX7_about_50 : decode cX7_about 50 = .ok (.iload_n 3, 1) := by decide +kernel
theorem dX7_about_51 : decode cX7_about 51 = .ok (.ifCond .eq 12, 3) := by decide +kernel
theorem dX7_about_54 : decode cX7_about 54 = .ok (.aload_n 0, 1) := by decide +kernel
theorem dX7_about_55 : decode cX7_about 55 = .ok (.iload_n 1, 1) := by decide +kernel
theorem dX7_about_56 : decode cX7_about 56 = .ok (.iload_n 2, 1) := by decide +kernel
theorem dX7_about_57 : decode cX7_about 57 = .ok (.invokevirtual 129, 3) := by decide +kernel
theorem dX7_about_60 : decode cX7_about 60 = .ok (.goto 5, 3) := by decide +kernel
theorem dX7_about_63 : decode cX7_about 63 = .ok (.bipush (-102), 2) := by decide +kernel
theorem dX7_about_65 : decode cX7_about 65 = .ok (.ireturn, 1) := by decide +kernel
set_option maxRecDepth 20000 in
theorem ggX7_as_X7_isHeir : GoodIn wsX7_as wsX7_isHeir := goodIn_r _ [6, 7, 8, 9, 5, 10, 11, 12, 13, 14, 15, 16, 17, 18, 19, 20, 21, 22, 23, 24, 25, 26, 27, 28, 29, 30, 31, 32, 33, 34, 35, 36, 37, 38, 39, 40, 41, 42, 43, 44, 45] (by decide +kernel) (by decide +kernel)
set_option maxRecDepth 20000 in
theorem gX7_as_X7_isHeir : GoodIn wsX7_as (wsV RX7 126 RX7 yX7_isHeir wsX7_isHeir) := goodIn_app (goodIn_of _ (by decide +kernel)) ggX7_as_X7_isHeir
set_option maxRecDepth 20000 in
theorem ggX7_as_X7_within : GoodIn wsX7_as wsX7_within := goodIn_r _ [10] (by decide +kernel) (by decide +kernel)
set_option maxRecDepth 20000 in
theorem gX7_as_X7_within : GoodIn wsX7_as (va_wsS RX7 71 yX7_within wsX7_within) := goodIn_app (goodIn_of _ (by decide +kernel)) ggX7_as_X7_within
theorem dX7_as_0 : decode cX7_as 0 = .ok (.aload_n 0, 1) := by decide +kernel
theorem dX7_as_1 : decode cX7_as 1 = .ok (.iload_n 1, 1) := by decide +kernel
theorem dX7_as_2 : decode cX7_as 2 = .ok (.invokevirtual 126, 3) := by decide +kernel
theorem dX7_as_5 : decode cX7_as 5 = .ok (.ifCond .ne 6, 3) := by decide +kernel
theorem dX7_as_8 : decode cX7_as 8 = .ok (.bipush (-101), 2) := by decide +kernel
theorem dX7_as_10 : decode cX7_as 10 = .ok (.ireturn, 1) := by decide +kernel
theorem dX7_as_11 : decode cX7_as 11 = .ok (.iload_n 2, 1) := by decide +kernel
theorem dX7_as_12 : decode cX7_as 12 = .ok (.iconst 0, 1) := by decide +kernel
theorem dX7_as_13 : decode cX7_as 13 = .ok (.iconst 4, 1) := by decide +kernel
theorem dX7_as_14 : decode cX7_as 14 = .ok (.invokestatic 71, 3) := by decide +kernel
theorem dX7_as_17 : decode cX7_as 17 = .ok (.ifCond .ne 6, 3) := by decide +kernel
theorem dX7_as_20 : decode cX7_as 20 = .ok (.bipush (-102), 2) := by decide +kernel
theorem dX7_as_22 : decode cX7_as 22 = .ok (.ireturn, 1) := by decide +kernel
theorem dX7_as_23 : decode cX7_as 23 = .ok (.aload_n 0, 1) := by decide +kernel
theorem dX7_as_24 : decode cX7_as 24 = .ok (.getfield 7, 3) := by decide +kernel
theorem dX7_as_27 : decode cX7_as 27 = .ok (.iload_n 1, 1) := by decide +kernel
theorem dX7_as_28 : decode cX7_as 28 = .ok (.iaload, 1) := by decide +kernel
theorem dX7_as_29 : decode cX7_as 29 = .ok (.istore_n 3, 1) := by decide +kernel
theorem dX7_as_30 : decode cX7_as 30 = .ok (.iload_n 2, 1) := by decide +kernel
theorem dX7_as_31 : decode cX7_as 31 = .ok (.ifCond .eq 18, 3) := by decide +kernel
theorem dX7_as_34 : decode cX7_as 34 = .ok (.iload_n 3, 1) := by decide +kernel
theorem dX7_as_35 : decode cX7_as 35 = .ok (.iload_n 2, 1) := by decide +kernel
theorem dX7_as_36 : decode cX7_as 36 = .ok (.if_icmp .eq 13, 3) := by decide +kernel
theorem dX7_as_39 : decode cX7_as 39 = .ok (.iload_n 2, 1) := by decide +kernel
theorem dX7_as_40 : decode cX7_as 40 = .ok (.iconst 1, 1) := by decide +kernel
theorem dX7_as_41 : decode cX7_as 41 = .ok (.if_icmp .ne 12, 3) := by decide +kernel
theorem dX7_as_44 : decode cX7_as 44 = .ok (.iload_n 3, 1) := by decide +kernel
theorem dX7_as_45 : decode cX7_as 45 = .ok (.iconst 4, 1) := by decide +kernel
theorem dX7_as_46 : decode cX7_as 46 = .ok (.if_icmp .ne 7, 3) := by decide +kernel
theorem dX7_as_49 : decode cX7_as 49 = .ok (.iload_n 1, 1) := by decide +kernel
theorem dX7_as_50 : decode cX7_as 50 = .ok (.goto 4, 3) := by decide +kernel
theorem dX7_as_53 : decode cX7_as 53 = .ok (.iconst (-1), 1) := by decide +kernel
theorem dX7_as_54 : decode cX7_as 54 = .ok (.ireturn, 1) := by decide +kernel
theorem dX7_whoHas_0 : decode cX7_whoHas 0 = .ok (.iconst (-1), 1) := by decide +kernel
theorem dX7_whoHas_1 : decode cX7_whoHas 1 = .ok (.istore_n 2, 1) := by decide +kernel
theorem dX7_whoHas_2 : decode cX7_whoHas 2 = .ok (.iconst 0, 1) := by decide +kernel
theorem dX7_whoHas_3 : decode cX7_whoHas 3 = .ok (.istore_n 3, 1) := by decide +kernel
theorem dX7_whoHas_4 : decode cX7_whoHas 4 = .ok (.iload_n 3, 1) := by decide +kernel
theorem dX7_whoHas_5 : decode cX7_whoHas 5 = .ok (.aload_n 0, 1) := by decide +kernel
theorem dX7_whoHas_6 : decode cX7_whoHas 6 = .ok (.getfield 91, 3) := by decide +kernel
theorem dX7_whoHas_9 : decode cX7_whoHas 9 = .ok (.if_icmp .ge 25, 3) := by decide +kernel
theorem dX7_whoHas_12 : decode cX7_whoHas 12 = .ok (.aload_n 0, 1) := by decide +kernel
theorem dX7_whoHas_13 : decode cX7_whoHas 13 = .ok (.getfield 16, 3) := by decide +kernel
theorem dX7_whoHas_16 : decode cX7_whoHas 16 = .ok (.iload_n 3, 1) := by decide +kernel
theorem dX7_whoHas_17 : decode cX7_whoHas 17 = .ok (.iaload, 1) := by decide +kernel
theorem dX7_whoHas_18 : decode cX7_whoHas 18 = .ok (.iload_n 1, 1) := by decide +kernel
theorem dX7_whoHas_19 : decode cX7_whoHas 19 = .ok (.if_icmp .ne 7, 3) := by decide +kernel
theorem dX7_whoHas_22 : decode cX7_whoHas 22 = .ok (.iload_n 3, 1) := by decide +kernel
theorem dX7_whoHas_23 : decode cX7_whoHas 23 = .ok (.goto 4, 3) := by decide +kernel
theorem dX7_whoHas_26 : decode cX7_whoHas 26 = .ok (.iload_n 2, 1) := by decide +kernel
theorem dX7_whoHas_27 : decode cX7_whoHas 27 = .ok (.istore_n 2, 1) := by decide +kernel
theorem dX7_whoHas_28 : decode cX7_whoHas 28 = .ok (.iinc 3 1, 3) := by decide +kernel
theorem dX7_whoHas_31 : decode cX7_whoHas 31 = .ok (.goto (-27), 3) := by decide +kernel
theorem dX7_whoHas_34 : decode cX7_whoHas 34 = .ok (.iload_n 2, 1) := by decide +kernel
theorem dX7_whoHas_35 : decode cX7_whoHas 35 = .ok (.ireturn, 1) := by decide +kernel
set_option maxRecDepth 20000 in
theorem ggX7_has_X7_isThing : GoodIn wsX7_has wsX7_isThing := goodIn_r _ [5, 6, 7, 8, 4, 9, 15, 16, 17, 18, 19, 20, 21, 22, 23, 24, 25, 26, 27, 28, 29, 30, 31, 32, 33, 34, 35, 36, 37, 38, 39, 40, 41, 42, 43, 44, 45, 46, 47, 48, 49] (by decide +kernel) (by decide +kernel)
set_option maxRecDepth 20000 in
theorem gX7_has_X7_isThing : GoodIn wsX7_has (wsV RX7 132 RX7 yX7_isThing wsX7_isThing) := goodIn_app (goodIn_of _ (by decide +kernel)) ggX7_has_X7_isThing
set_option maxRecDepth 20000 in
theorem ggX7_has_X7_whoHas : GoodIn wsX7_has wsX7_whoHas := goodIn_r _ [13, 6, 14, 15, 16, 17, 18, 19, 20, 21, 22, 23, 24, 25, 26, 27, 28, 29, 30, 31, 32, 33, 34, 35, 36, 37, 38, 39, 40, 41, 42, 43, 44, 45, 46, 47, 48, 49] (by decide +kernel) (by decide +kernel)
set_option maxRecDepth 20000 in
theorem gX7_has_X7_whoHas : GoodIn wsX7_has (wsV RX7 135 RX7 yX7_whoHas wsX7_whoHas) := goodIn_app (goodIn_of _ (by decide +kernel)) ggX7_has_X7_whoHas
theorem dX7_has_0 : decode cX7_has 0 = .ok (.aload_n 0, 1) := by decide +kernel
theorem dX7_has_1 : decode cX7_has 1 = .ok (.iload_n 1, 1) := by decide +kernel
theorem dX7_has_2 : decode cX7_has 2 = .ok (.invokevirtual 132, 3) := by decide +kernel
theorem dX7_has_5 : decode cX7_has 5 = .ok (.ifCond .eq 11, 3) := by decide +kernel
theorem dX7_has_8 : decode cX7_has 8 = .ok (.aload_n 0, 1) := by decide +kernel
theorem dX7_has_9 : decode cX7_has 9 = .ok (.iload_n 1, 1) := by decide +kernel
theorem dX7_has_10 : decode cX7_has 10 = .ok (.invokevirtual 135, 3) := by decide +kernel
theorem dX7_has_13 : decode cX7_has 13 = .ok (.goto 5, 3) := by decide +kernel
theorem dX7_has_16 : decode cX7_has 16 = .ok (.bipush (-101), 2) := by decide +kernel
theorem dX7_has_18 : decode cX7_has 18 = .ok (.ireturn, 1) := by decide +kernel
set_option maxRecDepth 20000 in
theorem ggX7_worth_X7_isHeir : GoodIn wsX7_worth wsX7_isHeir := goodIn_r _ [6, 7, 8, 9, 5, 10, 15, 16, 17, 18, 19, 20, 21, 22, 23, 24, 25, 26, 27, 28, 29, 30, 31, 32, 33, 34, 35, 36, 37, 38, 39, 40, 41, 42, 43, 44, 45, 46, 47, 48, 49] (by decide +kernel) (by decide +kernel)
set_option maxRecDepth 20000 in
theorem gX7_worth_X7_isHeir : GoodIn wsX7_worth (wsV RX7 126 RX7 yX7_isHeir wsX7_isHeir) := goodIn_app (goodIn_of _ (by decide +kernel)) ggX7_worth_X7_isHeir
set_option maxRecDepth 20000 in
theorem ggX7_worth_X7_isThing : GoodIn wsX7_worth wsX7_isThing := goodIn_r _ [14, 7, 8, 9, 5, 10, 15, 16, 17, 18, 19, 20, 21, 22, 23, 24, 25, 26, 27, 28, 29, 30, 31, 32, 33, 34, 35, 36, 37, 38, 39, 40, 41, 42, 43, 44, 45, 46, 47, 48, 49] (by decide +kernel) (by decide +kernel)
set_option maxRecDepth 20000 in
theorem gX7_worth_X7_isThing : GoodIn wsX7_worth (wsV RX7 132 RX7 yX7_isThing wsX7_isThing) := goodIn_app (goodIn_of _ (by decide +kernel)) ggX7_worth_X7_isThing
set_option maxRecDepth 20000 in
theorem ggX7_worth_X7_within : GoodIn wsX7_worth wsX7_within := goodIn_r _ [10] (by decide +kernel) (by decide +kernel)
set_option maxRecDepth 20000 in
theorem gX7_worth_X7_within : GoodIn wsX7_worth (va_wsS RX7 71 yX7_within wsX7_within) := goodIn_app (goodIn_of _ (by decide +kernel)) ggX7_worth_X7_within
theorem dX7_worth_0 : decode cX7_worth 0 = .ok (.aload_n 0, 1) := by decide +kernel
theorem dX7_worth_1 : decode cX7_worth 1 = .ok (.iload_n 1, 1) := by decide +kernel
theorem dX7_worth_2 : decode cX7_worth 2 = .ok (.invokevirtual 126, 3) := by decide +kernel
theorem dX7_worth_5 : decode cX7_worth 5 = .ok (.ifCond .eq 11, 3) := by decide +kernel
theorem dX7_worth_8 : decode cX7_worth 8 = .ok (.aload_n 0, 1) := by decide +kernel
theorem dX7_worth_9 : decode cX7_worth 9 = .ok (.iload_n 2, 1) := by decide +kernel
theorem dX7_worth_10 : decode cX7_worth 10 = .ok (.invokevirtual 132, 3) := by decide +kernel
theorem dX7_worth_13 : decode cX7_worth 13 = .ok (.ifCond .ne 6, 3) := by decide +kernel
theorem dX7_worth_16 : decode cX7_worth 16 = .ok (.bipush (-101), 2) := by decide +kernel
theorem dX7_worth_18 : decode cX7_worth 18 = .ok (.ireturn, 1) := by decide +kernel
theorem dX7_worth_19 : decode cX7_worth 19 = .ok (.iload_n 3, 1) := by decide +kernel
theorem dX7_worth_20 : decode cX7_worth 20 = .ok (.iconst 0, 1) := by decide +kernel
theorem dX7_worth_21 : decode cX7_worth 21 = .ok (.bipush 9, 2) := by decide +kernel
theorem dX7_worth_23 : decode cX7_worth 23 = .ok (.invokestatic 71, 3) := by decide +kernel
theorem dX7_worth_26 : decode cX7_worth 26 = .ok (.ifCond .ne 6, 3) := by decide +kernel
theorem dX7_worth_29 : decode cX7_worth 29 = .ok (.bipush (-102), 2) := by decide +kernel
theorem dX7_worth_31 : decode cX7_worth 31 = .ok (.ireturn, 1) := by decide +kernel
theorem dX7_worth_32 : decode cX7_worth 32 = .ok (.aload_n 0, 1) := by decide +kernel
theorem dX7_worth_33 : decode cX7_worth 33 = .ok (.getfield 13, 3) := by decide +kernel
theorem dX7_worth_36 : decode cX7_worth 36 = .ok (.iconst 4, 1) := by decide +kernel
theorem dX7_worth_37 : decode cX7_worth 37 = .ok (.iload_n 1, 1) := by decide +kernel
theorem dX7_worth_38 : decode cX7_worth 38 = .ok (.imul, 1) := by decide +kernel
theorem dX7_worth_39 : decode cX7_worth 39 = .ok (.iload_n 2, 1) := by decide +kernel
theorem dX7_worth_40 : decode cX7_worth 40 = .ok (.iadd, 1) := by decide +kernel
theorem dX7_worth_41 : decode cX7_worth 41 = .ok (.iaload, 1) := by decide +kernel
theorem dX7_worth_42 : decode cX7_worth 42 = .ok (.istore 4, 2) := by decide +kernel
theorem dX7_worth_44 : decode cX7_worth 44 = .ok (.aload_n 0, 1) := by decide +kernel
theorem dX7_worth_45 : decode cX7_worth 45 = .ok (.getfield 13, 3) := by decide +kernel
theorem dX7_worth_48 : decode cX7_worth 48 = .ok (.iconst 4, 1) := by decide +kernel
theorem dX7_worth_49 : decode cX7_worth 49 = .ok (.iload_n 1, 1) := by decide +kernel
theorem dX7_worth_50 : decode cX7_worth 50 = .ok (.imul, 1) := by decide +kernel
theorem dX7_worth_51 : decode cX7_worth 51 = .ok (.iload_n 2, 1) := by decide +kernel
theorem dX7_worth_52 : decode cX7_worth 52 = .ok (.iadd, 1) := by decide +kernel
theorem dX7_worth_53 : decode cX7_worth 53 = .ok (.iload_n 3, 1) := by decide +kernel
theorem dX7_worth_54 : decode cX7_worth 54 = .ok (.iastore, 1) := by decide +kernel
theorem dX7_worth_55 : decode cX7_worth 55 = .ok (.iload 4, 2) := by decide +kernel
theorem dX7_worth_57 : decode cX7_worth 57 = .ok (.ireturn, 1) := by decide +kernel
set_option maxRecDepth 20000 in
theorem ggX7_deal_X7_dealNow : GoodIn wsX7_deal wsX7_dealNow := goodIn_r _ [6, 1, 7, 8, 9, 10, 11, 5, 12, 13, 14, 15, 16, 17, 18, 19, 20, 21, 22, 23, 24, 25, 26, 27, 28, 29, 30, 31, 32, 33, 34, 35, 36, 37, 38, 39, 40, 41, 42, 43, 44, 45, 46, 47, 48, 49, 50, 51, 52, 53, 54, 55, 56, 57, 58, 59, 60, 61] (by decide +kernel) (by decide +kernel)
set_option maxRecDepth 20000 in
theorem gX7_deal_X7_dealNow : GoodIn wsX7_deal (wsV RX7 103 RX7 yX7_dealNow wsX7_dealNow) := goodIn_app (goodIn_of _ (by decide +kernel)) ggX7_deal_X7_dealNow
theorem dX7_deal_0 : decode cX7_deal 0 = .ok (.aload_n 0, 1) := by decide +kernel
theorem dX7_deal_1 : decode cX7_deal 1 = .ok (.getfield 91, 3) := by decide +kernel
theorem dX7_deal_4 : decode cX7_deal 4 = .ok (.ifCond .ne 8, 3) := by decide +kernel
theorem dX7_deal_7 : decode cX7_deal 7 = .ok (.bipush (-103), 2) := by decide +kernel
theorem dX7_deal_9 : decode cX7_deal 9 = .ok (.goto 7, 3) := by decide +kernel
theorem dX7_deal_12 : decode cX7_deal 12 = .ok (.aload_n 0, 1) := by decide +kernel
theorem dX7_deal_13 : decode cX7_deal 13 = .ok (.invokevirtual 103, 3) := by decide +kernel
theorem dX7_deal_16 : decode cX7_deal 16 = .ok (.ireturn, 1) := by decide +kernel
set_option maxRecDepth 20000 in
theorem ggX7_areTwo_X7_isHeir : GoodIn wsX7_areTwo wsX7_isHeir := goodIn_r _ [5, 6, 7, 8, 4, 9, 10, 11, 12, 13, 14, 15, 16, 17, 18, 19, 20, 21, 22, 23, 24, 25, 26, 27, 28, 29, 30, 31, 32, 33, 34, 35, 36, 37, 38, 39, 40, 41, 42, 43, 44] (by decide +kernel) (by decide +kernel)
set_option maxRecDepth 20000 in
theorem gX7_areTwo_X7_isHeir : GoodIn wsX7_areTwo (wsV RX7 126 RX7 yX7_isHeir wsX7_isHeir) := goodIn_app (goodIn_of _ (by decide +kernel)) ggX7_areTwo_X7_isHeir
theorem dX7_areTwo_0 : decode cX7_areTwo 0 = .ok (.aload_n 0, 1) := by decide +kernel
theorem dX7_areTwo_1 : decode cX7_areTwo 1 = .ok (.iload_n 1, 1) := by decide +kernel
theorem dX7_areTwo_2 : decode cX7_areTwo 2 = .ok (.invokevirtual 126, 3) := by decide +kernel
theorem dX7_areTwo_5 : decode cX7_areTwo 5 = .ok (.ifCond .eq 20, 3) := by decide +kernel
theorem dX7_areTwo_8 : decode cX7_areTwo 8 = .ok (.aload_n 0, 1) := by decide +kernel
theorem dX7_areTwo_9 : decode cX7_areTwo 9 = .ok (.iload_n 2, 1) := by decide +kernel
theorem dX7_areTwo_10 : decode cX7_areTwo 10 = .ok (.invokevirtual 126, 3) := by decide +kernel
theorem dX7_areTwo_13 : decode cX7_areTwo 13 = .ok (.ifCond .eq 12, 3) := by decide +kernel
theorem dX7_areTwo_16 : decode cX7_areTwo 16 = .ok (.iload_n 1, 1) := by decide +kernel
theorem dX7_areTwo_17 : decode cX7_areTwo 17 = .ok (.iload_n 2, 1) := by decide +kernel
theorem dX7_areTwo_18 : decode cX7_areTwo 18 = .ok (.if_icmp .eq 7, 3) := by decide +kernel
theorem dX7_areTwo_21 : decode cX7_areTwo 21 = .ok (.iconst 1, 1) := by decide +kernel
theorem dX7_areTwo_22 : decode cX7_areTwo 22 = .ok (.goto 4, 3) := by decide +kernel
theorem dX7_areTwo_25 : decode cX7_areTwo 25 = .ok (.iconst 0, 1) := by decide +kernel
theorem dX7_areTwo_26 : decode cX7_areTwo 26 = .ok (.ireturn, 1) := by decide +kernel
theorem dX7_isAllowed_0 : decode cX7_isAllowed 0 = .ok (.aload_n 0, 1) := by decide +kernel
theorem dX7_isAllowed_1 : decode cX7_isAllowed 1 = .ok (.getfield 38, 3) := by decide +kernel
theorem dX7_isAllowed_4 : decode cX7_isAllowed 4 = .ok (.iconst 4, 1) := by decide +kernel
theorem dX7_isAllowed_5 : decode cX7_isAllowed 5 = .ok (.iload_n 1, 1) := by decide +kernel
theorem dX7_isAllowed_6 : decode cX7_isAllowed 6 = .ok (.imul, 1) := by decide +kernel
theorem dX7_isAllowed_7 : decode cX7_isAllowed 7 = .ok (.iload 4, 2) := by decide +kernel
theorem dX7_isAllowed_9 : decode cX7_isAllowed 9 = .ok (.iadd, 1) := by decide +kernel
theorem dX7_isAllowed_10 : decode cX7_isAllowed 10 = .ok (.iaload, 1) := by decide +kernel
theorem dX7_isAllowed_11 : decode cX7_isAllowed 11 = .ok (.aload_n 0, 1) := by decide +kernel
theorem dX7_isAllowed_12 : decode cX7_isAllowed 12 = .ok (.getfield 38, 3) := by decide +kernel
theorem dX7_isAllowed_15 : decode cX7_isAllowed 15 = .ok (.iconst 4, 1) := by decide +kernel
theorem dX7_isAllowed_16 : decode cX7_isAllowed 16 = .ok (.iload_n 3, 1) := by decide +kernel
theorem dX7_isAllowed_17 : decode cX7_isAllowed 17 = .ok (.imul, 1) := by decide +kernel
theorem dX7_isAllowed_18 : decode cX7_isAllowed 18 = .ok (.iload 4, 2) := by decide +kernel
theorem dX7_isAllowed_20 : decode cX7_isAllowed 20 = .ok (.iadd, 1) := by decide +kernel
theorem dX7_isAllowed_21 : decode cX7_isAllowed 21 = .ok (.iaload, 1) := by decide +kernel
theorem dX7_isAllowed_22 : decode cX7_isAllowed 22 = .ok (.if_icmp .ge 30, 3) := by decide +kernel
theorem dX7_isAllowed_25 : decode cX7_isAllowed 25 = .ok (.aload_n 0, 1) := by decide +kernel
theorem dX7_isAllowed_26 : decode cX7_isAllowed 26 = .ok (.getfield 38, 3) := by decide +kernel
theorem dX7_isAllowed_29 : decode cX7_isAllowed 29 = .ok (.iconst 4, 1) := by decide +kernel
theorem dX7_isAllowed_30 : decode cX7_isAllowed 30 = .ok (.iload_n 3, 1) := by decide +kernel
theorem dX7_isAllowed_31 : decode cX7_isAllowed 31 = .ok (.imul, 1) := by decide +kernel
theorem dX7_isAllowed_32 : decode cX7_isAllowed 32 = .ok (.iload_n 2, 1) := by decide +kernel
theorem dX7_isAllowed_33 : decode cX7_isAllowed 33 = .ok (.iadd, 1) := by decide +kernel
theorem dX7_isAllowed_34 : decode cX7_isAllowed 34 = .ok (.iaload, 1) := by decide +kernel
theorem dX7_isAllowed_35 : decode cX7_isAllowed 35 = .ok (.aload_n 0, 1) := by decide +kernel
theorem dX7_isAllowed_36 : decode cX7_isAllowed 36 = .ok (.getfield 38, 3) := by decide +kernel
theorem dX7_isAllowed_39 : decode cX7_isAllowed 39 = .ok (.iconst 4, 1) := by decide +kernel
theorem dX7_isAllowed_40 : decode cX7_isAllowed 40 = .ok (.iload_n 1, 1) := by decide +kernel
theorem dX7_isAllowed_41 : decode cX7_isAllowed 41 = .ok (.imul, 1) := by decide +kernel
theorem dX7_isAllowed_42 : decode cX7_isAllowed 42 = .ok (.iload_n 2, 1) := by decide +kernel
theorem dX7_isAllowed_43 : decode cX7_isAllowed 43 = .ok (.iadd, 1) := by decide +kernel
theorem dX7_isAllowed_44 : decode cX7_isAllowed 44 = .ok (.iaload, 1) := by decide +kernel
theorem dX7_isAllowed_45 : decode cX7_isAllowed 45 = .ok (.if_icmp .ge 7, 3) := by decide +kernel
theorem dX7_isAllowed_48 : decode cX7_isAllowed 48 = .ok (.iconst 1, 1) := by decide +kernel
theorem dX7_isAllowed_49 : decode cX7_isAllowed 49 = .ok (.goto 4, 3) := by decide +kernel
theorem dX7_isAllowed_52 : decode cX7_isAllowed 52 = .ok (.iconst 0, 1) := by decide +kernel
theorem dX7_isAllowed_53 : decode cX7_isAllowed 53 = .ok (.ireturn, 1) := by decide +kernel
theorem dX7_isWished_0 : decode cX7_isWished 0 = .ok (.aload_n 0, 1) := by decide +kernel
theorem dX7_isWished_1 : decode cX7_isWished 1 = .ok (.getfield 13, 3) := by decide +kernel
theorem dX7_isWished_4 : decode cX7_isWished 4 = .ok (.iconst 4, 1) := by decide +kernel
theorem dX7_isWished_5 : decode cX7_isWished 5 = .ok (.iload_n 1, 1) := by decide +kernel
theorem dX7_isWished_6 : decode cX7_isWished 6 = .ok (.imul, 1) := by decide +kernel
theorem dX7_isWished_7 : decode cX7_isWished 7 = .ok (.iload 4, 2) := by decide +kernel
theorem dX7_isWished_9 : decode cX7_isWished 9 = .ok (.iadd, 1) := by decide +kernel
theorem dX7_isWished_10 : decode cX7_isWished 10 = .ok (.iaload, 1) := by decide +kernel
theorem dX7_isWished_11 : decode cX7_isWished 11 = .ok (.aload_n 0, 1) := by decide +kernel
theorem dX7_isWished_12 : decode cX7_isWished 12 = .ok (.getfield 13, 3) := by decide +kernel
theorem dX7_isWished_15 : decode cX7_isWished 15 = .ok (.iconst 4, 1) := by decide +kernel
theorem dX7_isWished_16 : decode cX7_isWished 16 = .ok (.iload_n 1, 1) := by decide +kernel
theorem dX7_isWished_17 : decode cX7_isWished 17 = .ok (.imul, 1) := by decide +kernel
theorem dX7_isWished_18 : decode cX7_isWished 18 = .ok (.iload_n 2, 1) := by decide +kernel
theorem dX7_isWished_19 : decode cX7_isWished 19 = .ok (.iadd, 1) := by decide +kernel
theorem dX7_isWished_20 : decode cX7_isWished 20 = .ok (.iaload, 1) := by decide +kernel
theorem dX7_isWished_21 : decode cX7_isWished 21 = .ok (.if_icmp .le 31, 3) := by decide +kernel
theorem dX7_isWished_24 : decode cX7_isWished 24 = .ok (.aload_n 0, 1) := by decide +kernel
theorem dX7_isWished_25 : decode cX7_isWished 25 = .ok (.getfield 13, 3) := by decide +kernel
theorem dX7_isWished_28 : decode cX7_isWished 28 = .ok (.iconst 4, 1) := by decide +kernel
theorem dX7_isWished_29 : decode cX7_isWished 29 = .ok (.iload_n 3, 1) := by decide +kernel
theorem dX7_isWished_30 : decode cX7_isWished 30 = .ok (.imul, 1) := by decide +kernel
theorem dX7_isWished_31 : decode cX7_isWished 31 = .ok (.iload_n 2, 1) := by decide +kernel
theorem dX7_isWished_32 : decode cX7_isWished 32 = .ok (.iadd, 1) := by decide +kernel
theorem dX7_isWished_33 : decode cX7_isWished 33 = .ok (.iaload, 1) := by decide +kernel
theorem dX7_isWished_34 : decode cX7_isWished 34 = .ok (.aload_n 0, 1) := by decide +kernel
theorem dX7_isWished_35 : decode cX7_isWished 35 = .ok (.getfield 13, 3) := by decide +kernel
theorem dX7_isWished_38 : decode cX7_isWished 38 = .ok (.iconst 4, 1) := by decide +kernel
theorem dX7_isWished_39 : decode cX7_isWished 39 = .ok (.iload_n 3, 1) := by decide +kernel
theorem dX7_isWished_40 : decode cX7_isWished 40 = .ok (.imul, 1) := by decide +kernel
theorem dX7_isWished_41 : decode cX7_isWished 41 = .ok (.iload 4, 2) := by decide +kernel
theorem dX7_isWished_43 : decode cX7_isWished 43 = .ok (.iadd, 1) := by decide +kernel
theorem dX7_isWished_44 : decode cX7_isWished 44 = .ok (.iaload, 1) := by decide +kernel
theorem dX7_isWished_45 : decode cX7_isWished 45 = .ok (.if_icmp .le 7, 3) := by decide +kernel
theorem dX7_isWished_48 : decode cX7_isWished 48 = .ok (.iconst 1, 1) := by decide +kernel
theorem dX7_isWished_49 : decode cX7_isWished 49 = .ok (.goto 4, 3) := by decide +kernel
theorem dX7_isWished_52 : decode cX7_isWished 52 = .ok (.iconst 0, 1) := by decide +kernel
theorem dX7_isWished_53 : decode cX7_isWished 53 = .ok (.ireturn, 1) := by decide +kernel
set_option maxRecDepth 20000 in
theorem ggX7_mayNow_X7_laySays : GoodIn wsX7_mayNow wsX7_laySays := goodIn_r _ [6, 7, 8, 9, 10, 11, 5, 12, 13, 14, 23, 24, 25, 26, 27, 28, 29, 30, 31, 32, 33, 34, 35, 36, 37, 38, 39, 40, 41, 42, 43, 44, 45, 46, 47, 48, 49, 50, 51, 52, 53, 54, 55, 56, 57] (by decide +kernel) (by decide +kernel)
set_option maxRecDepth 20000 in
theorem gX7_mayNow_X7_laySays : GoodIn wsX7_mayNow (wsV RX7 110 RX7 yX7_laySays wsX7_laySays) := goodIn_app (goodIn_of _ (by decide +kernel)) ggX7_mayNow_X7_laySays
set_option maxRecDepth 20000 in
theorem ggX7_mayNow_X7_isAllowed : GoodIn wsX7_mayNow wsX7_isAllowed := goodIn_r _ [18, 8, 23, 24, 25, 26, 27, 28, 29, 30, 31, 32, 33, 34, 35, 36, 37, 38, 39, 40, 41, 42, 43, 44, 45, 46, 47, 48, 49, 50, 51, 52, 53, 54, 55, 56, 57] (by decide +kernel) (by decide +kernel)
set_option maxRecDepth 20000 in
theorem gX7_mayNow_X7_isAllowed : GoodIn wsX7_mayNow (wsV RX7 138 RX7 yX7_isAllowed wsX7_isAllowed) := goodIn_app (goodIn_of _ (by decide +kernel)) ggX7_mayNow_X7_isAllowed
set_option maxRecDepth 20000 in
theorem ggX7_mayNow_X7_isWished : GoodIn wsX7_mayNow wsX7_isWished := goodIn_r _ [22, 13, 23, 24, 25, 26, 27, 28, 29, 30, 31, 32, 33, 34, 35, 36, 37, 38, 39, 40, 41, 42, 43, 44, 45, 46, 47, 48, 49, 50, 51, 52, 53, 54, 55, 56, 57] (by decide +kernel) (by decide +kernel)
set_option maxRecDepth 20000 in
theorem gX7_mayNow_X7_isWished : GoodIn wsX7_mayNow (wsV RX7 142 RX7 yX7_isWished wsX7_isWished) := goodIn_app (goodIn_of _ (by decide +kernel)) ggX7_mayNow_X7_isWished
theorem dX7_mayNow_0 : decode cX7_mayNow 0 = .ok (.aload_n 0, 1) := by decide +kernel
theorem dX7_mayNow_1 : decode cX7_mayNow 1 = .ok (.invokevirtual 110, 3) := by decide +kernel
theorem dX7_mayNow_4 : decode cX7_mayNow 4 = .ok (.aload_n 0, 1) := by decide +kernel
theorem dX7_mayNow_5 : decode cX7_mayNow 5 = .ok (.iload_n 1, 1) := by decide +kernel
theorem dX7_mayNow_6 : decode cX7_mayNow 6 = .ok (.aload_n 0, 1) := by decide +kernel
theorem dX7_mayNow_7 : decode cX7_mayNow 7 = .ok (.getfield 16, 3) := by decide +kernel
theorem dX7_mayNow_10 : decode cX7_mayNow 10 = .ok (.iload_n 1, 1) := by decide +kernel
theorem dX7_mayNow_11 : decode cX7_mayNow 11 = .ok (.iaload, 1) := by decide +kernel
theorem dX7_mayNow_12 : decode cX7_mayNow 12 = .ok (.iload_n 2, 1) := by decide +kernel
theorem dX7_mayNow_13 : decode cX7_mayNow 13 = .ok (.aload_n 0, 1) := by decide +kernel
theorem dX7_mayNow_14 : decode cX7_mayNow 14 = .ok (.getfield 16, 3) := by decide +kernel
theorem dX7_mayNow_17 : decode cX7_mayNow 17 = .ok (.iload_n 2, 1) := by decide +kernel
theorem dX7_mayNow_18 : decode cX7_mayNow 18 = .ok (.iaload, 1) := by decide +kernel
theorem dX7_mayNow_19 : decode cX7_mayNow 19 = .ok (.invokevirtual 138, 3) := by decide +kernel
theorem dX7_mayNow_22 : decode cX7_mayNow 22 = .ok (.ifCond .eq 7, 3) := by decide +kernel
theorem dX7_mayNow_25 : decode cX7_mayNow 25 = .ok (.iconst 2, 1) := by decide +kernel
theorem dX7_mayNow_26 : decode cX7_mayNow 26 = .ok (.goto 4, 3) := by decide +kernel
theorem dX7_mayNow_29 : decode cX7_mayNow 29 = .ok (.iconst 0, 1) := by decide +kernel
theorem dX7_mayNow_30 : decode cX7_mayNow 30 = .ok (.istore_n 3, 1) := by decide +kernel
theorem dX7_mayNow_31 : decode cX7_mayNow 31 = .ok (.iload_n 3, 1) := by decide +kernel
theorem dX7_mayNow_32 : decode cX7_mayNow 32 = .ok (.aload_n 0, 1) := by decide +kernel
theorem dX7_mayNow_33 : decode cX7_mayNow 33 = .ok (.iload_n 1, 1) := by decide +kernel
theorem dX7_mayNow_34 : decode cX7_mayNow 34 = .ok (.aload_n 0, 1) := by decide +kernel
theorem dX7_mayNow_35 : decode cX7_mayNow 35 = .ok (.getfield 16, 3) := by decide +kernel
theorem dX7_mayNow_38 : decode cX7_mayNow 38 = .ok (.iload_n 1, 1) := by decide +kernel
theorem dX7_mayNow_39 : decode cX7_mayNow 39 = .ok (.iaload, 1) := by decide +kernel
theorem dX7_mayNow_40 : decode cX7_mayNow 40 = .ok (.iload_n 2, 1) := by decide +kernel
theorem dX7_mayNow_41 : decode cX7_mayNow 41 = .ok (.aload_n 0, 1) := by decide +kernel
theorem dX7_mayNow_42 : decode cX7_mayNow 42 = .ok (.getfield 16, 3) := by decide +kernel
theorem dX7_mayNow_45 : decode cX7_mayNow 45 = .ok (.iload_n 2, 1) := by decide +kernel
theorem dX7_mayNow_46 : decode cX7_mayNow 46 = .ok (.iaload, 1) := by decide +kernel
theorem dX7_mayNow_47 : decode cX7_mayNow 47 = .ok (.invokevirtual 142, 3) := by decide +kernel
theorem dX7_mayNow_50 : decode cX7_mayNow 50 = .ok (.ifCond .eq 7, 3) := by decide +kernel
theorem dX7_mayNow_53 : decode cX7_mayNow 53 = .ok (.iconst 1, 1) := by decide +kernel
theorem dX7_mayNow_54 : decode cX7_mayNow 54 = .ok (.goto 4, 3) := by decide +kernel
theorem dX7_mayNow_57 : decode cX7_mayNow 57 = .ok (.iconst 0, 1) := by decide +kernel
theorem dX7_mayNow_58 : decode cX7_mayNow 58 = .ok (.iadd, 1) := by decide +kernel
theorem dX7_mayNow_59 : decode cX7_mayNow 59 = .ok (.ireturn, 1) := by decide +kernel
set_option maxRecDepth 20000 in
theorem ggX7_may_X7_areTwo : GoodIn wsX7_may wsX7_areTwo := goodIn_r _ [5, 6, 7, 8, 4, 9, 10, 11, 12, 13, 38, 39, 40, 41, 42, 43, 44, 45, 46, 47, 48, 49, 50, 51, 52, 53, 54, 55, 56, 57, 58, 59, 60, 61, 62, 63, 64, 65, 66, 67, 68, 69, 70, 71, 72] (by decide +kernel) (by decide +kernel)
set_option maxRecDepth 20000 in
theorem gX7_may_X7_areTwo : GoodIn wsX7_may (wsV RX7 145 RX7 yX7_areTwo wsX7_areTwo) := goodIn_app (goodIn_of _ (by decide +kernel)) ggX7_may_X7_areTwo
set_option maxRecDepth 20000 in
theorem ggX7_may_X7_mayNow : GoodIn wsX7_may wsX7_mayNow := goodIn_r _ [17, 18, 19, 20, 21, 4, 22, 10, 23, 24, 25, 26, 27, 28, 29, 30, 31, 32, 33, 34, 35, 36, 37, 38, 39, 40, 41, 42, 43, 44, 45, 46, 47, 48, 49, 50, 51, 52, 53, 54, 55, 56, 57, 58, 59, 60, 61, 62, 63, 64, 65, 66, 67, 68, 69, 70, 71, 72] (by decide +kernel) (by decide +kernel)
set_option maxRecDepth 20000 in
theorem gX7_may_X7_mayNow : GoodIn wsX7_may (wsV RX7 148 RX7 yX7_mayNow wsX7_mayNow) := goodIn_app (goodIn_of _ (by decide +kernel)) ggX7_may_X7_mayNow
theorem dX7_may_0 : decode cX7_may 0 = .ok (.aload_n 0, 1) := by decide +kernel
theorem dX7_may_1 : decode cX7_may 1 = .ok (.iload_n 1, 1) := by decide +kernel
theorem dX7_may_2 : decode cX7_may 2 = .ok (.iload_n 2, 1) := by decide +kernel
theorem dX7_may_3 : decode cX7_may 3 = .ok (.invokevirtual 145, 3) := by decide +kernel
theorem dX7_may_6 : decode cX7_may 6 = .ok (.ifCond .eq 12, 3) := by decide +kernel
theorem dX7_may_9 : decode cX7_may 9 = .ok (.aload_n 0, 1) := by decide +kernel
theorem dX7_may_10 : decode cX7_may 10 = .ok (.iload_n 1, 1) := by decide +kernel
theorem dX7_may_11 : decode cX7_may 11 = .ok (.iload_n 2, 1) := by decide +kernel
theorem dX7_may_12 : decode cX7_may 12 = .ok (.invokevirtual 148, 3) := by decide +kernel
theorem dX7_may_15 : decode cX7_may 15 = .ok (.goto 5, 3) := by decide +kernel
theorem dX7_may_18 : decode cX7_may 18 = .ok (.bipush (-101), 2) := by decide +kernel
theorem dX7_may_20 : decode cX7_may 20 = .ok (.ireturn, 1) := by decide +kernel
set_option maxRecDepth 20000 in
theorem ggX7_change_X7_areTwo : GoodIn wsX7_change wsX7_areTwo := goodIn_r _ [8, 9, 10, 11, 7, 12, 13, 14, 15, 16, 40, 41, 42, 43, 44, 45, 46, 47, 48, 49, 50, 51, 52, 53, 54, 55, 56, 57, 58, 59, 60, 61, 62, 63, 64, 65, 66, 67, 68, 69, 70, 71, 72, 73, 74] (by decide +kernel) (by decide +kernel)
set_option maxRecDepth 20000 in
theorem gX7_change_X7_areTwo : GoodIn wsX7_change (wsV RX7 145 RX7 yX7_areTwo wsX7_areTwo) := goodIn_app (goodIn_of _ (by decide +kernel)) ggX7_change_X7_areTwo
set_option maxRecDepth 20000 in
theorem ggX7_change_X7_mayNow : GoodIn wsX7_change wsX7_mayNow := goodIn_r _ [20, 1, 21, 22, 23, 7, 24, 13, 25, 26, 27, 28, 29, 30, 31, 32, 33, 34, 35, 36, 37, 38, 39, 40, 41, 42, 43, 44, 45, 46, 47, 48, 49, 50, 51, 52, 53, 54, 55, 56, 57, 58, 59, 60, 61, 62, 63, 64, 65, 66, 67, 68, 69, 70, 71, 72, 73, 74] (by decide +kernel) (by decide +kernel)
set_option maxRecDepth 20000 in
theorem gX7_change_X7_mayNow : GoodIn wsX7_change (wsV RX7 148 RX7 yX7_mayNow wsX7_mayNow) := goodIn_app (goodIn_of _ (by decide +kernel)) ggX7_change_X7_mayNow
theorem dX7_change_0 : decode cX7_change 0 = .ok (.aload_n 0, 1) := by decide +kernel
theorem dX7_change_1 : decode cX7_change 1 = .ok (.iload_n 1, 1) := by decide +kernel
theorem dX7_change_2 : decode cX7_change 2 = .ok (.iload_n 2, 1) := by decide +kernel
theorem dX7_change_3 : decode cX7_change 3 = .ok (.invokevirtual 145, 3) := by decide +kernel
theorem dX7_change_6 : decode cX7_change 6 = .ok (.ifCond .ne 6, 3) := by decide +kernel
theorem dX7_change_9 : decode cX7_change 9 = .ok (.bipush (-101), 2) := by decide +kernel
theorem dX7_change_11 : decode cX7_change 11 = .ok (.ireturn, 1) := by decide +kernel
theorem dX7_change_12 : decode cX7_change 12 = .ok (.aload_n 0, 1) := by decide +kernel
theorem dX7_change_13 : decode cX7_change 13 = .ok (.iload_n 1, 1) := by decide +kernel
theorem dX7_change_14 : decode cX7_change 14 = .ok (.iload_n 2, 1) := by decide +kernel
theorem dX7_change_15 : decode cX7_change 15 = .ok (.invokevirtual 148, 3) := by decide +kernel
theorem dX7_change_18 : decode cX7_change 18 = .ok (.iconst 2, 1) := by decide +kernel
theorem dX7_change_19 : decode cX7_change 19 = .ok (.if_icmp .ge 6, 3) := by decide +kernel
theorem dX7_change_22 : decode cX7_change 22 = .ok (.bipush (-103), 2) := by decide +kernel
theorem dX7_change_24 : decode cX7_change 24 = .ok (.ireturn, 1) := by decide +kernel
theorem dX7_change_25 : decode cX7_change 25 = .ok (.aload_n 0, 1) := by decide +kernel
theorem dX7_change_26 : decode cX7_change 26 = .ok (.getfield 16, 3) := by decide +kernel
theorem dX7_change_29 : decode cX7_change 29 = .ok (.iload_n 1, 1) := by decide +kernel
theorem dX7_change_30 : decode cX7_change 30 = .ok (.iaload, 1) := by decide +kernel
theorem dX7_change_31 : decode cX7_change 31 = .ok (.istore_n 3, 1) := by decide +kernel
theorem dX7_change_32 : decode cX7_change 32 = .ok (.aload_n 0, 1) := by decide +kernel
theorem dX7_change_33 : decode cX7_change 33 = .ok (.getfield 16, 3) := by decide +kernel
theorem dX7_change_36 : decode cX7_change 36 = .ok (.iload_n 1, 1) := by decide +kernel
theorem dX7_change_37 : decode cX7_change 37 = .ok (.aload_n 0, 1) := by decide +kernel
theorem dX7_change_38 : decode cX7_change 38 = .ok (.getfield 16, 3) := by decide +kernel
theorem dX7_change_41 : decode cX7_change 41 = .ok (.iload_n 2, 1) := by decide +kernel
theorem dX7_change_42 : decode cX7_change 42 = .ok (.iaload, 1) := by decide +kernel
theorem dX7_change_43 : decode cX7_change 43 = .ok (.iastore, 1) := by decide +kernel
theorem dX7_change_44 : decode cX7_change 44 = .ok (.aload_n 0, 1) := by decide +kernel
theorem dX7_change_45 : decode cX7_change 45 = .ok (.getfield 16, 3) := by decide +kernel
theorem dX7_change_48 : decode cX7_change 48 = .ok (.iload_n 2, 1) := by decide +kernel
theorem dX7_change_49 : decode cX7_change 49 = .ok (.iload_n 3, 1) := by decide +kernel
theorem dX7_change_50 : decode cX7_change 50 = .ok (.iastore, 1) := by decide +kernel
theorem dX7_change_51 : decode cX7_change 51 = .ok (.aload_n 0, 1) := by decide +kernel
theorem dX7_change_52 : decode cX7_change 52 = .ok (.getfield 19, 3) := by decide +kernel
theorem dX7_change_55 : decode cX7_change 55 = .ok (.iload_n 1, 1) := by decide +kernel
theorem dX7_change_56 : decode cX7_change 56 = .ok (.dup2, 1) := by decide +kernel
theorem dX7_change_57 : decode cX7_change 57 = .ok (.iaload, 1) := by decide +kernel
theorem dX7_change_58 : decode cX7_change 58 = .ok (.iconst 1, 1) := by decide +kernel
theorem dX7_change_59 : decode cX7_change 59 = .ok (.iadd, 1) := by decide +kernel
theorem dX7_change_60 : decode cX7_change 60 = .ok (.iastore, 1) := by decide +kernel
theorem dX7_change_61 : decode cX7_change 61 = .ok (.aload_n 0, 1) := by decide +kernel
theorem dX7_change_62 : decode cX7_change 62 = .ok (.getfield 19, 3) := by decide +kernel
theorem dX7_change_65 : decode cX7_change 65 = .ok (.iload_n 2, 1) := by decide +kernel
theorem dX7_change_66 : decode cX7_change 66 = .ok (.dup2, 1) := by decide +kernel
theorem dX7_change_67 : decode cX7_change 67 = .ok (.iaload, 1) := by decide +kernel
theorem dX7_change_68 : decode cX7_change 68 = .ok (.iconst 1, 1) := by decide +kernel
theorem dX7_change_69 : decode cX7_change 69 = .ok (.iadd, 1) := by decide +kernel
theorem dX7_change_70 : decode cX7_change 70 = .ok (.iastore, 1) := by decide +kernel
theorem dX7_change_71 : decode cX7_change 71 = .ok (.aload_n 0, 1) := by decide +kernel
theorem dX7_change_72 : decode cX7_change 72 = .ok (.dup, 1) := by decide +kernel
theorem dX7_change_73 : decode cX7_change 73 = .ok (.getfield 97, 3) := by decide +kernel
theorem dX7_change_76 : decode cX7_change 76 = .ok (.iconst 1, 1) := by decide +kernel
theorem dX7_change_77 : decode cX7_change 77 = .ok (.iadd, 1) := by decide +kernel
theorem dX7_change_78 : decode cX7_change 78 = .ok (.putfield 97, 3) := by decide +kernel
theorem dX7_change_81 : decode cX7_change 81 = .ok (.aload_n 0, 1) := by decide +kernel
theorem dX7_change_82 : decode cX7_change 82 = .ok (.getfield 97, 3) := by decide +kernel
theorem dX7_change_85 : decode cX7_change 85 = .ok (.ireturn, 1) := by decide +kernel
theorem dX7_figure_0 : decode cX7_figure 0 = .ok (.iload_n 0, 1) := by decide +kernel
theorem dX7_figure_1 : decode cX7_figure 1 = .ok (.iconst 2, 1) := by decide +kernel
theorem dX7_figure_2 : decode cX7_figure 2 = .ok (.iload_n 1, 1) := by decide +kernel
theorem dX7_figure_3 : decode cX7_figure 3 = .ok (.imul, 1) := by decide +kernel
theorem dX7_figure_4 : decode cX7_figure 4 = .ok (.ishr, 1) := by decide +kernel
theorem dX7_figure_5 : decode cX7_figure 5 = .ok (.iconst 3, 1) := by decide +kernel
theorem dX7_figure_6 : decode cX7_figure 6 = .ok (.iand, 1) := by decide +kernel
theorem dX7_figure_7 : decode cX7_figure 7 = .ok (.ireturn, 1) := by decide +kernel
theorem dX7_wayNow_0 : decode cX7_wayNow 0 = .ok (.iconst 0, 1) := by decide +kernel
theorem dX7_wayNow_1 : decode cX7_wayNow 1 = .ok (.istore_n 1, 1) := by decide +kernel
theorem dX7_wayNow_2 : decode cX7_wayNow 2 = .ok (.iconst 0, 1) := by decide +kernel
theorem dX7_wayNow_3 : decode cX7_wayNow 3 = .ok (.istore_n 2, 1) := by decide +kernel
theorem dX7_wayNow_4 : decode cX7_wayNow 4 = .ok (.iload_n 2, 1) := by decide +kernel
theorem dX7_wayNow_5 : decode cX7_wayNow 5 = .ok (.aload_n 0, 1) := by decide +kernel
theorem dX7_wayNow_6 : decode cX7_wayNow 6 = .ok (.getfield 91, 3) := by decide +kernel
theorem dX7_wayNow_9 : decode cX7_wayNow 9 = .ok (.if_icmp .ge 22, 3) := by decide +kernel
theorem dX7_wayNow_12 : decode cX7_wayNow 12 = .ok (.iload_n 1, 1) := by decide +kernel
theorem dX7_wayNow_13 : decode cX7_wayNow 13 = .ok (.aload_n 0, 1) := by decide +kernel
theorem dX7_wayNow_14 : decode cX7_wayNow 14 = .ok (.getfield 16, 3) := by decide +kernel
theorem dX7_wayNow_17 : decode cX7_wayNow 17 = .ok (.iload_n 2, 1) := by decide +kernel
theorem dX7_wayNow_18 : decode cX7_wayNow 18 = .ok (.iaload, 1) := by decide +kernel
theorem dX7_wayNow_19 : decode cX7_wayNow 19 = .ok (.iconst 2, 1) := by decide +kernel
theorem dX7_wayNow_20 : decode cX7_wayNow 20 = .ok (.iload_n 2, 1) := by decide +kernel
theorem dX7_wayNow_21 : decode cX7_wayNow 21 = .ok (.imul, 1) := by decide +kernel
theorem dX7_wayNow_22 : decode cX7_wayNow 22 = .ok (.ishl, 1) := by decide +kernel
theorem dX7_wayNow_23 : decode cX7_wayNow 23 = .ok (.ior, 1) := by decide +kernel
theorem dX7_wayNow_24 : decode cX7_wayNow 24 = .ok (.istore_n 1, 1) := by decide +kernel
theorem dX7_wayNow_25 : decode cX7_wayNow 25 = .ok (.iinc 2 1, 3) := by decide +kernel
theorem dX7_wayNow_28 : decode cX7_wayNow 28 = .ok (.goto (-24), 3) := by decide +kernel
theorem dX7_wayNow_31 : decode cX7_wayNow 31 = .ok (.iload_n 1, 1) := by decide +kernel
theorem dX7_wayNow_32 : decode cX7_wayNow 32 = .ok (.ireturn, 1) := by decide +kernel
set_option maxRecDepth 20000 in
theorem ggX7_sumBy_X7_figure : GoodIn wsX7_sumBy wsX7_figure := goodIn_r _ [6] (by decide +kernel) (by decide +kernel)
set_option maxRecDepth 20000 in
theorem gX7_sumBy_X7_figure : GoodIn wsX7_sumBy (va_wsS RX7 151 yX7_figure wsX7_figure) := goodIn_app (goodIn_of _ (by decide +kernel)) ggX7_sumBy_X7_figure
theorem dX7_sumBy_0 : decode cX7_sumBy 0 = .ok (.iconst 0, 1) := by decide +kernel
theorem dX7_sumBy_1 : decode cX7_sumBy 1 = .ok (.istore_n 2, 1) := by decide +kernel
theorem dX7_sumBy_2 : decode cX7_sumBy 2 = .ok (.iconst 0, 1) := by decide +kernel
theorem dX7_sumBy_3 : decode cX7_sumBy 3 = .ok (.istore_n 3, 1) := by decide +kernel
theorem dX7_sumBy_4 : decode cX7_sumBy 4 = .ok (.iload_n 3, 1) := by decide +kernel
theorem dX7_sumBy_5 : decode cX7_sumBy 5 = .ok (.aload_n 0, 1) := by decide +kernel
theorem dX7_sumBy_6 : decode cX7_sumBy 6 = .ok (.getfield 91, 3) := by decide +kernel
theorem dX7_sumBy_9 : decode cX7_sumBy 9 = .ok (.if_icmp .ge 26, 3) := by decide +kernel
theorem dX7_sumBy_12 : decode cX7_sumBy 12 = .ok (.iload_n 2, 1) := by decide +kernel
theorem dX7_sumBy_13 : decode cX7_sumBy 13 = .ok (.aload_n 0, 1) := by decide +kernel
theorem dX7_sumBy_14 : decode cX7_sumBy 14 = .ok (.getfield 13, 3) := by decide +kernel
theorem dX7_sumBy_17 : decode cX7_sumBy 17 = .ok (.iconst 4, 1) := by decide +kernel
theorem dX7_sumBy_18 : decode cX7_sumBy 18 = .ok (.iload_n 3, 1) := by decide +kernel
theorem dX7_sumBy_19 : decode cX7_sumBy 19 = .ok (.imul, 1) := by decide +kernel
theorem dX7_sumBy_20 : decode cX7_sumBy 20 = .ok (.iload_n 1, 1) := by decide +kernel
theorem dX7_sumBy_21 : decode cX7_sumBy 21 = .ok (.iload_n 3, 1) := by decide +kernel
theorem dX7_sumBy_22 : decode cX7_sumBy 22 = .ok (.invokestatic 151, 3) := by decide +kernel
theorem dX7_sumBy_25 : decode cX7_sumBy 25 = .ok (.iadd, 1) := by decide +kernel
theorem dX7_sumBy_26 : decode cX7_sumBy 26 = .ok (.iaload, 1) := by decide +kernel
theorem dX7_sumBy_27 : decode cX7_sumBy 27 = .ok (.iadd, 1) := by decide +kernel
theorem dX7_sumBy_28 : decode cX7_sumBy 28 = .ok (.istore_n 2, 1) := by decide +kernel
theorem dX7_sumBy_29 : decode cX7_sumBy 29 = .ok (.iinc 3 1, 3) := by decide +kernel
theorem dX7_sumBy_32 : decode cX7_sumBy 32 = .ok (.goto (-28), 3) := by decide +kernel
theorem dX7_sumBy_35 : decode cX7_sumBy 35 = .ok (.iload_n 2, 1) := by decide +kernel
theorem dX7_sumBy_36 : decode cX7_sumBy 36 = .ok (.ireturn, 1) := by decide +kernel
set_option maxRecDepth 20000 in
theorem ggX7_goChanges_X7_figure : GoodIn wsX7_goChanges wsX7_figure := goodIn_r _ [6] (by decide +kernel) (by decide +kernel)
set_option maxRecDepth 20000 in
theorem gX7_goChanges_X7_figure : GoodIn wsX7_goChanges (va_wsS RX7 151 yX7_figure wsX7_figure) := goodIn_app (goodIn_of _ (by decide +kernel)) ggX7_goChanges_X7_figure
set_option maxRecDepth 20000 in
theorem ggX7_goChanges_X7_isAllowed : GoodIn wsX7_goChanges wsX7_isAllowed := goodIn_r _ [10, 11, 17, 18, 19, 20, 21, 22, 23, 24, 25, 26, 27, 28, 29, 30, 31, 32, 33, 34, 35, 36, 37, 38, 39, 40, 41, 42, 43, 44, 45, 46, 47, 48, 49, 50, 51] (by decide +kernel) (by decide +kernel)
set_option maxRecDepth 20000 in
theorem gX7_goChanges_X7_isAllowed : GoodIn wsX7_goChanges (wsV RX7 138 RX7 yX7_isAllowed wsX7_isAllowed) := goodIn_app (goodIn_of _ (by decide +kernel)) ggX7_goChanges_X7_isAllowed
set_option maxRecDepth 20000 in
theorem ggX7_goChanges_X7_isWished : GoodIn wsX7_goChanges wsX7_isWished := goodIn_r _ [15, 16, 17, 18, 19, 20, 21, 22, 23, 24, 25, 26, 27, 28, 29, 30, 31, 32, 33, 34, 35, 36, 37, 38, 39, 40, 41, 42, 43, 44, 45, 46, 47, 48, 49, 50, 51] (by decide +kernel) (by decide +kernel)
set_option maxRecDepth 20000 in
theorem gX7_goChanges_X7_isWished : GoodIn wsX7_goChanges (wsV RX7 142 RX7 yX7_isWished wsX7_isWished) := goodIn_app (goodIn_of _ (by decide +kernel)) ggX7_goChanges_X7_isWished
theorem dX7_goChanges_0 : decode cX7_goChanges 0 = .ok (.iconst 0, 1) := by decide +kernel
theorem dX7_goChanges_1 : decode cX7_goChanges 1 = .ok (.istore_n 2, 1) := by decide +kernel
theorem dX7_goChanges_2 : decode cX7_goChanges 2 = .ok (.iconst 0, 1) := by decide +kernel
theorem dX7_goChanges_3 : decode cX7_goChanges 3 = .ok (.istore_n 3, 1) := by decide +kernel
theorem dX7_goChanges_4 : decode cX7_goChanges 4 = .ok (.iload_n 3, 1) := by decide +kernel
theorem dX7_goChanges_5 : decode cX7_goChanges 5 = .ok (.aload_n 0, 1) := by decide +kernel
theorem dX7_goChanges_6 : decode cX7_goChanges 6 = .ok (.getfield 91, 3) := by decide +kernel
theorem dX7_goChanges_9 : decode cX7_goChanges 9 = .ok (.aload_n 0, 1) := by decide +kernel
theorem dX7_goChanges_10 : decode cX7_goChanges 10 = .ok (.getfield 91, 3) := by decide +kernel
theorem dX7_goChanges_13 : decode cX7_goChanges 13 = .ok (.imul, 1) := by decide +kernel
theorem dX7_goChanges_14 : decode cX7_goChanges 14 = .ok (.if_icmp .ge 158, 3) := by decide +kernel
theorem dX7_goChanges_17 : decode cX7_goChanges 17 = .ok (.iload_n 3, 1) := by decide +kernel
theorem dX7_goChanges_18 : decode cX7_goChanges 18 = .ok (.aload_n 0, 1) := by decide +kernel
theorem dX7_goChanges_19 : decode cX7_goChanges 19 = .ok (.getfield 91, 3) := by decide +kernel
theorem dX7_goChanges_22 : decode cX7_goChanges 22 = .ok (.idiv, 1) := by decide +kernel
theorem dX7_goChanges_23 : decode cX7_goChanges 23 = .ok (.istore 4, 2) := by decide +kernel
theorem dX7_goChanges_25 : decode cX7_goChanges 25 = .ok (.iload_n 3, 1) := by decide +kernel
theorem dX7_goChanges_26 : decode cX7_goChanges 26 = .ok (.aload_n 0, 1) := by decide +kernel
theorem dX7_goChanges_27 : decode cX7_goChanges 27 = .ok (.getfield 91, 3) := by decide +kernel
theorem dX7_goChanges_30 : decode cX7_goChanges 30 = .ok (.irem, 1) := by decide +kernel
theorem dX7_goChanges_31 : decode cX7_goChanges 31 = .ok (.istore 5, 2) := by decide +kernel
theorem dX7_goChanges_33 : decode cX7_goChanges 33 = .ok (.iload_n 1, 1) := by decide +kernel
theorem dX7_goChanges_34 : decode cX7_goChanges 34 = .ok (.iload 4, 2) := by decide +kernel
theorem dX7_goChanges_36 : decode cX7_goChanges 36 = .ok (.invokestatic 151, 3) := by decide +kernel
theorem dX7_goChanges_39 : decode cX7_goChanges 39 = .ok (.istore 6, 2) := by decide +kernel
theorem dX7_goChanges_41 : decode cX7_goChanges 41 = .ok (.iload_n 1, 1) := by decide +kernel
theorem dX7_goChanges_42 : decode cX7_goChanges 42 = .ok (.iload 5, 2) := by decide +kernel
theorem dX7_goChanges_44 : decode cX7_goChanges 44 = .ok (.invokestatic 151, 3) := by decide +kernel
theorem dX7_goChanges_47 : decode cX7_goChanges 47 = .ok (.istore 7, 2) := by decide +kernel
theorem dX7_goChanges_49 : decode cX7_goChanges 49 = .ok (.iload 4, 2) := by decide +kernel
theorem dX7_goChanges_51 : decode cX7_goChanges 51 = .ok (.iload 5, 2) := by decide +kernel
theorem dX7_goChanges_53 : decode cX7_goChanges 53 = .ok (.if_icmp .ge 113, 3) := by decide +kernel
theorem dX7_goChanges_56 : decode cX7_goChanges 56 = .ok (.aload_n 0, 1) := by decide +kernel
theorem dX7_goChanges_57 : decode cX7_goChanges 57 = .ok (.iload 4, 2) := by decide +kernel
theorem dX7_goChanges_59 : decode cX7_goChanges 59 = .ok (.iload 6, 2) := by decide +kernel
theorem dX7_goChanges_61 : decode cX7_goChanges 61 = .ok (.iload 5, 2) := by decide +kernel
theorem dX7_goChanges_63 : decode cX7_goChanges 63 = .ok (.iload 7, 2) := by decide +kernel
theorem dX7_goChanges_65 : decode cX7_goChanges 65 = .ok (.invokevirtual 138, 3) := by decide +kernel
theorem dX7_goChanges_68 : decode cX7_goChanges 68 = .ok (.ifCond .eq 98, 3) := by decide +kernel
theorem dX7_goChanges_71 : decode cX7_goChanges 71 = .ok (.aload_n 0, 1) := by decide +kernel
theorem dX7_goChanges_72 : decode cX7_goChanges 72 = .ok (.iload 4, 2) := by decide +kernel
theorem dX7_goChanges_74 : decode cX7_goChanges 74 = .ok (.iload 6, 2) := by decide +kernel
theorem dX7_goChanges_76 : decode cX7_goChanges 76 = .ok (.iload 5, 2) := by decide +kernel
theorem dX7_goChanges_78 : decode cX7_goChanges 78 = .ok (.iload 7, 2) := by decide +kernel
theorem dX7_goChanges_80 : decode cX7_goChanges 80 = .ok (.invokevirtual 142, 3) := by decide +kernel
theorem dX7_goChanges_83 : decode cX7_goChanges 83 = .ok (.ifCond .eq 83, 3) := by decide +kernel
theorem dX7_goChanges_86 : decode cX7_goChanges 86 = .ok (.iload_n 1, 1) := by decide +kernel
theorem dX7_goChanges_87 : decode cX7_goChanges 87 = .ok (.iload 6, 2) := by decide +kernel
theorem dX7_goChanges_89 : decode cX7_goChanges 89 = .ok (.iload 7, 2) := by decide +kernel
theorem dX7_goChanges_91 : decode cX7_goChanges 91 = .ok (.ixor, 1) := by decide +kernel
theorem dX7_goChanges_92 : decode cX7_goChanges 92 = .ok (.iconst 2, 1) := by decide +kernel
theorem dX7_goChanges_93 : decode cX7_goChanges 93 = .ok (.iload 4, 2) := by decide +kernel
theorem dX7_goChanges_95 : decode cX7_goChanges 95 = .ok (.imul, 1) := by decide +kernel
theorem dX7_goChanges_96 : decode cX7_goChanges 96 = .ok (.ishl, 1) := by decide +kernel
theorem dX7_goChanges_97 : decode cX7_goChanges 97 = .ok (.ixor, 1) := by decide +kernel
theorem dX7_goChanges_98 : decode cX7_goChanges 98 = .ok (.iload 6, 2) := by decide +kernel
theorem dX7_goChanges_100 : decode cX7_goChanges 100 = .ok (.iload 7, 2) := by decide +kernel
theorem dX7_goChanges_102 : decode cX7_goChanges 102 = .ok (.ixor, 1) := by decide +kernel
theorem dX7_goChanges_103 : decode cX7_goChanges 103 = .ok (.iconst 2, 1) := by decide +kernel
theorem dX7_goChanges_104 : decode cX7_goChanges 104 = .ok (.iload 5, 2) := by decide +kernel
theorem dX7_goChanges_106 : decode cX7_goChanges 106 = .ok (.imul, 1) := by decide +kernel
theorem dX7_goChanges_107 : decode cX7_goChanges 107 = .ok (.ishl, 1) := by decide +kernel
theorem dX7_goChanges_108 : decode cX7_goChanges 108 = .ok (.ixor, 1) := by decide +kernel
theorem dX7_goChanges_109 : decode cX7_goChanges 109 = .ok (.istore 8, 2) := by decide +kernel
theorem dX7_goChanges_111 : decode cX7_goChanges 111 = .ok (.aload_n 0, 1) := by decide +kernel
theorem dX7_goChanges_112 : decode cX7_goChanges 112 = .ok (.getfield 44, 3) := by decide +kernel
theorem dX7_goChanges_115 : decode cX7_goChanges 115 = .ok (.iload_n 1, 1) := by decide +kernel
theorem dX7_goChanges_116 : decode cX7_goChanges 116 = .ok (.iaload, 1) := by decide +kernel
theorem dX7_goChanges_117 : decode cX7_goChanges 117 = .ok (.iconst 1, 1) := by decide +kernel
theorem dX7_goChanges_118 : decode cX7_goChanges 118 = .ok (.iadd, 1) := by decide +kernel
theorem dX7_goChanges_119 : decode cX7_goChanges 119 = .ok (.istore 9, 2) := by decide +kernel
theorem dX7_goChanges_121 : decode cX7_goChanges 121 = .ok (.aload_n 0, 1) := by decide +kernel
theorem dX7_goChanges_122 : decode cX7_goChanges 122 = .ok (.getfield 44, 3) := by decide +kernel
theorem dX7_goChanges_125 : decode cX7_goChanges 125 = .ok (.iload 8, 2) := by decide +kernel
theorem dX7_goChanges_127 : decode cX7_goChanges 127 = .ok (.aload_n 0, 1) := by decide +kernel
theorem dX7_goChanges_128 : decode cX7_goChanges 128 = .ok (.getfield 44, 3) := by decide +kernel
theorem dX7_goChanges_131 : decode cX7_goChanges 131 = .ok (.iload 8, 2) := by decide +kernel
theorem dX7_goChanges_133 : decode cX7_goChanges 133 = .ok (.iaload, 1) := by decide +kernel
theorem dX7_goChanges_134 : decode cX7_goChanges 134 = .ok (.iconst (-1), 1) := by decide +kernel
theorem dX7_goChanges_135 : decode cX7_goChanges 135 = .ok (.if_icmp .eq 15, 3) := by decide +kernel
theorem dX7_goChanges_138 : decode cX7_goChanges 138 = .ok (.iload 9, 2) := by decide +kernel
theorem dX7_goChanges_140 : decode cX7_goChanges 140 = .ok (.aload_n 0, 1) := by decide +kernel
theorem dX7_goChanges_141 : decode cX7_goChanges 141 = .ok (.getfield 44, 3) := by decide +kernel
theorem dX7_goChanges_144 : decode cX7_goChanges 144 = .ok (.iload 8, 2) := by decide +kernel
theorem dX7_goChanges_146 : decode cX7_goChanges 146 = .ok (.iaload, 1) := by decide +kernel
theorem dX7_goChanges_147 : decode cX7_goChanges 147 = .ok (.if_icmp .ge 8, 3) := by decide +kernel
theorem dX7_goChanges_150 : decode cX7_goChanges 150 = .ok (.iload 9, 2) := by decide +kernel
theorem dX7_goChanges_152 : decode cX7_goChanges 152 = .ok (.goto 10, 3) := by decide +kernel
theorem dX7_goChanges_155 : decode cX7_goChanges 155 = .ok (.aload_n 0, 1) := by decide +kernel
theorem dX7_goChanges_156 : decode cX7_goChanges 156 = .ok (.getfield 44, 3) := by decide +kernel
theorem dX7_goChanges_159 : decode cX7_goChanges 159 = .ok (.iload 8, 2) := by decide +kernel
theorem dX7_goChanges_161 : decode cX7_goChanges 161 = .ok (.iaload, 1) := by decide +kernel
theorem dX7_goChanges_162 : decode cX7_goChanges 162 = .ok (.iastore, 1) := by decide +kernel
theorem dX7_goChanges_163 : decode cX7_goChanges 163 = .ok (.iinc 2 1, 3) := by decide +kernel
theorem dX7_goChanges_166 : decode cX7_goChanges 166 = .ok (.iinc 3 1, 3) := by decide +kernel
theorem dX7_goChanges_169 : decode cX7_goChanges 169 = .ok (.goto (-165), 3) := by decide +kernel
theorem dX7_goChanges_172 : decode cX7_goChanges 172 = .ok (.iload_n 2, 1) := by decide +kernel
theorem dX7_goChanges_173 : decode cX7_goChanges 173 = .ok (.ireturn, 1) := by decide +kernel
set_option maxRecDepth 20000 in
theorem ggX7_layEnds_X7_laySays : GoodIn wsX7_layEnds wsX7_laySays := goodIn_r _ [11, 12, 13, 14, 15, 16, 10, 17, 18, 19, 44, 45, 46, 47, 48, 49, 50, 51, 52, 53, 54, 55, 56, 57, 58, 59, 60, 61, 62, 63, 64, 65, 66, 67, 68, 69, 70, 71, 72, 73, 74, 75, 76, 77, 78] (by decide +kernel) (by decide +kernel)
set_option maxRecDepth 20000 in
theorem gX7_layEnds_X7_laySays : GoodIn wsX7_layEnds (wsV RX7 110 RX7 yX7_laySays wsX7_laySays) := goodIn_app (goodIn_of _ (by decide +kernel)) ggX7_layEnds_X7_laySays
set_option maxRecDepth 20000 in
theorem ggX7_layEnds_X7_wayNow : GoodIn wsX7_layEnds wsX7_wayNow := goodIn_r _ [23, 12, 24, 44, 45, 46, 47, 48, 49, 50, 51, 52, 53, 54, 55, 56, 57, 58, 59, 60, 61, 62, 63, 64, 65, 66, 67, 68, 69, 70, 71, 72, 73, 74, 75, 76, 77, 78] (by decide +kernel) (by decide +kernel)
set_option maxRecDepth 20000 in
theorem gX7_layEnds_X7_wayNow : GoodIn wsX7_layEnds (wsV RX7 154 RX7 yX7_wayNow wsX7_wayNow) := goodIn_app (goodIn_of _ (by decide +kernel)) ggX7_layEnds_X7_wayNow
set_option maxRecDepth 20000 in
theorem ggX7_layEnds_X7_goChanges : GoodIn wsX7_layEnds wsX7_goChanges := goodIn_r _ [28, 12, 1, 29, 30, 10, 31, 32, 33, 34, 35, 13, 36, 37, 38, 39, 18, 44, 45, 46, 47, 48, 49, 50, 51, 52, 53, 54, 55, 56, 57, 58, 59, 60, 61, 62, 63, 64, 65, 66, 67, 68, 69, 70, 71, 72, 73, 74, 75, 76, 77, 78] (by decide +kernel) (by decide +kernel)
set_option maxRecDepth 20000 in
theorem gX7_layEnds_X7_goChanges : GoodIn wsX7_layEnds (wsV RX7 170 RX7 yX7_goChanges wsX7_goChanges) := goodIn_app (goodIn_of _ (by decide +kernel)) ggX7_layEnds_X7_goChanges
set_option maxRecDepth 20000 in
theorem ggX7_layEnds_X7_sumBy : GoodIn wsX7_layEnds wsX7_sumBy := goodIn_r _ [43, 12, 18, 29, 30, 10, 31, 44, 45, 46, 47, 48, 49, 50, 51, 52, 53, 54, 55, 56, 57, 58, 59, 60, 61, 62, 63, 64, 65, 66, 67, 68, 69, 70, 71, 72, 73, 74, 75, 76, 77, 78] (by decide +kernel) (by decide +kernel)
set_option maxRecDepth 20000 in
theorem gX7_layEnds_X7_sumBy : GoodIn wsX7_layEnds (wsV RX7 173 RX7 yX7_sumBy wsX7_sumBy) := goodIn_app (goodIn_of _ (by decide +kernel)) ggX7_layEnds_X7_sumBy
theorem dX7_layEnds_0 : decode cX7_layEnds 0 = .ok (.aload_n 0, 1) := by decide +kernel
theorem dX7_layEnds_1 : decode cX7_layEnds 1 = .ok (.invokevirtual 110, 3) := by decide +kernel
theorem dX7_layEnds_4 : decode cX7_layEnds 4 = .ok (.iconst 0, 1) := by decide +kernel
theorem dX7_layEnds_5 : decode cX7_layEnds 5 = .ok (.istore_n 1, 1) := by decide +kernel
theorem dX7_layEnds_6 : decode cX7_layEnds 6 = .ok (.iload_n 1, 1) := by decide +kernel
theorem dX7_layEnds_7 : decode cX7_layEnds 7 = .ok (.sipush 256, 3) := by decide +kernel
theorem dX7_layEnds_10 : decode cX7_layEnds 10 = .ok (.if_icmp .ge 16, 3) := by decide +kernel
theorem dX7_layEnds_13 : decode cX7_layEnds 13 = .ok (.aload_n 0, 1) := by decide +kernel
theorem dX7_layEnds_14 : decode cX7_layEnds 14 = .ok (.getfield 44, 3) := by decide +kernel
theorem dX7_layEnds_17 : decode cX7_layEnds 17 = .ok (.iload_n 1, 1) := by decide +kernel
theorem dX7_layEnds_18 : decode cX7_layEnds 18 = .ok (.iconst (-1), 1) := by decide +kernel
theorem dX7_layEnds_19 : decode cX7_layEnds 19 = .ok (.iastore, 1) := by decide +kernel
theorem dX7_layEnds_20 : decode cX7_layEnds 20 = .ok (.iinc 1 1, 3) := by decide +kernel
theorem dX7_layEnds_23 : decode cX7_layEnds 23 = .ok (.goto (-17), 3) := by decide +kernel
theorem dX7_layEnds_26 : decode cX7_layEnds 26 = .ok (.aload_n 0, 1) := by decide +kernel
theorem dX7_layEnds_27 : decode cX7_layEnds 27 = .ok (.getfield 44, 3) := by decide +kernel
theorem dX7_layEnds_30 : decode cX7_layEnds 30 = .ok (.aload_n 0, 1) := by decide +kernel
theorem dX7_layEnds_31 : decode cX7_layEnds 31 = .ok (.invokevirtual 154, 3) := by decide +kernel
theorem dX7_layEnds_34 : decode cX7_layEnds 34 = .ok (.iconst 0, 1) := by decide +kernel
theorem dX7_layEnds_35 : decode cX7_layEnds 35 = .ok (.iastore, 1) := by decide +kernel
theorem dX7_layEnds_36 : decode cX7_layEnds 36 = .ok (.iconst 0, 1) := by decide +kernel
theorem dX7_layEnds_37 : decode cX7_layEnds 37 = .ok (.istore_n 1, 1) := by decide +kernel
theorem dX7_layEnds_38 : decode cX7_layEnds 38 = .ok (.iload_n 1, 1) := by decide +kernel
theorem dX7_layEnds_39 : decode cX7_layEnds 39 = .ok (.bipush 36, 2) := by decide +kernel
theorem dX7_layEnds_41 : decode cX7_layEnds 41 = .ok (.if_icmp .ge 150, 3) := by decide +kernel
theorem dX7_layEnds_44 : decode cX7_layEnds 44 = .ok (.aload_n 0, 1) := by decide +kernel
theorem dX7_layEnds_45 : decode cX7_layEnds 45 = .ok (.iconst 0, 1) := by decide +kernel
theorem dX7_layEnds_46 : decode cX7_layEnds 46 = .ok (.putfield 157, 3) := by decide +kernel
theorem dX7_layEnds_49 : decode cX7_layEnds 49 = .ok (.aload_n 0, 1) := by decide +kernel
theorem dX7_layEnds_50 : decode cX7_layEnds 50 = .ok (.iconst (-1), 1) := by decide +kernel
theorem dX7_layEnds_51 : decode cX7_layEnds 51 = .ok (.putfield 160, 3) := by decide +kernel
theorem dX7_layEnds_54 : decode cX7_layEnds 54 = .ok (.aload_n 0, 1) := by decide +kernel
theorem dX7_layEnds_55 : decode cX7_layEnds 55 = .ok (.ldc 163, 2) := by decide +kernel
theorem dX7_layEnds_57 : decode cX7_layEnds 57 = .ok (.putfield 164, 3) := by decide +kernel
theorem dX7_layEnds_60 : decode cX7_layEnds 60 = .ok (.aload_n 0, 1) := by decide +kernel
theorem dX7_layEnds_61 : decode cX7_layEnds 61 = .ok (.ldc 163, 2) := by decide +kernel
theorem dX7_layEnds_63 : decode cX7_layEnds 63 = .ok (.putfield 167, 3) := by decide +kernel
theorem dX7_layEnds_66 : decode cX7_layEnds 66 = .ok (.iconst 0, 1) := by decide +kernel
theorem dX7_layEnds_67 : decode cX7_layEnds 67 = .ok (.istore_n 2, 1) := by decide +kernel
theorem dX7_layEnds_68 : decode cX7_layEnds 68 = .ok (.iload_n 2, 1) := by decide +kernel
theorem dX7_layEnds_69 : decode cX7_layEnds 69 = .ok (.sipush 256, 3) := by decide +kernel
theorem dX7_layEnds_72 : decode cX7_layEnds 72 = .ok (.if_icmp .ge 113, 3) := by decide +kernel
theorem dX7_layEnds_75 : decode cX7_layEnds 75 = .ok (.aload_n 0, 1) := by decide +kernel
theorem dX7_layEnds_76 : decode cX7_layEnds 76 = .ok (.getfield 44, 3) := by decide +kernel
theorem dX7_layEnds_79 : decode cX7_layEnds 79 = .ok (.iload_n 2, 1) := by decide +kernel
theorem dX7_layEnds_80 : decode cX7_layEnds 80 = .ok (.iaload, 1) := by decide +kernel
theorem dX7_layEnds_81 : decode cX7_layEnds 81 = .ok (.iconst (-1), 1) := by decide +kernel
theorem dX7_layEnds_82 : decode cX7_layEnds 82 = .ok (.if_icmp .eq 97, 3) := by decide +kernel
theorem dX7_layEnds_85 : decode cX7_layEnds 85 = .ok (.aload_n 0, 1) := by decide +kernel
theorem dX7_layEnds_86 : decode cX7_layEnds 86 = .ok (.iload_n 2, 1) := by decide +kernel
theorem dX7_layEnds_87 : decode cX7_layEnds 87 = .ok (.invokevirtual 170, 3) := by decide +kernel
theorem dX7_layEnds_90 : decode cX7_layEnds 90 = .ok (.ifCond .ne 89, 3) := by decide +kernel
theorem dX7_layEnds_93 : decode cX7_layEnds 93 = .ok (.aload_n 0, 1) := by decide +kernel
theorem dX7_layEnds_94 : decode cX7_layEnds 94 = .ok (.iload_n 2, 1) := by decide +kernel
theorem dX7_layEnds_95 : decode cX7_layEnds 95 = .ok (.invokevirtual 173, 3) := by decide +kernel
theorem dX7_layEnds_98 : decode cX7_layEnds 98 = .ok (.istore_n 3, 1) := by decide +kernel
theorem dX7_layEnds_99 : decode cX7_layEnds 99 = .ok (.aload_n 0, 1) := by decide +kernel
theorem dX7_layEnds_100 : decode cX7_layEnds 100 = .ok (.dup, 1) := by decide +kernel
theorem dX7_layEnds_101 : decode cX7_layEnds 101 = .ok (.getfield 157, 3) := by decide +kernel
theorem dX7_layEnds_104 : decode cX7_layEnds 104 = .ok (.iconst 1, 1) := by decide +kernel
theorem dX7_layEnds_105 : decode cX7_layEnds 105 = .ok (.iadd, 1) := by decide +kernel
theorem dX7_layEnds_106 : decode cX7_layEnds 106 = .ok (.putfield 157, 3) := by decide +kernel
theorem dX7_layEnds_109 : decode cX7_layEnds 109 = .ok (.aload_n 0, 1) := by decide +kernel
theorem dX7_layEnds_110 : decode cX7_layEnds 110 = .ok (.iload_n 3, 1) := by decide +kernel
theorem dX7_layEnds_111 : decode cX7_layEnds 111 = .ok (.aload_n 0, 1) := by decide +kernel
theorem dX7_layEnds_112 : decode cX7_layEnds 112 = .ok (.getfield 160, 3) := by decide +kernel
theorem dX7_layEnds_115 : decode cX7_layEnds 115 = .ok (.if_icmp .le 7, 3) := by decide +kernel
theorem dX7_layEnds_118 : decode cX7_layEnds 118 = .ok (.iload_n 3, 1) := by decide +kernel
theorem dX7_layEnds_119 : decode cX7_layEnds 119 = .ok (.goto 7, 3) := by decide +kernel
theorem dX7_layEnds_122 : decode cX7_layEnds 122 = .ok (.aload_n 0, 1) := by decide +kernel
theorem dX7_layEnds_123 : decode cX7_layEnds 123 = .ok (.getfield 160, 3) := by decide +kernel
theorem dX7_layEnds_126 : decode cX7_layEnds 126 = .ok (.putfield 160, 3) := by decide +kernel
theorem dX7_layEnds_129 : decode cX7_layEnds 129 = .ok (.aload_n 0, 1) := by decide +kernel
theorem dX7_layEnds_130 : decode cX7_layEnds 130 = .ok (.iload_n 3, 1) := by decide +kernel
theorem dX7_layEnds_131 : decode cX7_layEnds 131 = .ok (.aload_n 0, 1) := by decide +kernel
theorem dX7_layEnds_132 : decode cX7_layEnds 132 = .ok (.getfield 164, 3) := by decide +kernel
theorem dX7_layEnds_135 : decode cX7_layEnds 135 = .ok (.if_icmp .ge 7, 3) := by decide +kernel
theorem dX7_layEnds_138 : decode cX7_layEnds 138 = .ok (.iload_n 3, 1) := by decide +kernel
theorem dX7_layEnds_139 : decode cX7_layEnds 139 = .ok (.goto 7, 3) := by decide +kernel
theorem dX7_layEnds_142 : decode cX7_layEnds 142 = .ok (.aload_n 0, 1) := by decide +kernel
theorem dX7_layEnds_143 : decode cX7_layEnds 143 = .ok (.getfield 164, 3) := by decide +kernel
theorem dX7_layEnds_146 : decode cX7_layEnds 146 = .ok (.putfield 164, 3) := by decide +kernel
theorem dX7_layEnds_149 : decode cX7_layEnds 149 = .ok (.aload_n 0, 1) := by decide +kernel
theorem dX7_layEnds_150 : decode cX7_layEnds 150 = .ok (.aload_n 0, 1) := by decide +kernel
theorem dX7_layEnds_151 : decode cX7_layEnds 151 = .ok (.getfield 44, 3) := by decide +kernel
theorem dX7_layEnds_154 : decode cX7_layEnds 154 = .ok (.iload_n 2, 1) := by decide +kernel
theorem dX7_layEnds_155 : decode cX7_layEnds 155 = .ok (.iaload, 1) := by decide +kernel
theorem dX7_layEnds_156 : decode cX7_layEnds 156 = .ok (.aload_n 0, 1) := by decide +kernel
theorem dX7_layEnds_157 : decode cX7_layEnds 157 = .ok (.getfield 167, 3) := by decide +kernel
theorem dX7_layEnds_160 : decode cX7_layEnds 160 = .ok (.if_icmp .ge 12, 3) := by decide +kernel
theorem dX7_layEnds_163 : decode cX7_layEnds 163 = .ok (.aload_n 0, 1) := by decide +kernel
theorem dX7_layEnds_164 : decode cX7_layEnds 164 = .ok (.getfield 44, 3) := by decide +kernel
theorem dX7_layEnds_167 : decode cX7_layEnds 167 = .ok (.iload_n 2, 1) := by decide +kernel
theorem dX7_layEnds_168 : decode cX7_layEnds 168 = .ok (.iaload, 1) := by decide +kernel
theorem dX7_layEnds_169 : decode cX7_layEnds 169 = .ok (.goto 7, 3) := by decide +kernel
theorem dX7_layEnds_172 : decode cX7_layEnds 172 = .ok (.aload_n 0, 1) := by decide +kernel
theorem dX7_layEnds_173 : decode cX7_layEnds 173 = .ok (.getfield 167, 3) := by decide +kernel
theorem dX7_layEnds_176 : decode cX7_layEnds 176 = .ok (.putfield 167, 3) := by decide +kernel
theorem dX7_layEnds_179 : decode cX7_layEnds 179 = .ok (.iinc 2 1, 3) := by decide +kernel
theorem dX7_layEnds_182 : decode cX7_layEnds 182 = .ok (.goto (-114), 3) := by decide +kernel
theorem dX7_layEnds_185 : decode cX7_layEnds 185 = .ok (.iinc 1 1, 3) := by decide +kernel
theorem dX7_layEnds_188 : decode cX7_layEnds 188 = .ok (.goto (-150), 3) := by decide +kernel
theorem dX7_layEnds_191 : decode cX7_layEnds 191 = .ok (.return_, 1) := by decide +kernel
set_option maxRecDepth 20000 in
theorem ggX7_endsNow_X7_layEnds : GoodIn wsX7_endsNow wsX7_layEnds := goodIn_r _ [9, 10, 1, 2, 11, 3, 4, 12, 13, 14, 8, 15, 16, 17, 18, 19, 20, 21, 22, 23, 24, 25, 26, 27, 28, 29, 30, 31, 32, 33, 34, 35, 36, 37, 38, 39, 40, 41, 42, 43, 44, 45, 46, 47, 48, 49, 50, 51, 52, 53, 54, 55, 56, 57, 58, 59, 60, 61, 62, 63, 64, 65, 66, 67, 68, 69, 70, 71, 72, 73, 74, 75, 76, 77, 78, 79, 80, 81, 82] (by decide +kernel) (by decide +kernel)
set_option maxRecDepth 20000 in
theorem gX7_endsNow_X7_layEnds : GoodIn wsX7_endsNow (wsV RX7 176 RX7 yX7_layEnds wsX7_layEnds) := goodIn_app (goodIn_of _ (by decide +kernel)) ggX7_endsNow_X7_layEnds
theorem dX7_endsNow_0 : decode cX7_endsNow 0 = .ok (.aload_n 0, 1) := by decide +kernel
theorem dX7_endsNow_1 : decode cX7_endsNow 1 = .ok (.invokevirtual 176, 3) := by decide +kernel
theorem dX7_endsNow_4 : decode cX7_endsNow 4 = .ok (.iload_n 1, 1) := by decide +kernel
theorem dX7_endsNow_5 : decode cX7_endsNow 5 = .ok (.ifCond .ne 10, 3) := by decide +kernel
theorem dX7_endsNow_8 : decode cX7_endsNow 8 = .ok (.aload_n 0, 1) := by decide +kernel
theorem dX7_endsNow_9 : decode cX7_endsNow 9 = .ok (.getfield 157, 3) := by decide +kernel
theorem dX7_endsNow_12 : decode cX7_endsNow 12 = .ok (.goto 31, 3) := by decide +kernel
theorem dX7_endsNow_15 : decode cX7_endsNow 15 = .ok (.iload_n 1, 1) := by decide +kernel
theorem dX7_endsNow_16 : decode cX7_endsNow 16 = .ok (.iconst 1, 1) := by decide +kernel
theorem dX7_endsNow_17 : decode cX7_endsNow 17 = .ok (.if_icmp .ne 10, 3) := by decide +kernel
theorem dX7_endsNow_20 : decode cX7_endsNow 20 = .ok (.aload_n 0, 1) := by decide +kernel
theorem dX7_endsNow_21 : decode cX7_endsNow 21 = .ok (.getfield 160, 3) := by decide +kernel
theorem dX7_endsNow_24 : decode cX7_endsNow 24 = .ok (.goto 19, 3) := by decide +kernel
theorem dX7_endsNow_27 : decode cX7_endsNow 27 = .ok (.iload_n 1, 1) := by decide +kernel
theorem dX7_endsNow_28 : decode cX7_endsNow 28 = .ok (.iconst 2, 1) := by decide +kernel
theorem dX7_endsNow_29 : decode cX7_endsNow 29 = .ok (.if_icmp .ne 10, 3) := by decide +kernel
theorem dX7_endsNow_32 : decode cX7_endsNow 32 = .ok (.aload_n 0, 1) := by decide +kernel
theorem dX7_endsNow_33 : decode cX7_endsNow 33 = .ok (.getfield 164, 3) := by decide +kernel
theorem dX7_endsNow_36 : decode cX7_endsNow 36 = .ok (.goto 7, 3) := by decide +kernel
theorem dX7_endsNow_39 : decode cX7_endsNow 39 = .ok (.aload_n 0, 1) := by decide +kernel
theorem dX7_endsNow_40 : decode cX7_endsNow 40 = .ok (.getfield 167, 3) := by decide +kernel
theorem dX7_endsNow_43 : decode cX7_endsNow 43 = .ok (.ireturn, 1) := by decide +kernel
set_option maxRecDepth 20000 in
theorem ggX7_ends_X7_within : GoodIn wsX7_ends wsX7_within := goodIn_r _ [5] (by decide +kernel) (by decide +kernel)
set_option maxRecDepth 20000 in
theorem gX7_ends_X7_within : GoodIn wsX7_ends (va_wsS RX7 71 yX7_within wsX7_within) := goodIn_app (goodIn_of _ (by decide +kernel)) ggX7_ends_X7_within
set_option maxRecDepth 20000 in
theorem ggX7_ends_X7_endsNow : GoodIn wsX7_ends wsX7_endsNow := goodIn_r _ [9, 10, 11, 12, 13, 14, 15, 16, 4, 17, 18, 19, 20, 21, 22, 23, 1, 24, 25, 26, 27, 28, 29, 30, 31, 32, 33, 34, 35, 36, 37, 38, 39, 40, 41, 42, 43, 44, 45, 46, 47, 48, 49, 50, 51, 52, 53, 54, 55, 56, 57, 58, 59, 60, 61, 62, 63, 64, 65, 66, 67, 68, 69, 70, 71, 72, 73, 74, 75, 76, 77, 78, 79, 80, 81, 82, 83, 84, 85, 86, 87, 88, 89] (by decide +kernel) (by decide +kernel)
set_option maxRecDepth 20000 in
theorem gX7_ends_X7_endsNow : GoodIn wsX7_ends (wsV RX7 179 RX7 yX7_endsNow wsX7_endsNow) := goodIn_app (goodIn_of _ (by decide +kernel)) ggX7_ends_X7_endsNow
theorem dX7_ends_0 : decode cX7_ends 0 = .ok (.iload_n 1, 1) := by decide +kernel
theorem dX7_ends_1 : decode cX7_ends 1 = .ok (.iconst 0, 1) := by decide +kernel
theorem dX7_ends_2 : decode cX7_ends 2 = .ok (.iconst 3, 1) := by decide +kernel
theorem dX7_ends_3 : decode cX7_ends 3 = .ok (.invokestatic 71, 3) := by decide +kernel
theorem dX7_ends_6 : decode cX7_ends 6 = .ok (.ifCond .ne 6, 3) := by decide +kernel
theorem dX7_ends_9 : decode cX7_ends 9 = .ok (.bipush (-102), 2) := by decide +kernel
theorem dX7_ends_11 : decode cX7_ends 11 = .ok (.ireturn, 1) := by decide +kernel
theorem dX7_ends_12 : decode cX7_ends 12 = .ok (.aload_n 0, 1) := by decide +kernel
theorem dX7_ends_13 : decode cX7_ends 13 = .ok (.getfield 91, 3) := by decide +kernel
theorem dX7_ends_16 : decode cX7_ends 16 = .ok (.ifCond .ne 8, 3) := by decide +kernel
theorem dX7_ends_19 : decode cX7_ends 19 = .ok (.bipush (-103), 2) := by decide +kernel
theorem dX7_ends_21 : decode cX7_ends 21 = .ok (.goto 8, 3) := by decide +kernel
theorem dX7_ends_24 : decode cX7_ends 24 = .ok (.aload_n 0, 1) := by decide +kernel
theorem dX7_ends_25 : decode cX7_ends 25 = .ok (.iload_n 1, 1) := by decide +kernel
theorem dX7_ends_26 : decode cX7_ends 26 = .ok (.invokevirtual 179, 3) := by decide +kernel
theorem dX7_ends_29 : decode cX7_ends 29 = .ok (.ireturn, 1) := by decide +kernel
set_option maxRecDepth 20000 in
theorem ggX7_servedNow_X7_layDeal : GoodIn wsX7_servedNow wsX7_layDeal := goodIn_r _ [8, 9, 10, 3, 11, 12, 13, 7, 14, 15, 16, 17, 18, 2, 1, 19, 20, 21, 22, 23, 24, 25, 26, 27, 28, 29, 30, 31, 32, 33, 34, 35, 36, 37, 38, 39, 40, 41, 42, 43, 44, 45, 46, 47, 48, 49, 50, 51, 52, 53, 54, 55, 56] (by decide +kernel) (by decide +kernel)
set_option maxRecDepth 20000 in
theorem gX7_servedNow_X7_layDeal : GoodIn wsX7_servedNow (wsV RX7 117 RX7 yX7_layDeal wsX7_layDeal) := goodIn_app (goodIn_of _ (by decide +kernel)) ggX7_servedNow_X7_layDeal
theorem dX7_servedNow_0 : decode cX7_servedNow 0 = .ok (.aload_n 0, 1) := by decide +kernel
theorem dX7_servedNow_1 : decode cX7_servedNow 1 = .ok (.getfield 7, 3) := by decide +kernel
theorem dX7_servedNow_4 : decode cX7_servedNow 4 = .ok (.iload_n 1, 1) := by decide +kernel
theorem dX7_servedNow_5 : decode cX7_servedNow 5 = .ok (.iaload, 1) := by decide +kernel
theorem dX7_servedNow_6 : decode cX7_servedNow 6 = .ok (.istore_n 3, 1) := by decide +kernel
theorem dX7_servedNow_7 : decode cX7_servedNow 7 = .ok (.iconst (-1), 1) := by decide +kernel
theorem dX7_servedNow_8 : decode cX7_servedNow 8 = .ok (.istore 4, 2) := by decide +kernel
theorem dX7_servedNow_10 : decode cX7_servedNow 10 = .ok (.iconst (-1), 1) := by decide +kernel
theorem dX7_servedNow_11 : decode cX7_servedNow 11 = .ok (.istore 5, 2) := by decide +kernel
theorem dX7_servedNow_13 : decode cX7_servedNow 13 = .ok (.iconst 0, 1) := by decide +kernel
theorem dX7_servedNow_14 : decode cX7_servedNow 14 = .ok (.istore 6, 2) := by decide +kernel
theorem dX7_servedNow_16 : decode cX7_servedNow 16 = .ok (.iload 6, 2) := by decide +kernel
theorem dX7_servedNow_18 : decode cX7_servedNow 18 = .ok (.iconst 5, 1) := by decide +kernel
theorem dX7_servedNow_19 : decode cX7_servedNow 19 = .ok (.if_icmp .ge 70, 3) := by decide +kernel
theorem dX7_servedNow_22 : decode cX7_servedNow 22 = .ok (.aload_n 0, 1) := by decide +kernel
theorem dX7_servedNow_23 : decode cX7_servedNow 23 = .ok (.getfield 7, 3) := by decide +kernel
theorem dX7_servedNow_26 : decode cX7_servedNow 26 = .ok (.iload_n 1, 1) := by decide +kernel
theorem dX7_servedNow_27 : decode cX7_servedNow 27 = .ok (.iload 6, 2) := by decide +kernel
theorem dX7_servedNow_29 : decode cX7_servedNow 29 = .ok (.iastore, 1) := by decide +kernel
theorem dX7_servedNow_30 : decode cX7_servedNow 30 = .ok (.aload_n 0, 1) := by decide +kernel
theorem dX7_servedNow_31 : decode cX7_servedNow 31 = .ok (.invokevirtual 117, 3) := by decide +kernel
theorem dX7_servedNow_34 : decode cX7_servedNow 34 = .ok (.aload_n 0, 1) := by decide +kernel
theorem dX7_servedNow_35 : decode cX7_servedNow 35 = .ok (.getfield 13, 3) := by decide +kernel
theorem dX7_servedNow_38 : decode cX7_servedNow 38 = .ok (.iconst 4, 1) := by decide +kernel
theorem dX7_servedNow_39 : decode cX7_servedNow 39 = .ok (.iload_n 1, 1) := by decide +kernel
theorem dX7_servedNow_40 : decode cX7_servedNow 40 = .ok (.imul, 1) := by decide +kernel
theorem dX7_servedNow_41 : decode cX7_servedNow 41 = .ok (.aload_n 0, 1) := by decide +kernel
theorem dX7_servedNow_42 : decode cX7_servedNow 42 = .ok (.getfield 41, 3) := by decide +kernel
theorem dX7_servedNow_45 : decode cX7_servedNow 45 = .ok (.iload_n 1, 1) := by decide +kernel
theorem dX7_servedNow_46 : decode cX7_servedNow 46 = .ok (.iaload, 1) := by decide +kernel
theorem dX7_servedNow_47 : decode cX7_servedNow 47 = .ok (.iadd, 1) := by decide +kernel
theorem dX7_servedNow_48 : decode cX7_servedNow 48 = .ok (.iaload, 1) := by decide +kernel
theorem dX7_servedNow_49 : decode cX7_servedNow 49 = .ok (.istore 7, 2) := by decide +kernel
theorem dX7_servedNow_51 : decode cX7_servedNow 51 = .ok (.iload 7, 2) := by decide +kernel
theorem dX7_servedNow_53 : decode cX7_servedNow 53 = .ok (.iload 5, 2) := by decide +kernel
theorem dX7_servedNow_55 : decode cX7_servedNow 55 = .ok (.if_icmp .le 8, 3) := by decide +kernel
theorem dX7_servedNow_58 : decode cX7_servedNow 58 = .ok (.iload 6, 2) := by decide +kernel
theorem dX7_servedNow_60 : decode cX7_servedNow 60 = .ok (.goto 5, 3) := by decide +kernel
theorem dX7_servedNow_63 : decode cX7_servedNow 63 = .ok (.iload 4, 2) := by decide +kernel
theorem dX7_servedNow_65 : decode cX7_servedNow 65 = .ok (.istore 4, 2) := by decide +kernel
theorem dX7_servedNow_67 : decode cX7_servedNow 67 = .ok (.iload 7, 2) := by decide +kernel
theorem dX7_servedNow_69 : decode cX7_servedNow 69 = .ok (.iload 5, 2) := by decide +kernel
theorem dX7_servedNow_71 : decode cX7_servedNow 71 = .ok (.if_icmp .le 8, 3) := by decide +kernel
theorem dX7_servedNow_74 : decode cX7_servedNow 74 = .ok (.iload 7, 2) := by decide +kernel
theorem dX7_servedNow_76 : decode cX7_servedNow 76 = .ok (.goto 5, 3) := by decide +kernel
theorem dX7_servedNow_79 : decode cX7_servedNow 79 = .ok (.iload 5, 2) := by decide +kernel
theorem dX7_servedNow_81 : decode cX7_servedNow 81 = .ok (.istore 5, 2) := by decide +kernel
theorem dX7_servedNow_83 : decode cX7_servedNow 83 = .ok (.iinc 6 1, 3) := by decide +kernel
theorem dX7_servedNow_86 : decode cX7_servedNow 86 = .ok (.goto (-70), 3) := by decide +kernel
theorem dX7_servedNow_89 : decode cX7_servedNow 89 = .ok (.aload_n 0, 1) := by decide +kernel
theorem dX7_servedNow_90 : decode cX7_servedNow 90 = .ok (.getfield 7, 3) := by decide +kernel
theorem dX7_servedNow_93 : decode cX7_servedNow 93 = .ok (.iload_n 1, 1) := by decide +kernel
theorem dX7_servedNow_94 : decode cX7_servedNow 94 = .ok (.iload_n 3, 1) := by decide +kernel
theorem dX7_servedNow_95 : decode cX7_servedNow 95 = .ok (.iastore, 1) := by decide +kernel
theorem dX7_servedNow_96 : decode cX7_servedNow 96 = .ok (.iload_n 2, 1) := by decide +kernel
theorem dX7_servedNow_97 : decode cX7_servedNow 97 = .ok (.ifCond .ne 8, 3) := by decide +kernel
theorem dX7_servedNow_100 : decode cX7_servedNow 100 = .ok (.iload 4, 2) := by decide +kernel
theorem dX7_servedNow_102 : decode cX7_servedNow 102 = .ok (.goto 5, 3) := by decide +kernel
theorem dX7_servedNow_105 : decode cX7_servedNow 105 = .ok (.iload 5, 2) := by decide +kernel
theorem dX7_servedNow_107 : decode cX7_servedNow 107 = .ok (.ireturn, 1) := by decide +kernel
set_option maxRecDepth 20000 in
theorem ggX7_served_X7_isHeir : GoodIn wsX7_served wsX7_isHeir := goodIn_r _ [5, 6, 7, 8, 4, 9, 33, 34, 35, 36, 37, 38, 39, 40, 41, 42, 43, 44, 45, 46, 47, 48, 49, 50, 51, 52, 53, 54, 55, 56, 57, 58, 59, 60, 61, 62, 63, 64, 65, 66, 67] (by decide +kernel) (by decide +kernel)
set_option maxRecDepth 20000 in
theorem gX7_served_X7_isHeir : GoodIn wsX7_served (wsV RX7 126 RX7 yX7_isHeir wsX7_isHeir) := goodIn_app (goodIn_of _ (by decide +kernel)) ggX7_served_X7_isHeir
set_option maxRecDepth 20000 in
theorem ggX7_served_X7_within : GoodIn wsX7_served wsX7_within := goodIn_r _ [9] (by decide +kernel) (by decide +kernel)
set_option maxRecDepth 20000 in
theorem gX7_served_X7_within : GoodIn wsX7_served (va_wsS RX7 71 yX7_within wsX7_within) := goodIn_app (goodIn_of _ (by decide +kernel)) ggX7_served_X7_within
set_option maxRecDepth 20000 in
theorem ggX7_served_X7_servedNow : GoodIn wsX7_served wsX7_servedNow := goodIn_r _ [13, 14, 15, 16, 17, 18, 19, 4, 20, 6, 21, 22, 23, 24, 25, 26, 27, 28, 29, 30, 31, 32, 33, 34, 35, 36, 37, 38, 39, 40, 41, 42, 43, 44, 45, 46, 47, 48, 49, 50, 51, 52, 53, 54, 55, 56, 57, 58, 59, 60, 61, 62, 63, 64, 65, 66, 67] (by decide +kernel) (by decide +kernel)
set_option maxRecDepth 20000 in
theorem gX7_served_X7_servedNow : GoodIn wsX7_served (wsV RX7 182 RX7 yX7_servedNow wsX7_servedNow) := goodIn_app (goodIn_of _ (by decide +kernel)) ggX7_served_X7_servedNow
theorem dX7_served_0 : decode cX7_served 0 = .ok (.aload_n 0, 1) := by decide +kernel
theorem dX7_served_1 : decode cX7_served 1 = .ok (.iload_n 1, 1) := by decide +kernel
theorem dX7_served_2 : decode cX7_served 2 = .ok (.invokevirtual 126, 3) := by decide +kernel
theorem dX7_served_5 : decode cX7_served 5 = .ok (.ifCond .ne 6, 3) := by decide +kernel
theorem dX7_served_8 : decode cX7_served 8 = .ok (.bipush (-101), 2) := by decide +kernel
theorem dX7_served_10 : decode cX7_served 10 = .ok (.ireturn, 1) := by decide +kernel
theorem dX7_served_11 : decode cX7_served 11 = .ok (.iload_n 2, 1) := by decide +kernel
theorem dX7_served_12 : decode cX7_served 12 = .ok (.iconst 0, 1) := by decide +kernel
theorem dX7_served_13 : decode cX7_served 13 = .ok (.iconst 1, 1) := by decide +kernel
theorem dX7_served_14 : decode cX7_served 14 = .ok (.invokestatic 71, 3) := by decide +kernel
theorem dX7_served_17 : decode cX7_served 17 = .ok (.ifCond .eq 12, 3) := by decide +kernel
theorem dX7_served_20 : decode cX7_served 20 = .ok (.aload_n 0, 1) := by decide +kernel
theorem dX7_served_21 : decode cX7_served 21 = .ok (.iload_n 1, 1) := by decide +kernel
theorem dX7_served_22 : decode cX7_served 22 = .ok (.iload_n 2, 1) := by decide +kernel
theorem dX7_served_23 : decode cX7_served 23 = .ok (.invokevirtual 182, 3) := by decide +kernel
theorem dX7_served_26 : decode cX7_served 26 = .ok (.goto 5, 3) := by decide +kernel
theorem dX7_served_29 : decode cX7_served 29 = .ok (.bipush (-102), 2) := by decide +kernel
theorem dX7_served_31 : decode cX7_served 31 = .ok (.ireturn, 1) := by decide +kernel
theorem dX7_thingBy_0 : decode cX7_thingBy 0 = .ok (.iload_n 1, 1) := by decide +kernel
theorem dX7_thingBy_1 : decode cX7_thingBy 1 = .ok (.iconst 2, 1) := by decide +kernel
theorem dX7_thingBy_2 : decode cX7_thingBy 2 = .ok (.aload_n 0, 1) := by decide +kernel
theorem dX7_thingBy_3 : decode cX7_thingBy 3 = .ok (.getfield 91, 3) := by decide +kernel
theorem dX7_thingBy_6 : decode cX7_thingBy 6 = .ok (.iconst 1, 1) := by decide +kernel
theorem dX7_thingBy_7 : decode cX7_thingBy 7 = .ok (.isub, 1) := by decide +kernel
theorem dX7_thingBy_8 : decode cX7_thingBy 8 = .ok (.iload_n 2, 1) := by decide +kernel
theorem dX7_thingBy_9 : decode cX7_thingBy 9 = .ok (.isub, 1) := by decide +kernel
theorem dX7_thingBy_10 : decode cX7_thingBy 10 = .ok (.imul, 1) := by decide +kernel
theorem dX7_thingBy_11 : decode cX7_thingBy 11 = .ok (.ishr, 1) := by decide +kernel
theorem dX7_thingBy_12 : decode cX7_thingBy 12 = .ok (.iconst 3, 1) := by decide +kernel
theorem dX7_thingBy_13 : decode cX7_thingBy 13 = .ok (.iand, 1) := by decide +kernel
theorem dX7_thingBy_14 : decode cX7_thingBy 14 = .ok (.ireturn, 1) := by decide +kernel
set_option maxRecDepth 20000 in
theorem ggX7_worstBy_X7_thingBy : GoodIn wsX7_worstBy wsX7_thingBy := goodIn_r _ [8, 1, 12, 13, 14, 15, 16, 17, 18, 19, 20, 21, 22, 23, 24, 25, 26, 27, 28, 29, 30, 31, 32, 33, 34, 35, 36, 37, 38, 39, 40, 41, 42, 43, 44, 45, 46] (by decide +kernel) (by decide +kernel)
set_option maxRecDepth 20000 in
theorem gX7_worstBy_X7_thingBy : GoodIn wsX7_worstBy (wsV RX7 185 RX7 yX7_thingBy wsX7_thingBy) := goodIn_app (goodIn_of _ (by decide +kernel)) ggX7_worstBy_X7_thingBy
set_option maxRecDepth 20000 in
theorem ggX7_worstBy_X7_isIn : GoodIn wsX7_worstBy wsX7_isIn := goodIn_r _ [11] (by decide +kernel) (by decide +kernel)
set_option maxRecDepth 20000 in
theorem gX7_worstBy_X7_isIn : GoodIn wsX7_worstBy (va_wsS RX7 113 yX7_isIn wsX7_isIn) := goodIn_app (goodIn_of _ (by decide +kernel)) ggX7_worstBy_X7_isIn
theorem dX7_worstBy_0 : decode cX7_worstBy 0 = .ok (.iconst 0, 1) := by decide +kernel
theorem dX7_worstBy_1 : decode cX7_worstBy 1 = .ok (.istore_n 2, 1) := by decide +kernel
theorem dX7_worstBy_2 : decode cX7_worstBy 2 = .ok (.iconst 0, 1) := by decide +kernel
theorem dX7_worstBy_3 : decode cX7_worstBy 3 = .ok (.istore_n 3, 1) := by decide +kernel
theorem dX7_worstBy_4 : decode cX7_worstBy 4 = .ok (.iconst 0, 1) := by decide +kernel
theorem dX7_worstBy_5 : decode cX7_worstBy 5 = .ok (.istore 4, 2) := by decide +kernel
theorem dX7_worstBy_7 : decode cX7_worstBy 7 = .ok (.iload 4, 2) := by decide +kernel
theorem dX7_worstBy_9 : decode cX7_worstBy 9 = .ok (.aload_n 0, 1) := by decide +kernel
theorem dX7_worstBy_10 : decode cX7_worstBy 10 = .ok (.getfield 91, 3) := by decide +kernel
theorem dX7_worstBy_13 : decode cX7_worstBy 13 = .ok (.if_icmp .ge 52, 3) := by decide +kernel
theorem dX7_worstBy_16 : decode cX7_worstBy 16 = .ok (.aload_n 0, 1) := by decide +kernel
theorem dX7_worstBy_17 : decode cX7_worstBy 17 = .ok (.iload_n 1, 1) := by decide +kernel
theorem dX7_worstBy_18 : decode cX7_worstBy 18 = .ok (.iload 4, 2) := by decide +kernel
theorem dX7_worstBy_20 : decode cX7_worstBy 20 = .ok (.invokevirtual 185, 3) := by decide +kernel
theorem dX7_worstBy_23 : decode cX7_worstBy 23 = .ok (.istore 5, 2) := by decide +kernel
theorem dX7_worstBy_25 : decode cX7_worstBy 25 = .ok (.iload_n 2, 1) := by decide +kernel
theorem dX7_worstBy_26 : decode cX7_worstBy 26 = .ok (.iload 5, 2) := by decide +kernel
theorem dX7_worstBy_28 : decode cX7_worstBy 28 = .ok (.invokestatic 113, 3) := by decide +kernel
theorem dX7_worstBy_31 : decode cX7_worstBy 31 = .ok (.ifCond .eq 6, 3) := by decide +kernel
theorem dX7_worstBy_34 : decode cX7_worstBy 34 = .ok (.ldc 163, 2) := by decide +kernel
theorem dX7_worstBy_36 : decode cX7_worstBy 36 = .ok (.ireturn, 1) := by decide +kernel
theorem dX7_worstBy_37 : decode cX7_worstBy 37 = .ok (.iload_n 2, 1) := by decide +kernel
theorem dX7_worstBy_38 : decode cX7_worstBy 38 = .ok (.iconst 1, 1) := by decide +kernel
theorem dX7_worstBy_39 : decode cX7_worstBy 39 = .ok (.iload 5, 2) := by decide +kernel
theorem dX7_worstBy_41 : decode cX7_worstBy 41 = .ok (.ishl, 1) := by decide +kernel
theorem dX7_worstBy_42 : decode cX7_worstBy 42 = .ok (.ior, 1) := by decide +kernel
theorem dX7_worstBy_43 : decode cX7_worstBy 43 = .ok (.istore_n 2, 1) := by decide +kernel
theorem dX7_worstBy_44 : decode cX7_worstBy 44 = .ok (.iload_n 3, 1) := by decide +kernel
theorem dX7_worstBy_45 : decode cX7_worstBy 45 = .ok (.aload_n 0, 1) := by decide +kernel
theorem dX7_worstBy_46 : decode cX7_worstBy 46 = .ok (.getfield 13, 3) := by decide +kernel
theorem dX7_worstBy_49 : decode cX7_worstBy 49 = .ok (.iconst 4, 1) := by decide +kernel
theorem dX7_worstBy_50 : decode cX7_worstBy 50 = .ok (.iload 4, 2) := by decide +kernel
theorem dX7_worstBy_52 : decode cX7_worstBy 52 = .ok (.imul, 1) := by decide +kernel
theorem dX7_worstBy_53 : decode cX7_worstBy 53 = .ok (.iload 5, 2) := by decide +kernel
theorem dX7_worstBy_55 : decode cX7_worstBy 55 = .ok (.iadd, 1) := by decide +kernel
theorem dX7_worstBy_56 : decode cX7_worstBy 56 = .ok (.iaload, 1) := by decide +kernel
theorem dX7_worstBy_57 : decode cX7_worstBy 57 = .ok (.iadd, 1) := by decide +kernel
theorem dX7_worstBy_58 : decode cX7_worstBy 58 = .ok (.istore_n 3, 1) := by decide +kernel
theorem dX7_worstBy_59 : decode cX7_worstBy 59 = .ok (.iinc 4 1, 3) := by decide +kernel
theorem dX7_worstBy_62 : decode cX7_worstBy 62 = .ok (.goto (-55), 3) := by decide +kernel
theorem dX7_worstBy_65 : decode cX7_worstBy 65 = .ok (.iload_n 3, 1) := by decide +kernel
theorem dX7_worstBy_66 : decode cX7_worstBy 66 = .ok (.ireturn, 1) := by decide +kernel
set_option maxRecDepth 20000 in
theorem ggX7_worstNow_X7_worstBy : GoodIn wsX7_worstNow wsX7_worstBy := goodIn_r _ [7, 2, 1, 8, 9, 10, 11, 6, 12, 13, 14, 15, 23, 24, 25, 26, 27, 28, 29, 30, 31, 32, 33, 34, 35, 36, 37, 38, 39, 40, 41, 42, 43, 44, 45, 46, 47, 48, 49, 50, 51, 52, 53, 54, 55, 56, 57] (by decide +kernel) (by decide +kernel)
set_option maxRecDepth 20000 in
theorem gX7_worstNow_X7_worstBy : GoodIn wsX7_worstNow (wsV RX7 188 RX7 yX7_worstBy wsX7_worstBy) := goodIn_app (goodIn_of _ (by decide +kernel)) ggX7_worstNow_X7_worstBy
set_option maxRecDepth 20000 in
theorem ggX7_worstNow_X7_isHeir : GoodIn wsX7_worstNow wsX7_isHeir := goodIn_r _ [19, 2, 20, 21, 6, 22, 23, 24, 25, 26, 27, 28, 29, 30, 31, 32, 33, 34, 35, 36, 37, 38, 39, 40, 41, 42, 43, 44, 45, 46, 47, 48, 49, 50, 51, 52, 53, 54, 55, 56, 57] (by decide +kernel) (by decide +kernel)
set_option maxRecDepth 20000 in
theorem gX7_worstNow_X7_isHeir : GoodIn wsX7_worstNow (wsV RX7 126 RX7 yX7_isHeir wsX7_isHeir) := goodIn_app (goodIn_of _ (by decide +kernel)) ggX7_worstNow_X7_isHeir
set_option maxRecDepth 20000 in
theorem ggX7_worstNow_X7_thingBy : GoodIn wsX7_worstNow wsX7_thingBy := goodIn_r _ [12, 2, 23, 24, 25, 26, 27, 28, 29, 30, 31, 32, 33, 34, 35, 36, 37, 38, 39, 40, 41, 42, 43, 44, 45, 46, 47, 48, 49, 50, 51, 52, 53, 54, 55, 56, 57] (by decide +kernel) (by decide +kernel)
set_option maxRecDepth 20000 in
theorem gX7_worstNow_X7_thingBy : GoodIn wsX7_worstNow (wsV RX7 185 RX7 yX7_thingBy wsX7_thingBy) := goodIn_app (goodIn_of _ (by decide +kernel)) ggX7_worstNow_X7_thingBy
theorem dX7_worstNow_0 : decode cX7_worstNow 0 = .ok (.iconst (-1), 1) := by decide +kernel
theorem dX7_worstNow_1 : decode cX7_worstNow 1 = .ok (.istore_n 2, 1) := by decide +kernel
theorem dX7_worstNow_2 : decode cX7_worstNow 2 = .ok (.ldc 163, 2) := by decide +kernel
theorem dX7_worstNow_4 : decode cX7_worstNow 4 = .ok (.istore_n 3, 1) := by decide +kernel
theorem dX7_worstNow_5 : decode cX7_worstNow 5 = .ok (.iconst 0, 1) := by decide +kernel
theorem dX7_worstNow_6 : decode cX7_worstNow 6 = .ok (.istore 4, 2) := by decide +kernel
theorem dX7_worstNow_8 : decode cX7_worstNow 8 = .ok (.iload 4, 2) := by decide +kernel
theorem dX7_worstNow_10 : decode cX7_worstNow 10 = .ok (.iconst 1, 1) := by decide +kernel
theorem dX7_worstNow_11 : decode cX7_worstNow 11 = .ok (.iconst 2, 1) := by decide +kernel
theorem dX7_worstNow_12 : decode cX7_worstNow 12 = .ok (.aload_n 0, 1) := by decide +kernel
theorem dX7_worstNow_13 : decode cX7_worstNow 13 = .ok (.getfield 91, 3) := by decide +kernel
theorem dX7_worstNow_16 : decode cX7_worstNow 16 = .ok (.imul, 1) := by decide +kernel
theorem dX7_worstNow_17 : decode cX7_worstNow 17 = .ok (.ishl, 1) := by decide +kernel
theorem dX7_worstNow_18 : decode cX7_worstNow 18 = .ok (.if_icmp .ge 43, 3) := by decide +kernel
theorem dX7_worstNow_21 : decode cX7_worstNow 21 = .ok (.aload_n 0, 1) := by decide +kernel
theorem dX7_worstNow_22 : decode cX7_worstNow 22 = .ok (.iload 4, 2) := by decide +kernel
theorem dX7_worstNow_24 : decode cX7_worstNow 24 = .ok (.invokevirtual 188, 3) := by decide +kernel
theorem dX7_worstNow_27 : decode cX7_worstNow 27 = .ok (.istore 5, 2) := by decide +kernel
theorem dX7_worstNow_29 : decode cX7_worstNow 29 = .ok (.iload 5, 2) := by decide +kernel
theorem dX7_worstNow_31 : decode cX7_worstNow 31 = .ok (.iload_n 3, 1) := by decide +kernel
theorem dX7_worstNow_32 : decode cX7_worstNow 32 = .ok (.if_icmp .ge 8, 3) := by decide +kernel
theorem dX7_worstNow_35 : decode cX7_worstNow 35 = .ok (.iload 4, 2) := by decide +kernel
theorem dX7_worstNow_37 : decode cX7_worstNow 37 = .ok (.goto 4, 3) := by decide +kernel
theorem dX7_worstNow_40 : decode cX7_worstNow 40 = .ok (.iload_n 2, 1) := by decide +kernel
theorem dX7_worstNow_41 : decode cX7_worstNow 41 = .ok (.istore_n 2, 1) := by decide +kernel
theorem dX7_worstNow_42 : decode cX7_worstNow 42 = .ok (.iload 5, 2) := by decide +kernel
theorem dX7_worstNow_44 : decode cX7_worstNow 44 = .ok (.iload_n 3, 1) := by decide +kernel
theorem dX7_worstNow_45 : decode cX7_worstNow 45 = .ok (.if_icmp .ge 8, 3) := by decide +kernel
theorem dX7_worstNow_48 : decode cX7_worstNow 48 = .ok (.iload 5, 2) := by decide +kernel
theorem dX7_worstNow_50 : decode cX7_worstNow 50 = .ok (.goto 4, 3) := by decide +kernel
theorem dX7_worstNow_53 : decode cX7_worstNow 53 = .ok (.iload_n 3, 1) := by decide +kernel
theorem dX7_worstNow_54 : decode cX7_worstNow 54 = .ok (.istore_n 3, 1) := by decide +kernel
theorem dX7_worstNow_55 : decode cX7_worstNow 55 = .ok (.iinc 4 1, 3) := by decide +kernel
theorem dX7_worstNow_58 : decode cX7_worstNow 58 = .ok (.goto (-50), 3) := by decide +kernel
theorem dX7_worstNow_61 : decode cX7_worstNow 61 = .ok (.iload_n 1, 1) := by decide +kernel
theorem dX7_worstNow_62 : decode cX7_worstNow 62 = .ok (.ifCond .ne 7, 3) := by decide +kernel
theorem dX7_worstNow_65 : decode cX7_worstNow 65 = .ok (.iload_n 3, 1) := by decide +kernel
theorem dX7_worstNow_66 : decode cX7_worstNow 66 = .ok (.goto 27, 3) := by decide +kernel
theorem dX7_worstNow_69 : decode cX7_worstNow 69 = .ok (.aload_n 0, 1) := by decide +kernel
theorem dX7_worstNow_70 : decode cX7_worstNow 70 = .ok (.iload_n 1, 1) := by decide +kernel
theorem dX7_worstNow_71 : decode cX7_worstNow 71 = .ok (.bipush 10, 2) := by decide +kernel
theorem dX7_worstNow_73 : decode cX7_worstNow 73 = .ok (.isub, 1) := by decide +kernel
theorem dX7_worstNow_74 : decode cX7_worstNow 74 = .ok (.invokevirtual 126, 3) := by decide +kernel
theorem dX7_worstNow_77 : decode cX7_worstNow 77 = .ok (.ifCond .eq 15, 3) := by decide +kernel
theorem dX7_worstNow_80 : decode cX7_worstNow 80 = .ok (.aload_n 0, 1) := by decide +kernel
theorem dX7_worstNow_81 : decode cX7_worstNow 81 = .ok (.iload_n 2, 1) := by decide +kernel
theorem dX7_worstNow_82 : decode cX7_worstNow 82 = .ok (.iload_n 1, 1) := by decide +kernel
theorem dX7_worstNow_83 : decode cX7_worstNow 83 = .ok (.bipush 10, 2) := by decide +kernel
theorem dX7_worstNow_85 : decode cX7_worstNow 85 = .ok (.isub, 1) := by decide +kernel
theorem dX7_worstNow_86 : decode cX7_worstNow 86 = .ok (.invokevirtual 185, 3) := by decide +kernel
theorem dX7_worstNow_89 : decode cX7_worstNow 89 = .ok (.goto 4, 3) := by decide +kernel
theorem dX7_worstNow_92 : decode cX7_worstNow 92 = .ok (.iconst (-1), 1) := by decide +kernel
theorem dX7_worstNow_93 : decode cX7_worstNow 93 = .ok (.ireturn, 1) := by decide +kernel
set_option maxRecDepth 20000 in
theorem ggX7_worst_X7_within : GoodIn wsX7_worst wsX7_within := goodIn_r _ [5] (by decide +kernel) (by decide +kernel)
set_option maxRecDepth 20000 in
theorem gX7_worst_X7_within : GoodIn wsX7_worst (va_wsS RX7 71 yX7_within wsX7_within) := goodIn_app (goodIn_of _ (by decide +kernel)) ggX7_worst_X7_within
set_option maxRecDepth 20000 in
theorem ggX7_worst_X7_worstNow : GoodIn wsX7_worst wsX7_worstNow := goodIn_r _ [9, 10, 1, 11, 12, 13, 4, 14, 15, 16, 17, 18, 19, 20, 21, 22, 23, 24, 25, 26, 2, 3, 5, 27, 28, 29, 30, 31, 32, 33, 34, 35, 36, 37, 38, 39, 40, 41, 42, 43, 44, 45, 46, 47, 48, 49, 50, 51, 52, 53, 54, 55, 56, 57, 58, 59, 60, 61] (by decide +kernel) (by decide +kernel)
set_option maxRecDepth 20000 in
theorem gX7_worst_X7_worstNow : GoodIn wsX7_worst (wsV RX7 191 RX7 yX7_worstNow wsX7_worstNow) := goodIn_app (goodIn_of _ (by decide +kernel)) ggX7_worst_X7_worstNow
theorem dX7_worst_0 : decode cX7_worst 0 = .ok (.iload_n 1, 1) := by decide +kernel
theorem dX7_worst_1 : decode cX7_worst 1 = .ok (.ifCond .eq 17, 3) := by decide +kernel
theorem dX7_worst_4 : decode cX7_worst 4 = .ok (.iload_n 1, 1) := by decide +kernel
theorem dX7_worst_5 : decode cX7_worst 5 = .ok (.bipush 10, 2) := by decide +kernel
theorem dX7_worst_7 : decode cX7_worst 7 = .ok (.bipush 13, 2) := by decide +kernel
theorem dX7_worst_9 : decode cX7_worst 9 = .ok (.invokestatic 71, 3) := by decide +kernel
theorem dX7_worst_12 : decode cX7_worst 12 = .ok (.ifCond .ne 6, 3) := by decide +kernel
theorem dX7_worst_15 : decode cX7_worst 15 = .ok (.bipush (-102), 2) := by decide +kernel
theorem dX7_worst_17 : decode cX7_worst 17 = .ok (.ireturn, 1) := by decide +kernel
theorem dX7_worst_18 : decode cX7_worst 18 = .ok (.aload_n 0, 1) := by decide +kernel
theorem dX7_worst_19 : decode cX7_worst 19 = .ok (.getfield 91, 3) := by decide +kernel
theorem dX7_worst_22 : decode cX7_worst 22 = .ok (.ifCond .ne 8, 3) := by decide +kernel
theorem dX7_worst_25 : decode cX7_worst 25 = .ok (.bipush (-103), 2) := by decide +kernel
theorem dX7_worst_27 : decode cX7_worst 27 = .ok (.goto 8, 3) := by decide +kernel
theorem dX7_worst_30 : decode cX7_worst 30 = .ok (.aload_n 0, 1) := by decide +kernel
theorem dX7_worst_31 : decode cX7_worst 31 = .ok (.iload_n 1, 1) := by decide +kernel
theorem dX7_worst_32 : decode cX7_worst 32 = .ok (.invokevirtual 191, 3) := by decide +kernel
theorem dX7_worst_35 : decode cX7_worst 35 = .ok (.ireturn, 1) := by decide +kernel
set_option maxRecDepth 20000 in
theorem ggX7_hear_X7_isHeir : GoodIn wsX7_hear wsX7_isHeir := goodIn_r _ [10, 11, 12, 13, 9, 14, 19, 20, 21, 22, 23, 24, 25, 26, 27, 28, 29, 30, 31, 32, 33, 34, 35, 36, 37, 38, 39, 40, 41, 42, 43, 44, 45, 46, 47, 48, 49, 50, 51, 52, 53] (by decide +kernel) (by decide +kernel)
set_option maxRecDepth 20000 in
theorem gX7_hear_X7_isHeir : GoodIn wsX7_hear (wsV RX7 126 RX7 yX7_isHeir wsX7_isHeir) := goodIn_app (goodIn_of _ (by decide +kernel)) ggX7_hear_X7_isHeir
set_option maxRecDepth 20000 in
theorem ggX7_hear_X7_isThing : GoodIn wsX7_hear wsX7_isThing := goodIn_r _ [18, 11, 12, 13, 9, 14, 19, 20, 21, 22, 23, 24, 25, 26, 27, 28, 29, 30, 31, 32, 33, 34, 35, 36, 37, 38, 39, 40, 41, 42, 43, 44, 45, 46, 47, 48, 49, 50, 51, 52, 53] (by decide +kernel) (by decide +kernel)
set_option maxRecDepth 20000 in
theorem gX7_hear_X7_isThing : GoodIn wsX7_hear (wsV RX7 132 RX7 yX7_isThing wsX7_isThing) := goodIn_app (goodIn_of _ (by decide +kernel)) ggX7_hear_X7_isThing
theorem dX7_hear_0 : decode cX7_hear 0 = .ok (.aload_n 0, 1) := by decide +kernel
theorem dX7_hear_1 : decode cX7_hear 1 = .ok (.iload_n 1, 1) := by decide +kernel
theorem dX7_hear_2 : decode cX7_hear 2 = .ok (.invokevirtual 126, 3) := by decide +kernel
theorem dX7_hear_5 : decode cX7_hear 5 = .ok (.ifCond .eq 24, 3) := by decide +kernel
theorem dX7_hear_8 : decode cX7_hear 8 = .ok (.aload_n 0, 1) := by decide +kernel
theorem dX7_hear_9 : decode cX7_hear 9 = .ok (.iload_n 2, 1) := by decide +kernel
theorem dX7_hear_10 : decode cX7_hear 10 = .ok (.invokevirtual 132, 3) := by decide +kernel
theorem dX7_hear_13 : decode cX7_hear 13 = .ok (.ifCond .eq 16, 3) := by decide +kernel
theorem dX7_hear_16 : decode cX7_hear 16 = .ok (.aload_n 0, 1) := by decide +kernel
theorem dX7_hear_17 : decode cX7_hear 17 = .ok (.iload_n 3, 1) := by decide +kernel
theorem dX7_hear_18 : decode cX7_hear 18 = .ok (.invokevirtual 132, 3) := by decide +kernel
theorem dX7_hear_21 : decode cX7_hear 21 = .ok (.ifCond .eq 8, 3) := by decide +kernel
theorem dX7_hear_24 : decode cX7_hear 24 = .ok (.iload_n 2, 1) := by decide +kernel
theorem dX7_hear_25 : decode cX7_hear 25 = .ok (.iload_n 3, 1) := by decide +kernel
theorem dX7_hear_26 : decode cX7_hear 26 = .ok (.if_icmp .ne 6, 3) := by decide +kernel
theorem dX7_hear_29 : decode cX7_hear 29 = .ok (.bipush (-101), 2) := by decide +kernel
theorem dX7_hear_31 : decode cX7_hear 31 = .ok (.ireturn, 1) := by decide +kernel
theorem dX7_hear_32 : decode cX7_hear 32 = .ok (.aload_n 0, 1) := by decide +kernel
theorem dX7_hear_33 : decode cX7_hear 33 = .ok (.getfield 100, 3) := by decide +kernel
theorem dX7_hear_36 : decode cX7_hear 36 = .ok (.bipush 6, 2) := by decide +kernel
theorem dX7_hear_38 : decode cX7_hear 38 = .ok (.if_icmp .ne 6, 3) := by decide +kernel
theorem dX7_hear_41 : decode cX7_hear 41 = .ok (.bipush (-104), 2) := by decide +kernel
theorem dX7_hear_43 : decode cX7_hear 43 = .ok (.ireturn, 1) := by decide +kernel
theorem dX7_hear_44 : decode cX7_hear 44 = .ok (.aload_n 0, 1) := by decide +kernel
theorem dX7_hear_45 : decode cX7_hear 45 = .ok (.getfield 22, 3) := by decide +kernel
theorem dX7_hear_48 : decode cX7_hear 48 = .ok (.aload_n 0, 1) := by decide +kernel
theorem dX7_hear_49 : decode cX7_hear 49 = .ok (.getfield 100, 3) := by decide +kernel
theorem dX7_hear_52 : decode cX7_hear 52 = .ok (.iload_n 1, 1) := by decide +kernel
theorem dX7_hear_53 : decode cX7_hear 53 = .ok (.iastore, 1) := by decide +kernel
theorem dX7_hear_54 : decode cX7_hear 54 = .ok (.aload_n 0, 1) := by decide +kernel
theorem dX7_hear_55 : decode cX7_hear 55 = .ok (.getfield 25, 3) := by decide +kernel
theorem dX7_hear_58 : decode cX7_hear 58 = .ok (.aload_n 0, 1) := by decide +kernel
theorem dX7_hear_59 : decode cX7_hear 59 = .ok (.getfield 100, 3) := by decide +kernel
theorem dX7_hear_62 : decode cX7_hear 62 = .ok (.iload_n 2, 1) := by decide +kernel
theorem dX7_hear_63 : decode cX7_hear 63 = .ok (.iastore, 1) := by decide +kernel
theorem dX7_hear_64 : decode cX7_hear 64 = .ok (.aload_n 0, 1) := by decide +kernel
theorem dX7_hear_65 : decode cX7_hear 65 = .ok (.getfield 28, 3) := by decide +kernel
theorem dX7_hear_68 : decode cX7_hear 68 = .ok (.aload_n 0, 1) := by decide +kernel
theorem dX7_hear_69 : decode cX7_hear 69 = .ok (.getfield 100, 3) := by decide +kernel
theorem dX7_hear_72 : decode cX7_hear 72 = .ok (.iload_n 3, 1) := by decide +kernel
theorem dX7_hear_73 : decode cX7_hear 73 = .ok (.iastore, 1) := by decide +kernel
theorem dX7_hear_74 : decode cX7_hear 74 = .ok (.aload_n 0, 1) := by decide +kernel
theorem dX7_hear_75 : decode cX7_hear 75 = .ok (.getfield 31, 3) := by decide +kernel
theorem dX7_hear_78 : decode cX7_hear 78 = .ok (.aload_n 0, 1) := by decide +kernel
theorem dX7_hear_79 : decode cX7_hear 79 = .ok (.getfield 100, 3) := by decide +kernel
theorem dX7_hear_82 : decode cX7_hear 82 = .ok (.iload 4, 2) := by decide +kernel
theorem dX7_hear_84 : decode cX7_hear 84 = .ok (.ifCond .eq 7, 3) := by decide +kernel
theorem dX7_hear_87 : decode cX7_hear 87 = .ok (.iconst 1, 1) := by decide +kernel
theorem dX7_hear_88 : decode cX7_hear 88 = .ok (.goto 4, 3) := by decide +kernel
theorem dX7_hear_91 : decode cX7_hear 91 = .ok (.iconst 0, 1) := by decide +kernel
theorem dX7_hear_92 : decode cX7_hear 92 = .ok (.iastore, 1) := by decide +kernel
theorem dX7_hear_93 : decode cX7_hear 93 = .ok (.aload_n 0, 1) := by decide +kernel
theorem dX7_hear_94 : decode cX7_hear 94 = .ok (.dup, 1) := by decide +kernel
theorem dX7_hear_95 : decode cX7_hear 95 = .ok (.getfield 100, 3) := by decide +kernel
theorem dX7_hear_98 : decode cX7_hear 98 = .ok (.iconst 1, 1) := by decide +kernel
theorem dX7_hear_99 : decode cX7_hear 99 = .ok (.iadd, 1) := by decide +kernel
theorem dX7_hear_100 : decode cX7_hear 100 = .ok (.putfield 100, 3) := by decide +kernel
theorem dX7_hear_103 : decode cX7_hear 103 = .ok (.aload_n 0, 1) := by decide +kernel
theorem dX7_hear_104 : decode cX7_hear 104 = .ok (.getfield 100, 3) := by decide +kernel
theorem dX7_hear_107 : decode cX7_hear 107 = .ok (.ireturn, 1) := by decide +kernel
theorem dX7_forget_0 : decode cX7_forget 0 = .ok (.aload_n 0, 1) := by decide +kernel
theorem dX7_forget_1 : decode cX7_forget 1 = .ok (.getfield 100, 3) := by decide +kernel
theorem dX7_forget_4 : decode cX7_forget 4 = .ok (.istore_n 1, 1) := by decide +kernel
theorem dX7_forget_5 : decode cX7_forget 5 = .ok (.aload_n 0, 1) := by decide +kernel
theorem dX7_forget_6 : decode cX7_forget 6 = .ok (.iconst 0, 1) := by decide +kernel
theorem dX7_forget_7 : decode cX7_forget 7 = .ok (.putfield 100, 3) := by decide +kernel
theorem dX7_forget_10 : decode cX7_forget 10 = .ok (.iload_n 1, 1) := by decide +kernel
theorem dX7_forget_11 : decode cX7_forget 11 = .ok (.ireturn, 1) := by decide +kernel
theorem dX7_worthIf_0 : decode cX7_worthIf 0 = .ok (.iload_n 2, 1) := by decide +kernel
theorem dX7_worthIf_1 : decode cX7_worthIf 1 = .ok (.iload_n 3, 1) := by decide +kernel
theorem dX7_worthIf_2 : decode cX7_worthIf 2 = .ok (.if_icmp .ne 8, 3) := by decide +kernel
theorem dX7_worthIf_5 : decode cX7_worthIf 5 = .ok (.iload 4, 2) := by decide +kernel
theorem dX7_worthIf_7 : decode cX7_worthIf 7 = .ok (.goto 13, 3) := by decide +kernel
theorem dX7_worthIf_10 : decode cX7_worthIf 10 = .ok (.aload_n 0, 1) := by decide +kernel
theorem dX7_worthIf_11 : decode cX7_worthIf 11 = .ok (.getfield 13, 3) := by decide +kernel
theorem dX7_worthIf_14 : decode cX7_worthIf 14 = .ok (.iconst 4, 1) := by decide +kernel
theorem dX7_worthIf_15 : decode cX7_worthIf 15 = .ok (.iload_n 1, 1) := by decide +kernel
theorem dX7_worthIf_16 : decode cX7_worthIf 16 = .ok (.imul, 1) := by decide +kernel
theorem dX7_worthIf_17 : decode cX7_worthIf 17 = .ok (.iload_n 2, 1) := by decide +kernel
theorem dX7_worthIf_18 : decode cX7_worthIf 18 = .ok (.iadd, 1) := by decide +kernel
theorem dX7_worthIf_19 : decode cX7_worthIf 19 = .ok (.iaload, 1) := by decide +kernel
theorem dX7_worthIf_20 : decode cX7_worthIf 20 = .ok (.ireturn, 1) := by decide +kernel
set_option maxRecDepth 20000 in
theorem ggX7_couldBe_X7_worthIf : GoodIn wsX7_couldBe wsX7_worthIf := goodIn_r _ [10, 11, 12, 13, 14, 15, 16, 17, 18, 19, 20, 21, 22, 23, 24, 25, 26, 27, 28, 29, 30, 31, 32, 33, 34, 35, 36, 37, 38, 39, 40, 41, 42, 43, 44, 45, 46] (by decide +kernel) (by decide +kernel)
set_option maxRecDepth 20000 in
theorem gX7_couldBe_X7_worthIf : GoodIn wsX7_couldBe (wsV RX7 194 RX7 yX7_worthIf wsX7_worthIf) := goodIn_app (goodIn_of _ (by decide +kernel)) ggX7_couldBe_X7_worthIf
theorem dX7_couldBe_0 : decode cX7_couldBe 0 = .ok (.iconst 1, 1) := by decide +kernel
theorem dX7_couldBe_1 : decode cX7_couldBe 1 = .ok (.istore 4, 2) := by decide +kernel
theorem dX7_couldBe_3 : decode cX7_couldBe 3 = .ok (.iconst 0, 1) := by decide +kernel
theorem dX7_couldBe_4 : decode cX7_couldBe 4 = .ok (.istore 5, 2) := by decide +kernel
theorem dX7_couldBe_6 : decode cX7_couldBe 6 = .ok (.iload 5, 2) := by decide +kernel
theorem dX7_couldBe_8 : decode cX7_couldBe 8 = .ok (.aload_n 0, 1) := by decide +kernel
theorem dX7_couldBe_9 : decode cX7_couldBe 9 = .ok (.getfield 100, 3) := by decide +kernel
theorem dX7_couldBe_12 : decode cX7_couldBe 12 = .ok (.if_icmp .ge 91, 3) := by decide +kernel
theorem dX7_couldBe_15 : decode cX7_couldBe 15 = .ok (.aload_n 0, 1) := by decide +kernel
theorem dX7_couldBe_16 : decode cX7_couldBe 16 = .ok (.iload_n 1, 1) := by decide +kernel
theorem dX7_couldBe_17 : decode cX7_couldBe 17 = .ok (.aload_n 0, 1) := by decide +kernel
theorem dX7_couldBe_18 : decode cX7_couldBe 18 = .ok (.getfield 25, 3) := by decide +kernel
theorem dX7_couldBe_21 : decode cX7_couldBe 21 = .ok (.iload 5, 2) := by decide +kernel
theorem dX7_couldBe_23 : decode cX7_couldBe 23 = .ok (.iaload, 1) := by decide +kernel
theorem dX7_couldBe_24 : decode cX7_couldBe 24 = .ok (.iload_n 2, 1) := by decide +kernel
theorem dX7_couldBe_25 : decode cX7_couldBe 25 = .ok (.iload_n 3, 1) := by decide +kernel
theorem dX7_couldBe_26 : decode cX7_couldBe 26 = .ok (.invokevirtual 194, 3) := by decide +kernel
theorem dX7_couldBe_29 : decode cX7_couldBe 29 = .ok (.aload_n 0, 1) := by decide +kernel
theorem dX7_couldBe_30 : decode cX7_couldBe 30 = .ok (.iload_n 1, 1) := by decide +kernel
theorem dX7_couldBe_31 : decode cX7_couldBe 31 = .ok (.aload_n 0, 1) := by decide +kernel
theorem dX7_couldBe_32 : decode cX7_couldBe 32 = .ok (.getfield 28, 3) := by decide +kernel
theorem dX7_couldBe_35 : decode cX7_couldBe 35 = .ok (.iload 5, 2) := by decide +kernel
theorem dX7_couldBe_37 : decode cX7_couldBe 37 = .ok (.iaload, 1) := by decide +kernel
theorem dX7_couldBe_38 : decode cX7_couldBe 38 = .ok (.iload_n 2, 1) := by decide +kernel
theorem dX7_couldBe_39 : decode cX7_couldBe 39 = .ok (.iload_n 3, 1) := by decide +kernel
theorem dX7_couldBe_40 : decode cX7_couldBe 40 = .ok (.invokevirtual 194, 3) := by decide +kernel
theorem dX7_couldBe_43 : decode cX7_couldBe 43 = .ok (.if_icmp .le 7, 3) := by decide +kernel
theorem dX7_couldBe_46 : decode cX7_couldBe 46 = .ok (.iconst 1, 1) := by decide +kernel
theorem dX7_couldBe_47 : decode cX7_couldBe 47 = .ok (.goto 4, 3) := by decide +kernel
theorem dX7_couldBe_50 : decode cX7_couldBe 50 = .ok (.iconst 0, 1) := by decide +kernel
theorem dX7_couldBe_51 : decode cX7_couldBe 51 = .ok (.istore 6, 2) := by decide +kernel
theorem dX7_couldBe_53 : decode cX7_couldBe 53 = .ok (.iload 4, 2) := by decide +kernel
theorem dX7_couldBe_55 : decode cX7_couldBe 55 = .ok (.ifCond .eq 39, 3) := by decide +kernel
theorem dX7_couldBe_58 : decode cX7_couldBe 58 = .ok (.aload_n 0, 1) := by decide +kernel
theorem dX7_couldBe_59 : decode cX7_couldBe 59 = .ok (.getfield 22, 3) := by decide +kernel
theorem dX7_couldBe_62 : decode cX7_couldBe 62 = .ok (.iload 5, 2) := by decide +kernel
theorem dX7_couldBe_64 : decode cX7_couldBe 64 = .ok (.iaload, 1) := by decide +kernel
theorem dX7_couldBe_65 : decode cX7_couldBe 65 = .ok (.iload_n 1, 1) := by decide +kernel
theorem dX7_couldBe_66 : decode cX7_couldBe 66 = .ok (.if_icmp .ne 24, 3) := by decide +kernel
theorem dX7_couldBe_69 : decode cX7_couldBe 69 = .ok (.iload 6, 2) := by decide +kernel
theorem dX7_couldBe_71 : decode cX7_couldBe 71 = .ok (.aload_n 0, 1) := by decide +kernel
theorem dX7_couldBe_72 : decode cX7_couldBe 72 = .ok (.getfield 31, 3) := by decide +kernel
theorem dX7_couldBe_75 : decode cX7_couldBe 75 = .ok (.iload 5, 2) := by decide +kernel
theorem dX7_couldBe_77 : decode cX7_couldBe 77 = .ok (.iaload, 1) := by decide +kernel
theorem dX7_couldBe_78 : decode cX7_couldBe 78 = .ok (.iconst 1, 1) := by decide +kernel
theorem dX7_couldBe_79 : decode cX7_couldBe 79 = .ok (.if_icmp .ne 7, 3) := by decide +kernel
theorem dX7_couldBe_82 : decode cX7_couldBe 82 = .ok (.iconst 1, 1) := by decide +kernel
theorem dX7_couldBe_83 : decode cX7_couldBe 83 = .ok (.goto 4, 3) := by decide +kernel
theorem dX7_couldBe_86 : decode cX7_couldBe 86 = .ok (.iconst 0, 1) := by decide +kernel
theorem dX7_couldBe_87 : decode cX7_couldBe 87 = .ok (.if_icmp .ne 7, 3) := by decide +kernel
theorem dX7_couldBe_90 : decode cX7_couldBe 90 = .ok (.iconst 1, 1) := by decide +kernel
theorem dX7_couldBe_91 : decode cX7_couldBe 91 = .ok (.goto 4, 3) := by decide +kernel
theorem dX7_couldBe_94 : decode cX7_couldBe 94 = .ok (.iconst 0, 1) := by decide +kernel
theorem dX7_couldBe_95 : decode cX7_couldBe 95 = .ok (.istore 4, 2) := by decide +kernel
theorem dX7_couldBe_97 : decode cX7_couldBe 97 = .ok (.iinc 5 1, 3) := by decide +kernel
theorem dX7_couldBe_100 : decode cX7_couldBe 100 = .ok (.goto (-94), 3) := by decide +kernel
theorem dX7_couldBe_103 : decode cX7_couldBe 103 = .ok (.iload 4, 2) := by decide +kernel
theorem dX7_couldBe_105 : decode cX7_couldBe 105 = .ok (.ireturn, 1) := by decide +kernel
set_option maxRecDepth 20000 in
theorem ggX7_truthsNow_X7_couldBe : GoodIn wsX7_truthsNow wsX7_couldBe := goodIn_r _ [5, 6, 7, 8, 9, 10, 11, 12, 13, 4, 14, 15, 16, 17, 18, 19, 20, 21, 22, 23, 24, 25, 26, 27, 28, 29, 30, 31, 32, 33, 34, 35, 36, 37, 38, 39, 40, 41, 42, 43, 44, 45, 46, 47, 48, 49, 50] (by decide +kernel) (by decide +kernel)
set_option maxRecDepth 20000 in
theorem gX7_truthsNow_X7_couldBe : GoodIn wsX7_truthsNow (wsV RX7 198 RX7 yX7_couldBe wsX7_couldBe) := goodIn_app (goodIn_of _ (by decide +kernel)) ggX7_truthsNow_X7_couldBe
theorem dX7_truthsNow_0 : decode cX7_truthsNow 0 = .ok (.iconst 0, 1) := by decide +kernel
theorem dX7_truthsNow_1 : decode cX7_truthsNow 1 = .ok (.istore_n 3, 1) := by decide +kernel
theorem dX7_truthsNow_2 : decode cX7_truthsNow 2 = .ok (.iconst 0, 1) := by decide +kernel
theorem dX7_truthsNow_3 : decode cX7_truthsNow 3 = .ok (.istore 4, 2) := by decide +kernel
theorem dX7_truthsNow_5 : decode cX7_truthsNow 5 = .ok (.iload 4, 2) := by decide +kernel
theorem dX7_truthsNow_7 : decode cX7_truthsNow 7 = .ok (.bipush 9, 2) := by decide +kernel
theorem dX7_truthsNow_9 : decode cX7_truthsNow 9 = .ok (.if_icmp .gt 31, 3) := by decide +kernel
theorem dX7_truthsNow_12 : decode cX7_truthsNow 12 = .ok (.iload_n 3, 1) := by decide +kernel
theorem dX7_truthsNow_13 : decode cX7_truthsNow 13 = .ok (.aload_n 0, 1) := by decide +kernel
theorem dX7_truthsNow_14 : decode cX7_truthsNow 14 = .ok (.iload_n 1, 1) := by decide +kernel
theorem dX7_truthsNow_15 : decode cX7_truthsNow 15 = .ok (.iload_n 2, 1) := by decide +kernel
theorem dX7_truthsNow_16 : decode cX7_truthsNow 16 = .ok (.iload 4, 2) := by decide +kernel
theorem dX7_truthsNow_18 : decode cX7_truthsNow 18 = .ok (.invokevirtual 198, 3) := by decide +kernel
theorem dX7_truthsNow_21 : decode cX7_truthsNow 21 = .ok (.ifCond .eq 10, 3) := by decide +kernel
theorem dX7_truthsNow_24 : decode cX7_truthsNow 24 = .ok (.iconst 1, 1) := by decide +kernel
theorem dX7_truthsNow_25 : decode cX7_truthsNow 25 = .ok (.iload 4, 2) := by decide +kernel
theorem dX7_truthsNow_27 : decode cX7_truthsNow 27 = .ok (.ishl, 1) := by decide +kernel
theorem dX7_truthsNow_28 : decode cX7_truthsNow 28 = .ok (.goto 4, 3) := by decide +kernel
theorem dX7_truthsNow_31 : decode cX7_truthsNow 31 = .ok (.iconst 0, 1) := by decide +kernel
theorem dX7_truthsNow_32 : decode cX7_truthsNow 32 = .ok (.ior, 1) := by decide +kernel
theorem dX7_truthsNow_33 : decode cX7_truthsNow 33 = .ok (.istore_n 3, 1) := by decide +kernel
theorem dX7_truthsNow_34 : decode cX7_truthsNow 34 = .ok (.iinc 4 1, 3) := by decide +kernel
theorem dX7_truthsNow_37 : decode cX7_truthsNow 37 = .ok (.goto (-32), 3) := by decide +kernel
theorem dX7_truthsNow_40 : decode cX7_truthsNow 40 = .ok (.iload_n 3, 1) := by decide +kernel
theorem dX7_truthsNow_41 : decode cX7_truthsNow 41 = .ok (.ireturn, 1) := by decide +kernel
set_option maxRecDepth 20000 in
theorem ggX7_truths_X7_isHeir : GoodIn wsX7_truths wsX7_isHeir := goodIn_r _ [5, 6, 7, 8, 4, 9, 32, 33, 34, 35, 36, 37, 38, 39, 40, 41, 42, 43, 44, 45, 46, 47, 48, 49, 50, 51, 52, 53, 54, 55, 56, 57, 58, 59, 60, 61, 62, 63, 64, 65, 66] (by decide +kernel) (by decide +kernel)
set_option maxRecDepth 20000 in
theorem gX7_truths_X7_isHeir : GoodIn wsX7_truths (wsV RX7 126 RX7 yX7_isHeir wsX7_isHeir) := goodIn_app (goodIn_of _ (by decide +kernel)) ggX7_truths_X7_isHeir
set_option maxRecDepth 20000 in
theorem ggX7_truths_X7_isThing : GoodIn wsX7_truths wsX7_isThing := goodIn_r _ [13, 6, 7, 8, 4, 9, 32, 33, 34, 35, 36, 37, 38, 39, 40, 41, 42, 43, 44, 45, 46, 47, 48, 49, 50, 51, 52, 53, 54, 55, 56, 57, 58, 59, 60, 61, 62, 63, 64, 65, 66] (by decide +kernel) (by decide +kernel)
set_option maxRecDepth 20000 in
theorem gX7_truths_X7_isThing : GoodIn wsX7_truths (wsV RX7 132 RX7 yX7_isThing wsX7_isThing) := goodIn_app (goodIn_of _ (by decide +kernel)) ggX7_truths_X7_isThing
set_option maxRecDepth 20000 in
theorem ggX7_truths_X7_truthsNow : GoodIn wsX7_truths wsX7_truthsNow := goodIn_r _ [17, 18, 19, 20, 4, 21, 22, 23, 24, 25, 26, 27, 28, 29, 30, 31, 32, 33, 34, 35, 36, 37, 38, 39, 40, 41, 42, 43, 44, 45, 46, 47, 48, 49, 50, 51, 52, 53, 54, 55, 56, 57, 58, 59, 60, 61, 62, 63, 64, 65, 66] (by decide +kernel) (by decide +kernel)
set_option maxRecDepth 20000 in
theorem gX7_truths_X7_truthsNow : GoodIn wsX7_truths (wsV RX7 201 RX7 yX7_truthsNow wsX7_truthsNow) := goodIn_app (goodIn_of _ (by decide +kernel)) ggX7_truths_X7_truthsNow
theorem dX7_truths_0 : decode cX7_truths 0 = .ok (.aload_n 0, 1) := by decide +kernel
theorem dX7_truths_1 : decode cX7_truths 1 = .ok (.iload_n 1, 1) := by decide +kernel
theorem dX7_truths_2 : decode cX7_truths 2 = .ok (.invokevirtual 126, 3) := by decide +kernel
theorem dX7_truths_5 : decode cX7_truths 5 = .ok (.ifCond .eq 20, 3) := by decide +kernel
theorem dX7_truths_8 : decode cX7_truths 8 = .ok (.aload_n 0, 1) := by decide +kernel
theorem dX7_truths_9 : decode cX7_truths 9 = .ok (.iload_n 2, 1) := by decide +kernel
theorem dX7_truths_10 : decode cX7_truths 10 = .ok (.invokevirtual 132, 3) := by decide +kernel
theorem dX7_truths_13 : decode cX7_truths 13 = .ok (.ifCond .eq 12, 3) := by decide +kernel
theorem dX7_truths_16 : decode cX7_truths 16 = .ok (.aload_n 0, 1) := by decide +kernel
theorem dX7_truths_17 : decode cX7_truths 17 = .ok (.iload_n 1, 1) := by decide +kernel
theorem dX7_truths_18 : decode cX7_truths 18 = .ok (.iload_n 2, 1) := by decide +kernel
theorem dX7_truths_19 : decode cX7_truths 19 = .ok (.invokevirtual 201, 3) := by decide +kernel
theorem dX7_truths_22 : decode cX7_truths 22 = .ok (.goto 5, 3) := by decide +kernel
theorem dX7_truths_25 : decode cX7_truths 25 = .ok (.bipush (-101), 2) := by decide +kernel
theorem dX7_truths_27 : decode cX7_truths 27 = .ok (.ireturn, 1) := by decide +kernel
set_option maxRecDepth 20000 in
theorem ggX7_askNow_X7_truthsNow : GoodIn wsX7_askNow wsX7_truthsNow := goodIn_r _ [7, 8, 9, 10, 6, 11, 12, 13, 14, 15, 16, 17, 18, 19, 20, 2, 24, 25, 26, 27, 28, 29, 30, 31, 32, 33, 34, 35, 36, 37, 38, 39, 40, 41, 42, 43, 44, 45, 46, 47, 48, 49, 50, 51, 52, 53, 54, 55, 56, 57, 58] (by decide +kernel) (by decide +kernel)
set_option maxRecDepth 20000 in
theorem gX7_askNow_X7_truthsNow : GoodIn wsX7_askNow (wsV RX7 201 RX7 yX7_truthsNow wsX7_truthsNow) := goodIn_app (goodIn_of _ (by decide +kernel)) ggX7_askNow_X7_truthsNow
set_option maxRecDepth 20000 in
theorem ggX7_askNow_X7_isIn : GoodIn wsX7_askNow wsX7_isIn := goodIn_r _ [23] (by decide +kernel) (by decide +kernel)
set_option maxRecDepth 20000 in
theorem gX7_askNow_X7_isIn : GoodIn wsX7_askNow (va_wsS RX7 113 yX7_isIn wsX7_isIn) := goodIn_app (goodIn_of _ (by decide +kernel)) ggX7_askNow_X7_isIn
theorem dX7_askNow_0 : decode cX7_askNow 0 = .ok (.aload_n 0, 1) := by decide +kernel
theorem dX7_askNow_1 : decode cX7_askNow 1 = .ok (.iload_n 1, 1) := by decide +kernel
theorem dX7_askNow_2 : decode cX7_askNow 2 = .ok (.iload_n 2, 1) := by decide +kernel
theorem dX7_askNow_3 : decode cX7_askNow 3 = .ok (.invokevirtual 201, 3) := by decide +kernel
theorem dX7_askNow_6 : decode cX7_askNow 6 = .ok (.istore_n 3, 1) := by decide +kernel
theorem dX7_askNow_7 : decode cX7_askNow 7 = .ok (.iconst (-1), 1) := by decide +kernel
theorem dX7_askNow_8 : decode cX7_askNow 8 = .ok (.istore 4, 2) := by decide +kernel
theorem dX7_askNow_10 : decode cX7_askNow 10 = .ok (.ldc 163, 2) := by decide +kernel
theorem dX7_askNow_12 : decode cX7_askNow 12 = .ok (.istore 5, 2) := by decide +kernel
theorem dX7_askNow_14 : decode cX7_askNow 14 = .ok (.iconst 0, 1) := by decide +kernel
theorem dX7_askNow_15 : decode cX7_askNow 15 = .ok (.istore 6, 2) := by decide +kernel
theorem dX7_askNow_17 : decode cX7_askNow 17 = .ok (.iload 6, 2) := by decide +kernel
theorem dX7_askNow_19 : decode cX7_askNow 19 = .ok (.iconst 4, 1) := by decide +kernel
theorem dX7_askNow_20 : decode cX7_askNow 20 = .ok (.if_icmp .ge 165, 3) := by decide +kernel
theorem dX7_askNow_23 : decode cX7_askNow 23 = .ok (.iload_n 3, 1) := by decide +kernel
theorem dX7_askNow_24 : decode cX7_askNow 24 = .ok (.ifCond .eq 161, 3) := by decide +kernel
theorem dX7_askNow_27 : decode cX7_askNow 27 = .ok (.iconst 0, 1) := by decide +kernel
theorem dX7_askNow_28 : decode cX7_askNow 28 = .ok (.istore 7, 2) := by decide +kernel
theorem dX7_askNow_30 : decode cX7_askNow 30 = .ok (.iconst 0, 1) := by decide +kernel
theorem dX7_askNow_31 : decode cX7_askNow 31 = .ok (.istore 8, 2) := by decide +kernel
theorem dX7_askNow_33 : decode cX7_askNow 33 = .ok (.iconst 0, 1) := by decide +kernel
theorem dX7_askNow_34 : decode cX7_askNow 34 = .ok (.istore 9, 2) := by decide +kernel
theorem dX7_askNow_36 : decode cX7_askNow 36 = .ok (.iload 9, 2) := by decide +kernel
theorem dX7_askNow_38 : decode cX7_askNow 38 = .ok (.bipush 9, 2) := by decide +kernel
theorem dX7_askNow_40 : decode cX7_askNow 40 = .ok (.if_icmp .gt 80, 3) := by decide +kernel
theorem dX7_askNow_43 : decode cX7_askNow 43 = .ok (.iload 9, 2) := by decide +kernel
theorem dX7_askNow_45 : decode cX7_askNow 45 = .ok (.aload_n 0, 1) := by decide +kernel
theorem dX7_askNow_46 : decode cX7_askNow 46 = .ok (.getfield 13, 3) := by decide +kernel
theorem dX7_askNow_49 : decode cX7_askNow 49 = .ok (.iconst 4, 1) := by decide +kernel
theorem dX7_askNow_50 : decode cX7_askNow 50 = .ok (.iload_n 1, 1) := by decide +kernel
theorem dX7_askNow_51 : decode cX7_askNow 51 = .ok (.imul, 1) := by decide +kernel
theorem dX7_askNow_52 : decode cX7_askNow 52 = .ok (.iload 6, 2) := by decide +kernel
theorem dX7_askNow_54 : decode cX7_askNow 54 = .ok (.iadd, 1) := by decide +kernel
theorem dX7_askNow_55 : decode cX7_askNow 55 = .ok (.iaload, 1) := by decide +kernel
theorem dX7_askNow_56 : decode cX7_askNow 56 = .ok (.if_icmp .le 7, 3) := by decide +kernel
theorem dX7_askNow_59 : decode cX7_askNow 59 = .ok (.iconst 1, 1) := by decide +kernel
theorem dX7_askNow_60 : decode cX7_askNow 60 = .ok (.goto 4, 3) := by decide +kernel
theorem dX7_askNow_63 : decode cX7_askNow 63 = .ok (.iconst 0, 1) := by decide +kernel
theorem dX7_askNow_64 : decode cX7_askNow 64 = .ok (.istore 10, 2) := by decide +kernel
theorem dX7_askNow_66 : decode cX7_askNow 66 = .ok (.iload 7, 2) := by decide +kernel
theorem dX7_askNow_68 : decode cX7_askNow 68 = .ok (.iload_n 3, 1) := by decide +kernel
theorem dX7_askNow_69 : decode cX7_askNow 69 = .ok (.iload 9, 2) := by decide +kernel
theorem dX7_askNow_71 : decode cX7_askNow 71 = .ok (.invokestatic 113, 3) := by decide +kernel
theorem dX7_askNow_74 : decode cX7_askNow 74 = .ok (.ifCond .eq 12, 3) := by decide +kernel
theorem dX7_askNow_77 : decode cX7_askNow 77 = .ok (.iload 10, 2) := by decide +kernel
theorem dX7_askNow_79 : decode cX7_askNow 79 = .ok (.ifCond .eq 7, 3) := by decide +kernel
theorem dX7_askNow_82 : decode cX7_askNow 82 = .ok (.iconst 1, 1) := by decide +kernel
theorem dX7_askNow_83 : decode cX7_askNow 83 = .ok (.goto 4, 3) := by decide +kernel
theorem dX7_askNow_86 : decode cX7_askNow 86 = .ok (.iconst 0, 1) := by decide +kernel
theorem dX7_askNow_87 : decode cX7_askNow 87 = .ok (.iadd, 1) := by decide +kernel
theorem dX7_askNow_88 : decode cX7_askNow 88 = .ok (.istore 7, 2) := by decide +kernel
theorem dX7_askNow_90 : decode cX7_askNow 90 = .ok (.iload 8, 2) := by decide +kernel
theorem dX7_askNow_92 : decode cX7_askNow 92 = .ok (.iload_n 3, 1) := by decide +kernel
theorem dX7_askNow_93 : decode cX7_askNow 93 = .ok (.iload 9, 2) := by decide +kernel
theorem dX7_askNow_95 : decode cX7_askNow 95 = .ok (.invokestatic 113, 3) := by decide +kernel
theorem dX7_askNow_98 : decode cX7_askNow 98 = .ok (.ifCond .eq 12, 3) := by decide +kernel
theorem dX7_askNow_101 : decode cX7_askNow 101 = .ok (.iload 10, 2) := by decide +kernel
theorem dX7_askNow_103 : decode cX7_askNow 103 = .ok (.ifCond .ne 7, 3) := by decide +kernel
theorem dX7_askNow_106 : decode cX7_askNow 106 = .ok (.iconst 1, 1) := by decide +kernel
theorem dX7_askNow_107 : decode cX7_askNow 107 = .ok (.goto 4, 3) := by decide +kernel
theorem dX7_askNow_110 : decode cX7_askNow 110 = .ok (.iconst 0, 1) := by decide +kernel
theorem dX7_askNow_111 : decode cX7_askNow 111 = .ok (.iadd, 1) := by decide +kernel
theorem dX7_askNow_112 : decode cX7_askNow 112 = .ok (.istore 8, 2) := by decide +kernel
theorem dX7_askNow_114 : decode cX7_askNow 114 = .ok (.iinc 9 1, 3) := by decide +kernel
theorem dX7_askNow_117 : decode cX7_askNow 117 = .ok (.goto (-81), 3) := by decide +kernel
theorem dX7_askNow_120 : decode cX7_askNow 120 = .ok (.iload 6, 2) := by decide +kernel
theorem dX7_askNow_122 : decode cX7_askNow 122 = .ok (.iload_n 2, 1) := by decide +kernel
theorem dX7_askNow_123 : decode cX7_askNow 123 = .ok (.if_icmp .ne 8, 3) := by decide +kernel
theorem dX7_askNow_126 : decode cX7_askNow 126 = .ok (.ldc 163, 2) := by decide +kernel
theorem dX7_askNow_128 : decode cX7_askNow 128 = .ok (.goto 17, 3) := by decide +kernel
theorem dX7_askNow_131 : decode cX7_askNow 131 = .ok (.iload 7, 2) := by decide +kernel
theorem dX7_askNow_133 : decode cX7_askNow 133 = .ok (.iload 8, 2) := by decide +kernel
theorem dX7_askNow_135 : decode cX7_askNow 135 = .ok (.if_icmp .le 8, 3) := by decide +kernel
theorem dX7_askNow_138 : decode cX7_askNow 138 = .ok (.iload 7, 2) := by decide +kernel
theorem dX7_askNow_140 : decode cX7_askNow 140 = .ok (.goto 5, 3) := by decide +kernel
theorem dX7_askNow_143 : decode cX7_askNow 143 = .ok (.iload 8, 2) := by decide +kernel
theorem dX7_askNow_145 : decode cX7_askNow 145 = .ok (.istore 9, 2) := by decide +kernel
theorem dX7_askNow_147 : decode cX7_askNow 147 = .ok (.iload 9, 2) := by decide +kernel
theorem dX7_askNow_149 : decode cX7_askNow 149 = .ok (.iload 5, 2) := by decide +kernel
theorem dX7_askNow_151 : decode cX7_askNow 151 = .ok (.if_icmp .ge 8, 3) := by decide +kernel
theorem dX7_askNow_154 : decode cX7_askNow 154 = .ok (.iload 6, 2) := by decide +kernel
theorem dX7_askNow_156 : decode cX7_askNow 156 = .ok (.goto 5, 3) := by decide +kernel
theorem dX7_askNow_159 : decode cX7_askNow 159 = .ok (.iload 4, 2) := by decide +kernel
theorem dX7_askNow_161 : decode cX7_askNow 161 = .ok (.istore 4, 2) := by decide +kernel
theorem dX7_askNow_163 : decode cX7_askNow 163 = .ok (.iload 9, 2) := by decide +kernel
theorem dX7_askNow_165 : decode cX7_askNow 165 = .ok (.iload 5, 2) := by decide +kernel
theorem dX7_askNow_167 : decode cX7_askNow 167 = .ok (.if_icmp .ge 8, 3) := by decide +kernel
theorem dX7_askNow_170 : decode cX7_askNow 170 = .ok (.iload 9, 2) := by decide +kernel
theorem dX7_askNow_172 : decode cX7_askNow 172 = .ok (.goto 5, 3) := by decide +kernel
theorem dX7_askNow_175 : decode cX7_askNow 175 = .ok (.iload 5, 2) := by decide +kernel
theorem dX7_askNow_177 : decode cX7_askNow 177 = .ok (.istore 5, 2) := by decide +kernel
theorem dX7_askNow_179 : decode cX7_askNow 179 = .ok (.iinc 6 1, 3) := by decide +kernel
theorem dX7_askNow_182 : decode cX7_askNow 182 = .ok (.goto (-165), 3) := by decide +kernel
theorem dX7_askNow_185 : decode cX7_askNow 185 = .ok (.iload 4, 2) := by decide +kernel
theorem dX7_askNow_187 : decode cX7_askNow 187 = .ok (.ireturn, 1) := by decide +kernel
set_option maxRecDepth 20000 in
theorem ggX7_ask_X7_isHeir : GoodIn wsX7_ask wsX7_isHeir := goodIn_r _ [5, 6, 7, 8, 4, 9, 40, 41, 42, 43, 44, 45, 46, 47, 48, 49, 50, 51, 52, 53, 54, 55, 56, 57, 58, 59, 60, 61, 62, 63, 64, 65, 66, 67, 68, 69, 70, 71, 72, 73, 74] (by decide +kernel) (by decide +kernel)
set_option maxRecDepth 20000 in
theorem gX7_ask_X7_isHeir : GoodIn wsX7_ask (wsV RX7 126 RX7 yX7_isHeir wsX7_isHeir) := goodIn_app (goodIn_of _ (by decide +kernel)) ggX7_ask_X7_isHeir
set_option maxRecDepth 20000 in
theorem ggX7_ask_X7_isThing : GoodIn wsX7_ask wsX7_isThing := goodIn_r _ [13, 6, 7, 8, 4, 9, 40, 41, 42, 43, 44, 45, 46, 47, 48, 49, 50, 51, 52, 53, 54, 55, 56, 57, 58, 59, 60, 61, 62, 63, 64, 65, 66, 67, 68, 69, 70, 71, 72, 73, 74] (by decide +kernel) (by decide +kernel)
set_option maxRecDepth 20000 in
theorem gX7_ask_X7_isThing : GoodIn wsX7_ask (wsV RX7 132 RX7 yX7_isThing wsX7_isThing) := goodIn_app (goodIn_of _ (by decide +kernel)) ggX7_ask_X7_isThing
set_option maxRecDepth 20000 in
theorem ggX7_ask_X7_askNow : GoodIn wsX7_ask wsX7_askNow := goodIn_r _ [17, 18, 19, 20, 21, 22, 4, 23, 24, 25, 26, 27, 28, 29, 30, 31, 32, 33, 34, 35, 36, 37, 38, 39, 40, 41, 42, 43, 44, 45, 46, 47, 48, 49, 50, 51, 52, 53, 54, 55, 56, 57, 58, 59, 60, 61, 62, 63, 64, 65, 66, 67, 68, 69, 70, 71, 72, 73, 74] (by decide +kernel) (by decide +kernel)
set_option maxRecDepth 20000 in
theorem gX7_ask_X7_askNow : GoodIn wsX7_ask (wsV RX7 204 RX7 yX7_askNow wsX7_askNow) := goodIn_app (goodIn_of _ (by decide +kernel)) ggX7_ask_X7_askNow
theorem dX7_ask_0 : decode cX7_ask 0 = .ok (.aload_n 0, 1) := by decide +kernel
theorem dX7_ask_1 : decode cX7_ask 1 = .ok (.iload_n 1, 1) := by decide +kernel
theorem dX7_ask_2 : decode cX7_ask 2 = .ok (.invokevirtual 126, 3) := by decide +kernel
theorem dX7_ask_5 : decode cX7_ask 5 = .ok (.ifCond .eq 20, 3) := by decide +kernel
theorem dX7_ask_8 : decode cX7_ask 8 = .ok (.aload_n 0, 1) := by decide +kernel
theorem dX7_ask_9 : decode cX7_ask 9 = .ok (.iload_n 2, 1) := by decide +kernel
theorem dX7_ask_10 : decode cX7_ask 10 = .ok (.invokevirtual 132, 3) := by decide +kernel
theorem dX7_ask_13 : decode cX7_ask 13 = .ok (.ifCond .eq 12, 3) := by decide +kernel
theorem dX7_ask_16 : decode cX7_ask 16 = .ok (.aload_n 0, 1) := by decide +kernel
theorem dX7_ask_17 : decode cX7_ask 17 = .ok (.iload_n 1, 1) := by decide +kernel
theorem dX7_ask_18 : decode cX7_ask 18 = .ok (.iload_n 2, 1) := by decide +kernel
theorem dX7_ask_19 : decode cX7_ask 19 = .ok (.invokevirtual 204, 3) := by decide +kernel
theorem dX7_ask_22 : decode cX7_ask 22 = .ok (.goto 5, 3) := by decide +kernel
theorem dX7_ask_25 : decode cX7_ask 25 = .ok (.bipush (-101), 2) := by decide +kernel
theorem dX7_ask_27 : decode cX7_ask 27 = .ok (.ireturn, 1) := by decide +kernel
theorem dX7_draw_0 : decode cX7_draw 0 = .ok (.aload_n 0, 1) := by decide +kernel
theorem dX7_draw_1 : decode cX7_draw 1 = .ok (.ldc2_w 207, 3) := by decide +kernel
theorem dX7_draw_4 : decode cX7_draw 4 = .ok (.aload_n 0, 1) := by decide +kernel
theorem dX7_draw_5 : decode cX7_draw 5 = .ok (.getfield 209, 3) := by decide +kernel
theorem dX7_draw_8 : decode cX7_draw 8 = .ok (.lmul, 1) := by decide +kernel
theorem dX7_draw_9 : decode cX7_draw 9 = .ok (.ldc2_w 213, 3) := by decide +kernel
theorem dX7_draw_12 : decode cX7_draw 12 = .ok (.ladd, 1) := by decide +kernel
theorem dX7_draw_13 : decode cX7_draw 13 = .ok (.ldc2_w 215, 3) := by decide +kernel
theorem dX7_draw_16 : decode cX7_draw 16 = .ok (.land, 1) := by decide +kernel
theorem dX7_draw_17 : decode cX7_draw 17 = .ok (.putfield 209, 3) := by decide +kernel
theorem dX7_draw_20 : decode cX7_draw 20 = .ok (.aload_n 0, 1) := by decide +kernel
theorem dX7_draw_21 : decode cX7_draw 21 = .ok (.getfield 209, 3) := by decide +kernel
theorem dX7_draw_24 : decode cX7_draw 24 = .ok (.ldc2_w 217, 3) := by decide +kernel
theorem dX7_draw_27 : decode cX7_draw 27 = .ok (.ldiv, 1) := by decide +kernel
theorem dX7_draw_28 : decode cX7_draw 28 = .ok (.iload_n 1, 1) := by decide +kernel
theorem dX7_draw_29 : decode cX7_draw 29 = .ok (.i2l, 1) := by decide +kernel
theorem dX7_draw_30 : decode cX7_draw 30 = .ok (.lrem, 1) := by decide +kernel
theorem dX7_draw_31 : decode cX7_draw 31 = .ok (.l2i, 1) := by decide +kernel
theorem dX7_draw_32 : decode cX7_draw 32 = .ok (.ireturn, 1) := by decide +kernel
set_option maxRecDepth 20000 in
theorem ggX7_contentMany_X7_isContent : GoodIn wsX7_contentMany wsX7_isContent := goodIn_r _ [6, 7, 8, 9, 10, 11, 12, 13, 14, 15, 16, 17, 18, 19, 20, 21, 22, 23, 24, 25, 26, 27, 28, 29, 30, 31, 32, 33, 34, 35, 36, 37, 38, 39, 40, 41, 42, 43] (by decide +kernel) (by decide +kernel)
set_option maxRecDepth 20000 in
theorem gX7_contentMany_X7_isContent : GoodIn wsX7_contentMany (wsV RX7 123 RX7 yX7_isContent wsX7_isContent) := goodIn_app (goodIn_of _ (by decide +kernel)) ggX7_contentMany_X7_isContent
theorem dX7_contentMany_0 : decode cX7_contentMany 0 = .ok (.iconst 0, 1) := by decide +kernel
theorem dX7_contentMany_1 : decode cX7_contentMany 1 = .ok (.istore_n 1, 1) := by decide +kernel
theorem dX7_contentMany_2 : decode cX7_contentMany 2 = .ok (.iconst 0, 1) := by decide +kernel
theorem dX7_contentMany_3 : decode cX7_contentMany 3 = .ok (.istore_n 2, 1) := by decide +kernel
theorem dX7_contentMany_4 : decode cX7_contentMany 4 = .ok (.iload_n 2, 1) := by decide +kernel
theorem dX7_contentMany_5 : decode cX7_contentMany 5 = .ok (.aload_n 0, 1) := by decide +kernel
theorem dX7_contentMany_6 : decode cX7_contentMany 6 = .ok (.getfield 91, 3) := by decide +kernel
theorem dX7_contentMany_9 : decode cX7_contentMany 9 = .ok (.if_icmp .ge 25, 3) := by decide +kernel
theorem dX7_contentMany_12 : decode cX7_contentMany 12 = .ok (.iload_n 1, 1) := by decide +kernel
theorem dX7_contentMany_13 : decode cX7_contentMany 13 = .ok (.aload_n 0, 1) := by decide +kernel
theorem dX7_contentMany_14 : decode cX7_contentMany 14 = .ok (.iload_n 2, 1) := by decide +kernel
theorem dX7_contentMany_15 : decode cX7_contentMany 15 = .ok (.invokevirtual 123, 3) := by decide +kernel
theorem dX7_contentMany_18 : decode cX7_contentMany 18 = .ok (.ifCond .eq 7, 3) := by decide +kernel
theorem dX7_contentMany_21 : decode cX7_contentMany 21 = .ok (.iconst 1, 1) := by decide +kernel
theorem dX7_contentMany_22 : decode cX7_contentMany 22 = .ok (.goto 4, 3) := by decide +kernel
theorem dX7_contentMany_25 : decode cX7_contentMany 25 = .ok (.iconst 0, 1) := by decide +kernel
theorem dX7_contentMany_26 : decode cX7_contentMany 26 = .ok (.iadd, 1) := by decide +kernel
theorem dX7_contentMany_27 : decode cX7_contentMany 27 = .ok (.istore_n 1, 1) := by decide +kernel
theorem dX7_contentMany_28 : decode cX7_contentMany 28 = .ok (.iinc 2 1, 3) := by decide +kernel
theorem dX7_contentMany_31 : decode cX7_contentMany 31 = .ok (.goto (-27), 3) := by decide +kernel
theorem dX7_contentMany_34 : decode cX7_contentMany 34 = .ok (.iload_n 1, 1) := by decide +kernel
theorem dX7_contentMany_35 : decode cX7_contentMany 35 = .ok (.ireturn, 1) := by decide +kernel
set_option maxRecDepth 20000 in
theorem ggX7_yearsNow_X7_draw : GoodIn wsX7_yearsNow wsX7_draw := goodIn_r _ [9, 10, 4, 11, 12, 13, 45, 46, 47, 48, 49, 50, 51, 52, 53, 54, 55, 56, 57, 58, 59, 60, 61, 62, 63, 64, 65, 66, 67, 68, 69, 70, 71, 72, 73, 74, 75, 76, 77, 78, 79] (by decide +kernel) (by decide +kernel)
set_option maxRecDepth 20000 in
theorem gX7_yearsNow_X7_draw : GoodIn wsX7_yearsNow (wsV RX7 219 RX7 yX7_draw wsX7_draw) := goodIn_app (goodIn_of _ (by decide +kernel)) ggX7_yearsNow_X7_draw
set_option maxRecDepth 20000 in
theorem ggX7_yearsNow_X7_mayNow : GoodIn wsX7_yearsNow wsX7_mayNow := goodIn_r _ [17, 3, 18, 19, 20, 8, 21, 1, 22, 23, 24, 25, 26, 27, 28, 29, 30, 31, 32, 33, 34, 35, 36, 45, 46, 47, 48, 49, 50, 51, 52, 53, 54, 55, 56, 57, 58, 59, 60, 61, 62, 63, 64, 65, 66, 67, 68, 69, 70, 71, 72, 73, 74, 75, 76, 77, 78, 79] (by decide +kernel) (by decide +kernel)
set_option maxRecDepth 20000 in
theorem gX7_yearsNow_X7_mayNow : GoodIn wsX7_yearsNow (wsV RX7 148 RX7 yX7_mayNow wsX7_mayNow) := goodIn_app (goodIn_of _ (by decide +kernel)) ggX7_yearsNow_X7_mayNow
set_option maxRecDepth 20000 in
theorem ggX7_yearsNow_X7_contentMany : GoodIn wsX7_yearsNow wsX7_contentMany := goodIn_r _ [40, 1, 41, 42, 43, 8, 44, 27, 3, 45, 46, 47, 48, 49, 50, 51, 52, 53, 54, 55, 56, 57, 58, 59, 60, 61, 62, 63, 64, 65, 66, 67, 68, 69, 70, 71, 72, 73, 74, 75, 76, 77, 78, 79] (by decide +kernel) (by decide +kernel)
set_option maxRecDepth 20000 in
theorem gX7_yearsNow_X7_contentMany : GoodIn wsX7_yearsNow (wsV RX7 222 RX7 yX7_contentMany wsX7_contentMany) := goodIn_app (goodIn_of _ (by decide +kernel)) ggX7_yearsNow_X7_contentMany
theorem dX7_yearsNow_0 : decode cX7_yearsNow 0 = .ok (.iconst 0, 1) := by decide +kernel
theorem dX7_yearsNow_1 : decode cX7_yearsNow 1 = .ok (.istore 4, 2) := by decide +kernel
theorem dX7_yearsNow_3 : decode cX7_yearsNow 3 = .ok (.iload 4, 2) := by decide +kernel
theorem dX7_yearsNow_5 : decode cX7_yearsNow 5 = .ok (.aload_n 0, 1) := by decide +kernel
theorem dX7_yearsNow_6 : decode cX7_yearsNow 6 = .ok (.getfield 91, 3) := by decide +kernel
theorem dX7_yearsNow_9 : decode cX7_yearsNow 9 = .ok (.if_icmp .ge 23, 3) := by decide +kernel
theorem dX7_yearsNow_12 : decode cX7_yearsNow 12 = .ok (.aload_n 0, 1) := by decide +kernel
theorem dX7_yearsNow_13 : decode cX7_yearsNow 13 = .ok (.getfield 47, 3) := by decide +kernel
theorem dX7_yearsNow_16 : decode cX7_yearsNow 16 = .ok (.iload 4, 2) := by decide +kernel
theorem dX7_yearsNow_18 : decode cX7_yearsNow 18 = .ok (.aload_n 0, 1) := by decide +kernel
theorem dX7_yearsNow_19 : decode cX7_yearsNow 19 = .ok (.getfield 16, 3) := by decide +kernel
theorem dX7_yearsNow_22 : decode cX7_yearsNow 22 = .ok (.iload 4, 2) := by decide +kernel
theorem dX7_yearsNow_24 : decode cX7_yearsNow 24 = .ok (.iaload, 1) := by decide +kernel
theorem dX7_yearsNow_25 : decode cX7_yearsNow 25 = .ok (.iastore, 1) := by decide +kernel
theorem dX7_yearsNow_26 : decode cX7_yearsNow 26 = .ok (.iinc 4 1, 3) := by decide +kernel
theorem dX7_yearsNow_29 : decode cX7_yearsNow 29 = .ok (.goto (-26), 3) := by decide +kernel
theorem dX7_yearsNow_32 : decode cX7_yearsNow 32 = .ok (.aload_n 0, 1) := by decide +kernel
theorem dX7_yearsNow_33 : decode cX7_yearsNow 33 = .ok (.iload_n 2, 1) := by decide +kernel
theorem dX7_yearsNow_34 : decode cX7_yearsNow 34 = .ok (.i2l, 1) := by decide +kernel
theorem dX7_yearsNow_35 : decode cX7_yearsNow 35 = .ok (.putfield 209, 3) := by decide +kernel
theorem dX7_yearsNow_38 : decode cX7_yearsNow 38 = .ok (.iconst 0, 1) := by decide +kernel
theorem dX7_yearsNow_39 : decode cX7_yearsNow 39 = .ok (.istore 4, 2) := by decide +kernel
theorem dX7_yearsNow_41 : decode cX7_yearsNow 41 = .ok (.iconst 0, 1) := by decide +kernel
theorem dX7_yearsNow_42 : decode cX7_yearsNow 42 = .ok (.istore 5, 2) := by decide +kernel
theorem dX7_yearsNow_44 : decode cX7_yearsNow 44 = .ok (.iload 5, 2) := by decide +kernel
theorem dX7_yearsNow_46 : decode cX7_yearsNow 46 = .ok (.iload_n 1, 1) := by decide +kernel
theorem dX7_yearsNow_47 : decode cX7_yearsNow 47 = .ok (.if_icmp .ge 83, 3) := by decide +kernel
theorem dX7_yearsNow_50 : decode cX7_yearsNow 50 = .ok (.aload_n 0, 1) := by decide +kernel
theorem dX7_yearsNow_51 : decode cX7_yearsNow 51 = .ok (.aload_n 0, 1) := by decide +kernel
theorem dX7_yearsNow_52 : decode cX7_yearsNow 52 = .ok (.getfield 91, 3) := by decide +kernel
theorem dX7_yearsNow_55 : decode cX7_yearsNow 55 = .ok (.invokevirtual 219, 3) := by decide +kernel
theorem dX7_yearsNow_58 : decode cX7_yearsNow 58 = .ok (.istore 6, 2) := by decide +kernel
theorem dX7_yearsNow_60 : decode cX7_yearsNow 60 = .ok (.aload_n 0, 1) := by decide +kernel
theorem dX7_yearsNow_61 : decode cX7_yearsNow 61 = .ok (.aload_n 0, 1) := by decide +kernel
theorem dX7_yearsNow_62 : decode cX7_yearsNow 62 = .ok (.getfield 91, 3) := by decide +kernel
theorem dX7_yearsNow_65 : decode cX7_yearsNow 65 = .ok (.invokevirtual 219, 3) := by decide +kernel
theorem dX7_yearsNow_68 : decode cX7_yearsNow 68 = .ok (.istore 7, 2) := by decide +kernel
theorem dX7_yearsNow_70 : decode cX7_yearsNow 70 = .ok (.iload 6, 2) := by decide +kernel
theorem dX7_yearsNow_72 : decode cX7_yearsNow 72 = .ok (.iload 7, 2) := by decide +kernel
theorem dX7_yearsNow_74 : decode cX7_yearsNow 74 = .ok (.if_icmp .eq 50, 3) := by decide +kernel
theorem dX7_yearsNow_77 : decode cX7_yearsNow 77 = .ok (.aload_n 0, 1) := by decide +kernel
theorem dX7_yearsNow_78 : decode cX7_yearsNow 78 = .ok (.iload 6, 2) := by decide +kernel
theorem dX7_yearsNow_80 : decode cX7_yearsNow 80 = .ok (.iload 7, 2) := by decide +kernel
theorem dX7_yearsNow_82 : decode cX7_yearsNow 82 = .ok (.invokevirtual 148, 3) := by decide +kernel
theorem dX7_yearsNow_85 : decode cX7_yearsNow 85 = .ok (.iconst 3, 1) := by decide +kernel
theorem dX7_yearsNow_86 : decode cX7_yearsNow 86 = .ok (.if_icmp .ne 38, 3) := by decide +kernel
theorem dX7_yearsNow_89 : decode cX7_yearsNow 89 = .ok (.aload_n 0, 1) := by decide +kernel
theorem dX7_yearsNow_90 : decode cX7_yearsNow 90 = .ok (.getfield 16, 3) := by decide +kernel
theorem dX7_yearsNow_93 : decode cX7_yearsNow 93 = .ok (.iload 6, 2) := by decide +kernel
theorem dX7_yearsNow_95 : decode cX7_yearsNow 95 = .ok (.iaload, 1) := by decide +kernel
theorem dX7_yearsNow_96 : decode cX7_yearsNow 96 = .ok (.istore 8, 2) := by decide +kernel
theorem dX7_yearsNow_98 : decode cX7_yearsNow 98 = .ok (.aload_n 0, 1) := by decide +kernel
theorem dX7_yearsNow_99 : decode cX7_yearsNow 99 = .ok (.getfield 16, 3) := by decide +kernel
theorem dX7_yearsNow_102 : decode cX7_yearsNow 102 = .ok (.iload 6, 2) := by decide +kernel
theorem dX7_yearsNow_104 : decode cX7_yearsNow 104 = .ok (.aload_n 0, 1) := by decide +kernel
theorem dX7_yearsNow_105 : decode cX7_yearsNow 105 = .ok (.getfield 16, 3) := by decide +kernel
theorem dX7_yearsNow_108 : decode cX7_yearsNow 108 = .ok (.iload 7, 2) := by decide +kernel
theorem dX7_yearsNow_110 : decode cX7_yearsNow 110 = .ok (.iaload, 1) := by decide +kernel
theorem dX7_yearsNow_111 : decode cX7_yearsNow 111 = .ok (.iastore, 1) := by decide +kernel
theorem dX7_yearsNow_112 : decode cX7_yearsNow 112 = .ok (.aload_n 0, 1) := by decide +kernel
theorem dX7_yearsNow_113 : decode cX7_yearsNow 113 = .ok (.getfield 16, 3) := by decide +kernel
theorem dX7_yearsNow_116 : decode cX7_yearsNow 116 = .ok (.iload 7, 2) := by decide +kernel
theorem dX7_yearsNow_118 : decode cX7_yearsNow 118 = .ok (.iload 8, 2) := by decide +kernel
theorem dX7_yearsNow_120 : decode cX7_yearsNow 120 = .ok (.iastore, 1) := by decide +kernel
theorem dX7_yearsNow_121 : decode cX7_yearsNow 121 = .ok (.iinc 4 1, 3) := by decide +kernel
theorem dX7_yearsNow_124 : decode cX7_yearsNow 124 = .ok (.iinc 5 1, 3) := by decide +kernel
theorem dX7_yearsNow_127 : decode cX7_yearsNow 127 = .ok (.goto (-83), 3) := by decide +kernel
theorem dX7_yearsNow_130 : decode cX7_yearsNow 130 = .ok (.aload_n 0, 1) := by decide +kernel
theorem dX7_yearsNow_131 : decode cX7_yearsNow 131 = .ok (.invokevirtual 222, 3) := by decide +kernel
theorem dX7_yearsNow_134 : decode cX7_yearsNow 134 = .ok (.istore 5, 2) := by decide +kernel
theorem dX7_yearsNow_136 : decode cX7_yearsNow 136 = .ok (.iconst 0, 1) := by decide +kernel
theorem dX7_yearsNow_137 : decode cX7_yearsNow 137 = .ok (.istore 6, 2) := by decide +kernel
theorem dX7_yearsNow_139 : decode cX7_yearsNow 139 = .ok (.iload 6, 2) := by decide +kernel
theorem dX7_yearsNow_141 : decode cX7_yearsNow 141 = .ok (.aload_n 0, 1) := by decide +kernel
theorem dX7_yearsNow_142 : decode cX7_yearsNow 142 = .ok (.getfield 91, 3) := by decide +kernel
theorem dX7_yearsNow_145 : decode cX7_yearsNow 145 = .ok (.if_icmp .ge 23, 3) := by decide +kernel
theorem dX7_yearsNow_148 : decode cX7_yearsNow 148 = .ok (.aload_n 0, 1) := by decide +kernel
theorem dX7_yearsNow_149 : decode cX7_yearsNow 149 = .ok (.getfield 16, 3) := by decide +kernel
theorem dX7_yearsNow_152 : decode cX7_yearsNow 152 = .ok (.iload 6, 2) := by decide +kernel
theorem dX7_yearsNow_154 : decode cX7_yearsNow 154 = .ok (.aload_n 0, 1) := by decide +kernel
theorem dX7_yearsNow_155 : decode cX7_yearsNow 155 = .ok (.getfield 47, 3) := by decide +kernel
theorem dX7_yearsNow_158 : decode cX7_yearsNow 158 = .ok (.iload 6, 2) := by decide +kernel
theorem dX7_yearsNow_160 : decode cX7_yearsNow 160 = .ok (.iaload, 1) := by decide +kernel
theorem dX7_yearsNow_161 : decode cX7_yearsNow 161 = .ok (.iastore, 1) := by decide +kernel
theorem dX7_yearsNow_162 : decode cX7_yearsNow 162 = .ok (.iinc 6 1, 3) := by decide +kernel
theorem dX7_yearsNow_165 : decode cX7_yearsNow 165 = .ok (.goto (-26), 3) := by decide +kernel
theorem dX7_yearsNow_168 : decode cX7_yearsNow 168 = .ok (.iload_n 3, 1) := by decide +kernel
theorem dX7_yearsNow_169 : decode cX7_yearsNow 169 = .ok (.ifCond .ne 8, 3) := by decide +kernel
theorem dX7_yearsNow_172 : decode cX7_yearsNow 172 = .ok (.iload 4, 2) := by decide +kernel
theorem dX7_yearsNow_174 : decode cX7_yearsNow 174 = .ok (.goto 18, 3) := by decide +kernel
theorem dX7_yearsNow_177 : decode cX7_yearsNow 177 = .ok (.iload_n 3, 1) := by decide +kernel
theorem dX7_yearsNow_178 : decode cX7_yearsNow 178 = .ok (.iconst 1, 1) := by decide +kernel
theorem dX7_yearsNow_179 : decode cX7_yearsNow 179 = .ok (.if_icmp .ne 8, 3) := by decide +kernel
theorem dX7_yearsNow_182 : decode cX7_yearsNow 182 = .ok (.iload 5, 2) := by decide +kernel
theorem dX7_yearsNow_184 : decode cX7_yearsNow 184 = .ok (.goto 8, 3) := by decide +kernel
theorem dX7_yearsNow_187 : decode cX7_yearsNow 187 = .ok (.aload_n 0, 1) := by decide +kernel
theorem dX7_yearsNow_188 : decode cX7_yearsNow 188 = .ok (.getfield 209, 3) := by decide +kernel
theorem dX7_yearsNow_191 : decode cX7_yearsNow 191 = .ok (.l2i, 1) := by decide +kernel
theorem dX7_yearsNow_192 : decode cX7_yearsNow 192 = .ok (.ireturn, 1) := by decide +kernel
set_option maxRecDepth 20000 in
theorem ggX7_years_X7_within : GoodIn wsX7_years wsX7_within := goodIn_r _ [5] (by decide +kernel) (by decide +kernel)
set_option maxRecDepth 20000 in
theorem gX7_years_X7_within : GoodIn wsX7_years (va_wsS RX7 71 yX7_within wsX7_within) := goodIn_app (goodIn_of _ (by decide +kernel)) ggX7_years_X7_within
set_option maxRecDepth 20000 in
theorem ggX7_years_X7_yearsNow : GoodIn wsX7_years wsX7_yearsNow := goodIn_r _ [9, 1, 10, 11, 12, 13, 14, 15, 4, 16, 17, 18, 19, 20, 21, 22, 23, 24, 25, 26, 27, 28, 29, 30, 31, 32, 33, 34, 35, 36, 37, 38, 39, 40, 41, 42, 43, 44, 45, 46, 47, 48, 49, 50, 51, 52, 53, 54, 55, 56, 57, 58, 59, 60, 61, 62, 63, 64, 65, 66, 67, 68, 69, 70, 71, 72, 73, 74, 75, 76, 77, 78, 79, 80, 81, 82, 83, 84, 85, 86] (by decide +kernel) (by decide +kernel)
set_option maxRecDepth 20000 in
theorem gX7_years_X7_yearsNow : GoodIn wsX7_years (wsV RX7 225 RX7 yX7_yearsNow wsX7_yearsNow) := goodIn_app (goodIn_of _ (by decide +kernel)) ggX7_years_X7_yearsNow
theorem dX7_years_0 : decode cX7_years 0 = .ok (.iload_n 1, 1) := by decide +kernel
theorem dX7_years_1 : decode cX7_years 1 = .ok (.iconst 1, 1) := by decide +kernel
theorem dX7_years_2 : decode cX7_years 2 = .ok (.bipush 60, 2) := by decide +kernel
theorem dX7_years_4 : decode cX7_years 4 = .ok (.invokestatic 71, 3) := by decide +kernel
theorem dX7_years_7 : decode cX7_years 7 = .ok (.ifCond .eq 16, 3) := by decide +kernel
theorem dX7_years_10 : decode cX7_years 10 = .ok (.iload_n 2, 1) := by decide +kernel
theorem dX7_years_11 : decode cX7_years 11 = .ok (.ifCond .lt 12, 3) := by decide +kernel
theorem dX7_years_14 : decode cX7_years 14 = .ok (.iload_n 3, 1) := by decide +kernel
theorem dX7_years_15 : decode cX7_years 15 = .ok (.iconst 0, 1) := by decide +kernel
theorem dX7_years_16 : decode cX7_years 16 = .ok (.iconst 2, 1) := by decide +kernel
theorem dX7_years_17 : decode cX7_years 17 = .ok (.invokestatic 71, 3) := by decide +kernel
theorem dX7_years_20 : decode cX7_years 20 = .ok (.ifCond .ne 6, 3) := by decide +kernel
theorem dX7_years_23 : decode cX7_years 23 = .ok (.bipush (-102), 2) := by decide +kernel
theorem dX7_years_25 : decode cX7_years 25 = .ok (.ireturn, 1) := by decide +kernel
theorem dX7_years_26 : decode cX7_years 26 = .ok (.aload_n 0, 1) := by decide +kernel
theorem dX7_years_27 : decode cX7_years 27 = .ok (.getfield 91, 3) := by decide +kernel
theorem dX7_years_30 : decode cX7_years 30 = .ok (.ifCond .ne 8, 3) := by decide +kernel
theorem dX7_years_33 : decode cX7_years 33 = .ok (.bipush (-103), 2) := by decide +kernel
theorem dX7_years_35 : decode cX7_years 35 = .ok (.goto 10, 3) := by decide +kernel
theorem dX7_years_38 : decode cX7_years 38 = .ok (.aload_n 0, 1) := by decide +kernel
theorem dX7_years_39 : decode cX7_years 39 = .ok (.iload_n 1, 1) := by decide +kernel
theorem dX7_years_40 : decode cX7_years 40 = .ok (.iload_n 2, 1) := by decide +kernel
theorem dX7_years_41 : decode cX7_years 41 = .ok (.iload_n 3, 1) := by decide +kernel
theorem dX7_years_42 : decode cX7_years 42 = .ok (.invokevirtual 225, 3) := by decide +kernel
theorem dX7_years_45 : decode cX7_years 45 = .ok (.ireturn, 1) := by decide +kernel
theorem dX7_image_0 : decode cX7_image 0 = .ok (.aload_n 0, 1) := by decide +kernel
theorem dX7_image_1 : decode cX7_image 1 = .ok (.getfield 91, 3) := by decide +kernel
theorem dX7_image_4 : decode cX7_image 4 = .ok (.ifCond .ne 6, 3) := by decide +kernel
theorem dX7_image_7 : decode cX7_image 7 = .ok (.bipush (-103), 2) := by decide +kernel
theorem dX7_image_9 : decode cX7_image 9 = .ok (.ireturn, 1) := by decide +kernel
theorem dX7_image_10 : decode cX7_image 10 = .ok (.aload_n 0, 1) := by decide +kernel
theorem dX7_image_11 : decode cX7_image 11 = .ok (.iconst 1, 1) := by decide +kernel
theorem dX7_image_12 : decode cX7_image 12 = .ok (.putfield 229, 3) := by decide +kernel
theorem dX7_image_15 : decode cX7_image 15 = .ok (.aload_n 0, 1) := by decide +kernel
theorem dX7_image_16 : decode cX7_image 16 = .ok (.aload_n 0, 1) := by decide +kernel
theorem dX7_image_17 : decode cX7_image 17 = .ok (.getfield 94, 3) := by decide +kernel
theorem dX7_image_20 : decode cX7_image 20 = .ok (.putfield 233, 3) := by decide +kernel
theorem dX7_image_23 : decode cX7_image 23 = .ok (.aload_n 0, 1) := by decide +kernel
theorem dX7_image_24 : decode cX7_image 24 = .ok (.aload_n 0, 1) := by decide +kernel
theorem dX7_image_25 : decode cX7_image 25 = .ok (.getfield 97, 3) := by decide +kernel
theorem dX7_image_28 : decode cX7_image 28 = .ok (.putfield 236, 3) := by decide +kernel
theorem dX7_image_31 : decode cX7_image 31 = .ok (.aload_n 0, 1) := by decide +kernel
theorem dX7_image_32 : decode cX7_image 32 = .ok (.aload_n 0, 1) := by decide +kernel
theorem dX7_image_33 : decode cX7_image 33 = .ok (.getfield 100, 3) := by decide +kernel
theorem dX7_image_36 : decode cX7_image 36 = .ok (.putfield 239, 3) := by decide +kernel
theorem dX7_image_39 : decode cX7_image 39 = .ok (.iconst 0, 1) := by decide +kernel
theorem dX7_image_40 : decode cX7_image 40 = .ok (.istore_n 1, 1) := by decide +kernel
theorem dX7_image_41 : decode cX7_image 41 = .ok (.iload_n 1, 1) := by decide +kernel
theorem dX7_image_42 : decode cX7_image 42 = .ok (.bipush 16, 2) := by decide +kernel
theorem dX7_image_44 : decode cX7_image 44 = .ok (.if_icmp .ge 21, 3) := by decide +kernel
theorem dX7_image_47 : decode cX7_image 47 = .ok (.aload_n 0, 1) := by decide +kernel
theorem dX7_image_48 : decode cX7_image 48 = .ok (.getfield 50, 3) := by decide +kernel
theorem dX7_image_51 : decode cX7_image 51 = .ok (.iload_n 1, 1) := by decide +kernel
theorem dX7_image_52 : decode cX7_image 52 = .ok (.aload_n 0, 1) := by decide +kernel
theorem dX7_image_53 : decode cX7_image 53 = .ok (.getfield 13, 3) := by decide +kernel
theorem dX7_image_56 : decode cX7_image 56 = .ok (.iload_n 1, 1) := by decide +kernel
theorem dX7_image_57 : decode cX7_image 57 = .ok (.iaload, 1) := by decide +kernel
theorem dX7_image_58 : decode cX7_image 58 = .ok (.iastore, 1) := by decide +kernel
theorem dX7_image_59 : decode cX7_image 59 = .ok (.iinc 1 1, 3) := by decide +kernel
theorem dX7_image_62 : decode cX7_image 62 = .ok (.goto (-21), 3) := by decide +kernel
theorem dX7_image_65 : decode cX7_image 65 = .ok (.iconst 0, 1) := by decide +kernel
theorem dX7_image_66 : decode cX7_image 66 = .ok (.istore_n 1, 1) := by decide +kernel
theorem dX7_image_67 : decode cX7_image 67 = .ok (.iload_n 1, 1) := by decide +kernel
theorem dX7_image_68 : decode cX7_image 68 = .ok (.iconst 4, 1) := by decide +kernel
theorem dX7_image_69 : decode cX7_image 69 = .ok (.if_icmp .ge 33, 3) := by decide +kernel
theorem dX7_image_72 : decode cX7_image 72 = .ok (.aload_n 0, 1) := by decide +kernel
theorem dX7_image_73 : decode cX7_image 73 = .ok (.getfield 53, 3) := by decide +kernel
theorem dX7_image_76 : decode cX7_image 76 = .ok (.iload_n 1, 1) := by decide +kernel
theorem dX7_image_77 : decode cX7_image 77 = .ok (.aload_n 0, 1) := by decide +kernel
theorem dX7_image_78 : decode cX7_image 78 = .ok (.getfield 16, 3) := by decide +kernel
theorem dX7_image_81 : decode cX7_image 81 = .ok (.iload_n 1, 1) := by decide +kernel
theorem dX7_image_82 : decode cX7_image 82 = .ok (.iaload, 1) := by decide +kernel
theorem dX7_image_83 : decode cX7_image 83 = .ok (.iastore, 1) := by decide +kernel
theorem dX7_image_84 : decode cX7_image 84 = .ok (.aload_n 0, 1) := by decide +kernel
theorem dX7_image_85 : decode cX7_image 85 = .ok (.getfield 56, 3) := by decide +kernel
theorem dX7_image_88 : decode cX7_image 88 = .ok (.iload_n 1, 1) := by decide +kernel
theorem dX7_image_89 : decode cX7_image 89 = .ok (.aload_n 0, 1) := by decide +kernel
theorem dX7_image_90 : decode cX7_image 90 = .ok (.getfield 19, 3) := by decide +kernel
theorem dX7_image_93 : decode cX7_image 93 = .ok (.iload_n 1, 1) := by decide +kernel
theorem dX7_image_94 : decode cX7_image 94 = .ok (.iaload, 1) := by decide +kernel
theorem dX7_image_95 : decode cX7_image 95 = .ok (.iastore, 1) := by decide +kernel
theorem dX7_image_96 : decode cX7_image 96 = .ok (.iinc 1 1, 3) := by decide +kernel
theorem dX7_image_99 : decode cX7_image 99 = .ok (.goto (-32), 3) := by decide +kernel
theorem dX7_image_102 : decode cX7_image 102 = .ok (.iconst 0, 1) := by decide +kernel
theorem dX7_image_103 : decode cX7_image 103 = .ok (.istore_n 1, 1) := by decide +kernel
theorem dX7_image_104 : decode cX7_image 104 = .ok (.iload_n 1, 1) := by decide +kernel
theorem dX7_image_105 : decode cX7_image 105 = .ok (.bipush 6, 2) := by decide +kernel
theorem dX7_image_107 : decode cX7_image 107 = .ok (.if_icmp .ge 57, 3) := by decide +kernel
theorem dX7_image_110 : decode cX7_image 110 = .ok (.aload_n 0, 1) := by decide +kernel
theorem dX7_image_111 : decode cX7_image 111 = .ok (.getfield 59, 3) := by decide +kernel
theorem dX7_image_114 : decode cX7_image 114 = .ok (.iload_n 1, 1) := by decide +kernel
theorem dX7_image_115 : decode cX7_image 115 = .ok (.aload_n 0, 1) := by decide +kernel
theorem dX7_image_116 : decode cX7_image 116 = .ok (.getfield 22, 3) := by decide +kernel
theorem dX7_image_119 : decode cX7_image 119 = .ok (.iload_n 1, 1) := by decide +kernel
theorem dX7_image_120 : decode cX7_image 120 = .ok (.iaload, 1) := by decide +kernel
theorem dX7_image_121 : decode cX7_image 121 = .ok (.iastore, 1) := by decide +kernel
theorem dX7_image_122 : decode cX7_image 122 = .ok (.aload_n 0, 1) := by decide +kernel
theorem dX7_image_123 : decode cX7_image 123 = .ok (.getfield 62, 3) := by decide +kernel
theorem dX7_image_126 : decode cX7_image 126 = .ok (.iload_n 1, 1) := by decide +kernel
theorem dX7_image_127 : decode cX7_image 127 = .ok (.aload_n 0, 1) := by decide +kernel
theorem dX7_image_128 : decode cX7_image 128 = .ok (.getfield 25, 3) := by decide +kernel
theorem dX7_image_131 : decode cX7_image 131 = .ok (.iload_n 1, 1) := by decide +kernel
theorem dX7_image_132 : decode cX7_image 132 = .ok (.iaload, 1) := by decide +kernel
theorem dX7_image_133 : decode cX7_image 133 = .ok (.iastore, 1) := by decide +kernel
theorem dX7_image_134 : decode cX7_image 134 = .ok (.aload_n 0, 1) := by decide +kernel
theorem dX7_image_135 : decode cX7_image 135 = .ok (.getfield 65, 3) := by decide +kernel
theorem dX7_image_138 : decode cX7_image 138 = .ok (.iload_n 1, 1) := by decide +kernel
theorem dX7_image_139 : decode cX7_image 139 = .ok (.aload_n 0, 1) := by decide +kernel
theorem dX7_image_140 : decode cX7_image 140 = .ok (.getfield 28, 3) := by decide +kernel
theorem dX7_image_143 : decode cX7_image 143 = .ok (.iload_n 1, 1) := by decide +kernel
theorem dX7_image_144 : decode cX7_image 144 = .ok (.iaload, 1) := by decide +kernel
theorem dX7_image_145 : decode cX7_image 145 = .ok (.iastore, 1) := by decide +kernel
theorem dX7_image_146 : decode cX7_image 146 = .ok (.aload_n 0, 1) := by decide +kernel
theorem dX7_image_147 : decode cX7_image 147 = .ok (.getfield 68, 3) := by decide +kernel
theorem dX7_image_150 : decode cX7_image 150 = .ok (.iload_n 1, 1) := by decide +kernel
theorem dX7_image_151 : decode cX7_image 151 = .ok (.aload_n 0, 1) := by decide +kernel
theorem dX7_image_152 : decode cX7_image 152 = .ok (.getfield 31, 3) := by decide +kernel
theorem dX7_image_155 : decode cX7_image 155 = .ok (.iload_n 1, 1) := by decide +kernel
theorem dX7_image_156 : decode cX7_image 156 = .ok (.iaload, 1) := by decide +kernel
theorem dX7_image_157 : decode cX7_image 157 = .ok (.iastore, 1) := by decide +kernel
theorem dX7_image_158 : decode cX7_image 158 = .ok (.iinc 1 1, 3) := by decide +kernel
theorem dX7_image_161 : decode cX7_image 161 = .ok (.goto (-57), 3) := by decide +kernel
theorem dX7_image_164 : decode cX7_image 164 = .ok (.aload_n 0, 1) := by decide +kernel
theorem dX7_image_165 : decode cX7_image 165 = .ok (.getfield 97, 3) := by decide +kernel
theorem dX7_image_168 : decode cX7_image 168 = .ok (.ireturn, 1) := by decide +kernel
theorem dX7_restore_0 : decode cX7_restore 0 = .ok (.aload_n 0, 1) := by decide +kernel
theorem dX7_restore_1 : decode cX7_restore 1 = .ok (.getfield 229, 3) := by decide +kernel
theorem dX7_restore_4 : decode cX7_restore 4 = .ok (.ifCond .eq 14, 3) := by decide +kernel
theorem dX7_restore_7 : decode cX7_restore 7 = .ok (.aload_n 0, 1) := by decide +kernel
theorem dX7_restore_8 : decode cX7_restore 8 = .ok (.getfield 233, 3) := by decide +kernel
theorem dX7_restore_11 : decode cX7_restore 11 = .ok (.aload_n 0, 1) := by decide +kernel
theorem dX7_restore_12 : decode cX7_restore 12 = .ok (.getfield 94, 3) := by decide +kernel
theorem dX7_restore_15 : decode cX7_restore 15 = .ok (.if_icmp .eq 6, 3) := by decide +kernel
theorem dX7_restore_18 : decode cX7_restore 18 = .ok (.bipush (-103), 2) := by decide +kernel
theorem dX7_restore_20 : decode cX7_restore 20 = .ok (.ireturn, 1) := by decide +kernel
theorem dX7_restore_21 : decode cX7_restore 21 = .ok (.aload_n 0, 1) := by decide +kernel
theorem dX7_restore_22 : decode cX7_restore 22 = .ok (.aload_n 0, 1) := by decide +kernel
theorem dX7_restore_23 : decode cX7_restore 23 = .ok (.getfield 236, 3) := by decide +kernel
theorem dX7_restore_26 : decode cX7_restore 26 = .ok (.putfield 97, 3) := by decide +kernel
theorem dX7_restore_29 : decode cX7_restore 29 = .ok (.aload_n 0, 1) := by decide +kernel
theorem dX7_restore_30 : decode cX7_restore 30 = .ok (.aload_n 0, 1) := by decide +kernel
theorem dX7_restore_31 : decode cX7_restore 31 = .ok (.getfield 239, 3) := by decide +kernel
theorem dX7_restore_34 : decode cX7_restore 34 = .ok (.putfield 100, 3) := by decide +kernel
theorem dX7_restore_37 : decode cX7_restore 37 = .ok (.iconst 0, 1) := by decide +kernel
theorem dX7_restore_38 : decode cX7_restore 38 = .ok (.istore_n 1, 1) := by decide +kernel
theorem dX7_restore_39 : decode cX7_restore 39 = .ok (.iload_n 1, 1) := by decide +kernel
theorem dX7_restore_40 : decode cX7_restore 40 = .ok (.bipush 16, 2) := by decide +kernel
theorem dX7_restore_42 : decode cX7_restore 42 = .ok (.if_icmp .ge 21, 3) := by decide +kernel
theorem dX7_restore_45 : decode cX7_restore 45 = .ok (.aload_n 0, 1) := by decide +kernel
theorem dX7_restore_46 : decode cX7_restore 46 = .ok (.getfield 13, 3) := by decide +kernel
theorem dX7_restore_49 : decode cX7_restore 49 = .ok (.iload_n 1, 1) := by decide +kernel
theorem dX7_restore_50 : decode cX7_restore 50 = .ok (.aload_n 0, 1) := by decide +kernel
theorem dX7_restore_51 : decode cX7_restore 51 = .ok (.getfield 50, 3) := by decide +kernel
theorem dX7_restore_54 : decode cX7_restore 54 = .ok (.iload_n 1, 1) := by decide +kernel
theorem dX7_restore_55 : decode cX7_restore 55 = .ok (.iaload, 1) := by decide +kernel
theorem dX7_restore_56 : decode cX7_restore 56 = .ok (.iastore, 1) := by decide +kernel
theorem dX7_restore_57 : decode cX7_restore 57 = .ok (.iinc 1 1, 3) := by decide +kernel
theorem dX7_restore_60 : decode cX7_restore 60 = .ok (.goto (-21), 3) := by decide +kernel
theorem dX7_restore_63 : decode cX7_restore 63 = .ok (.iconst 0, 1) := by decide +kernel
theorem dX7_restore_64 : decode cX7_restore 64 = .ok (.istore_n 1, 1) := by decide +kernel
theorem dX7_restore_65 : decode cX7_restore 65 = .ok (.iload_n 1, 1) := by decide +kernel
theorem dX7_restore_66 : decode cX7_restore 66 = .ok (.iconst 4, 1) := by decide +kernel
theorem dX7_restore_67 : decode cX7_restore 67 = .ok (.if_icmp .ge 33, 3) := by decide +kernel
theorem dX7_restore_70 : decode cX7_restore 70 = .ok (.aload_n 0, 1) := by decide +kernel
theorem dX7_restore_71 : decode cX7_restore 71 = .ok (.getfield 16, 3) := by decide +kernel
theorem dX7_restore_74 : decode cX7_restore 74 = .ok (.iload_n 1, 1) := by decide +kernel
theorem dX7_restore_75 : decode cX7_restore 75 = .ok (.aload_n 0, 1) := by decide +kernel
theorem dX7_restore_76 : decode cX7_restore 76 = .ok (.getfield 53, 3) := by decide +kernel
theorem dX7_restore_79 : decode cX7_restore 79 = .ok (.iload_n 1, 1) := by decide +kernel
theorem dX7_restore_80 : decode cX7_restore 80 = .ok (.iaload, 1) := by decide +kernel
theorem dX7_restore_81 : decode cX7_restore 81 = .ok (.iastore, 1) := by decide +kernel
theorem dX7_restore_82 : decode cX7_restore 82 = .ok (.aload_n 0, 1) := by decide +kernel
theorem dX7_restore_83 : decode cX7_restore 83 = .ok (.getfield 19, 3) := by decide +kernel
theorem dX7_restore_86 : decode cX7_restore 86 = .ok (.iload_n 1, 1) := by decide +kernel
theorem dX7_restore_87 : decode cX7_restore 87 = .ok (.aload_n 0, 1) := by decide +kernel
theorem dX7_restore_88 : decode cX7_restore 88 = .ok (.getfield 56, 3) := by decide +kernel
theorem dX7_restore_91 : decode cX7_restore 91 = .ok (.iload_n 1, 1) := by decide +kernel
theorem dX7_restore_92 : decode cX7_restore 92 = .ok (.iaload, 1) := by decide +kernel
theorem dX7_restore_93 : decode cX7_restore 93 = .ok (.iastore, 1) := by decide +kernel
theorem dX7_restore_94 : decode cX7_restore 94 = .ok (.iinc 1 1, 3) := by decide +kernel
theorem dX7_restore_97 : decode cX7_restore 97 = .ok (.goto (-32), 3) := by decide +kernel
theorem dX7_restore_100 : decode cX7_restore 100 = .ok (.iconst 0, 1) := by decide +kernel
theorem dX7_restore_101 : decode cX7_restore 101 = .ok (.istore_n 1, 1) := by decide +kernel
theorem dX7_restore_102 : decode cX7_restore 102 = .ok (.iload_n 1, 1) := by decide +kernel
theorem dX7_restore_103 : decode cX7_restore 103 = .ok (.bipush 6, 2) := by decide +kernel
theorem dX7_restore_105 : decode cX7_restore 105 = .ok (.if_icmp .ge 57, 3) := by decide +kernel
theorem dX7_restore_108 : decode cX7_restore 108 = .ok (.aload_n 0, 1) := by decide +kernel
theorem dX7_restore_109 : decode cX7_restore 109 = .ok (.getfield 22, 3) := by decide +kernel
theorem dX7_restore_112 : decode cX7_restore 112 = .ok (.iload_n 1, 1) := by decide +kernel
theorem dX7_restore_113 : decode cX7_restore 113 = .ok (.aload_n 0, 1) := by decide +kernel
theorem dX7_restore_114 : decode cX7_restore 114 = .ok (.getfield 59, 3) := by decide +kernel
theorem dX7_restore_117 : decode cX7_restore 117 = .ok (.iload_n 1, 1) := by decide +kernel
theorem dX7_restore_118 : decode cX7_restore 118 = .ok (.iaload, 1) := by decide +kernel
theorem dX7_restore_119 : decode cX7_restore 119 = .ok (.iastore, 1) := by decide +kernel
theorem dX7_restore_120 : decode cX7_restore 120 = .ok (.aload_n 0, 1) := by decide +kernel
theorem dX7_restore_121 : decode cX7_restore 121 = .ok (.getfield 25, 3) := by decide +kernel
theorem dX7_restore_124 : decode cX7_restore 124 = .ok (.iload_n 1, 1) := by decide +kernel
theorem dX7_restore_125 : decode cX7_restore 125 = .ok (.aload_n 0, 1) := by decide +kernel
theorem dX7_restore_126 : decode cX7_restore 126 = .ok (.getfield 62, 3) := by decide +kernel
theorem dX7_restore_129 : decode cX7_restore 129 = .ok (.iload_n 1, 1) := by decide +kernel
theorem dX7_restore_130 : decode cX7_restore 130 = .ok (.iaload, 1) := by decide +kernel
theorem dX7_restore_131 : decode cX7_restore 131 = .ok (.iastore, 1) := by decide +kernel
theorem dX7_restore_132 : decode cX7_restore 132 = .ok (.aload_n 0, 1) := by decide +kernel
theorem dX7_restore_133 : decode cX7_restore 133 = .ok (.getfield 28, 3) := by decide +kernel
theorem dX7_restore_136 : decode cX7_restore 136 = .ok (.iload_n 1, 1) := by decide +kernel
theorem dX7_restore_137 : decode cX7_restore 137 = .ok (.aload_n 0, 1) := by decide +kernel
theorem dX7_restore_138 : decode cX7_restore 138 = .ok (.getfield 65, 3) := by decide +kernel
theorem dX7_restore_141 : decode cX7_restore 141 = .ok (.iload_n 1, 1) := by decide +kernel
theorem dX7_restore_142 : decode cX7_restore 142 = .ok (.iaload, 1) := by decide +kernel
theorem dX7_restore_143 : decode cX7_restore 143 = .ok (.iastore, 1) := by decide +kernel
theorem dX7_restore_144 : decode cX7_restore 144 = .ok (.aload_n 0, 1) := by decide +kernel
theorem dX7_restore_145 : decode cX7_restore 145 = .ok (.getfield 31, 3) := by decide +kernel
theorem dX7_restore_148 : decode cX7_restore 148 = .ok (.iload_n 1, 1) := by decide +kernel
theorem dX7_restore_149 : decode cX7_restore 149 = .ok (.aload_n 0, 1) := by decide +kernel
theorem dX7_restore_150 : decode cX7_restore 150 = .ok (.getfield 68, 3) := by decide +kernel
theorem dX7_restore_153 : decode cX7_restore 153 = .ok (.iload_n 1, 1) := by decide +kernel
theorem dX7_restore_154 : decode cX7_restore 154 = .ok (.iaload, 1) := by decide +kernel
theorem dX7_restore_155 : decode cX7_restore 155 = .ok (.iastore, 1) := by decide +kernel
theorem dX7_restore_156 : decode cX7_restore 156 = .ok (.iinc 1 1, 3) := by decide +kernel
theorem dX7_restore_159 : decode cX7_restore 159 = .ok (.goto (-57), 3) := by decide +kernel
theorem dX7_restore_162 : decode cX7_restore 162 = .ok (.aload_n 0, 1) := by decide +kernel
theorem dX7_restore_163 : decode cX7_restore 163 = .ok (.getfield 97, 3) := by decide +kernel
theorem dX7_restore_166 : decode cX7_restore 166 = .ok (.ireturn, 1) := by decide +kernel
set_option maxRecDepth 20000 in
theorem ggX7_howMany_X7_contentMany : GoodIn wsX7_howMany wsX7_contentMany := goodIn_r _ [10, 1, 11, 12, 13, 9, 14, 15, 16, 28, 29, 30, 31, 32, 33, 34, 35, 36, 37, 38, 39, 40, 41, 42, 43, 44, 45, 46, 47, 48, 49, 50, 51, 52, 53, 54, 55, 56, 57, 58, 59, 60, 61, 62] (by decide +kernel) (by decide +kernel)
set_option maxRecDepth 20000 in
theorem gX7_howMany_X7_contentMany : GoodIn wsX7_howMany (wsV RX7 222 RX7 yX7_contentMany wsX7_contentMany) := goodIn_app (goodIn_of _ (by decide +kernel)) ggX7_howMany_X7_contentMany
set_option maxRecDepth 20000 in
theorem ggX7_howMany_X7_wayNow : GoodIn wsX7_howMany wsX7_wayNow := goodIn_r _ [20, 1, 16, 28, 29, 30, 31, 32, 33, 34, 35, 36, 37, 38, 39, 40, 41, 42, 43, 44, 45, 46, 47, 48, 49, 50, 51, 52, 53, 54, 55, 56, 57, 58, 59, 60, 61, 62] (by decide +kernel) (by decide +kernel)
set_option maxRecDepth 20000 in
theorem gX7_howMany_X7_wayNow : GoodIn wsX7_howMany (wsV RX7 154 RX7 yX7_wayNow wsX7_wayNow) := goodIn_app (goodIn_of _ (by decide +kernel)) ggX7_howMany_X7_wayNow
set_option maxRecDepth 20000 in
theorem ggX7_howMany_X7_sumBy : GoodIn wsX7_howMany wsX7_sumBy := goodIn_r _ [24, 1, 15, 25, 26, 9, 27, 28, 29, 30, 31, 32, 33, 34, 35, 36, 37, 38, 39, 40, 41, 42, 43, 44, 45, 46, 47, 48, 49, 50, 51, 52, 53, 54, 55, 56, 57, 58, 59, 60, 61, 62] (by decide +kernel) (by decide +kernel)
set_option maxRecDepth 20000 in
theorem gX7_howMany_X7_sumBy : GoodIn wsX7_howMany (wsV RX7 173 RX7 yX7_sumBy wsX7_sumBy) := goodIn_app (goodIn_of _ (by decide +kernel)) ggX7_howMany_X7_sumBy
theorem dX7_howMany_0 : decode cX7_howMany 0 = .ok (.iload_n 1, 1) := by decide +kernel
theorem dX7_howMany_1 : decode cX7_howMany 1 = .ok (.tableswitch 82 0 6 #[43, 48, 53, 58, 67, 72, 77], 43) := by decide +kernel
theorem dX7_howMany_44 : decode cX7_howMany 44 = .ok (.aload_n 0, 1) := by decide +kernel
theorem dX7_howMany_45 : decode cX7_howMany 45 = .ok (.getfield 91, 3) := by decide +kernel
theorem dX7_howMany_48 : decode cX7_howMany 48 = .ok (.ireturn, 1) := by decide +kernel
theorem dX7_howMany_49 : decode cX7_howMany 49 = .ok (.aload_n 0, 1) := by decide +kernel
theorem dX7_howMany_50 : decode cX7_howMany 50 = .ok (.invokevirtual 222, 3) := by decide +kernel
theorem dX7_howMany_53 : decode cX7_howMany 53 = .ok (.ireturn, 1) := by decide +kernel
theorem dX7_howMany_54 : decode cX7_howMany 54 = .ok (.aload_n 0, 1) := by decide +kernel
theorem dX7_howMany_55 : decode cX7_howMany 55 = .ok (.getfield 97, 3) := by decide +kernel
theorem dX7_howMany_58 : decode cX7_howMany 58 = .ok (.ireturn, 1) := by decide +kernel
theorem dX7_howMany_59 : decode cX7_howMany 59 = .ok (.aload_n 0, 1) := by decide +kernel
theorem dX7_howMany_60 : decode cX7_howMany 60 = .ok (.aload_n 0, 1) := by decide +kernel
theorem dX7_howMany_61 : decode cX7_howMany 61 = .ok (.invokevirtual 154, 3) := by decide +kernel
theorem dX7_howMany_64 : decode cX7_howMany 64 = .ok (.invokevirtual 173, 3) := by decide +kernel
theorem dX7_howMany_67 : decode cX7_howMany 67 = .ok (.ireturn, 1) := by decide +kernel
theorem dX7_howMany_68 : decode cX7_howMany 68 = .ok (.aload_n 0, 1) := by decide +kernel
theorem dX7_howMany_69 : decode cX7_howMany 69 = .ok (.getfield 100, 3) := by decide +kernel
theorem dX7_howMany_72 : decode cX7_howMany 72 = .ok (.ireturn, 1) := by decide +kernel
theorem dX7_howMany_73 : decode cX7_howMany 73 = .ok (.aload_n 0, 1) := by decide +kernel
theorem dX7_howMany_74 : decode cX7_howMany 74 = .ok (.getfield 75, 3) := by decide +kernel
theorem dX7_howMany_77 : decode cX7_howMany 77 = .ok (.ireturn, 1) := by decide +kernel
theorem dX7_howMany_78 : decode cX7_howMany 78 = .ok (.aload_n 0, 1) := by decide +kernel
theorem dX7_howMany_79 : decode cX7_howMany 79 = .ok (.getfield 94, 3) := by decide +kernel
theorem dX7_howMany_82 : decode cX7_howMany 82 = .ok (.ireturn, 1) := by decide +kernel
theorem dX7_howMany_83 : decode cX7_howMany 83 = .ok (.bipush (-102), 2) := by decide +kernel
theorem dX7_howMany_85 : decode cX7_howMany 85 = .ok (.ireturn, 1) := by decide +kernel
set_option maxRecDepth 20000 in
theorem ggX7_count_X7_howMany : GoodIn wsX7_count wsX7_howMany := goodIn_r _ [5, 6, 7, 8, 9, 10, 11, 12, 13, 4, 14, 15, 16, 17, 18, 19, 20, 21, 22, 23, 24, 25, 26, 27, 28, 29, 30, 31, 32, 33, 34, 35, 36, 37, 38, 39, 40, 41, 42, 43, 44, 45, 46, 47, 48, 49, 50, 51, 52, 53, 54, 55, 56, 57, 58, 59, 60, 61, 62, 63, 64, 65, 66] (by decide +kernel) (by decide +kernel)
set_option maxRecDepth 20000 in
theorem gX7_count_X7_howMany : GoodIn wsX7_count (wsV RX7 242 RX7 yX7_howMany wsX7_howMany) := goodIn_app (goodIn_of _ (by decide +kernel)) ggX7_count_X7_howMany
theorem dX7_count_0 : decode cX7_count 0 = .ok (.aload_n 0, 1) := by decide +kernel
theorem dX7_count_1 : decode cX7_count 1 = .ok (.iload_n 1, 1) := by decide +kernel
theorem dX7_count_2 : decode cX7_count 2 = .ok (.invokevirtual 242, 3) := by decide +kernel
theorem dX7_count_5 : decode cX7_count 5 = .ok (.ireturn, 1) := by decide +kernel
theorem dX7_mix_0 : decode cX7_mix 0 = .ok (.aload_n 0, 1) := by decide +kernel
theorem dX7_mix_1 : decode cX7_mix 1 = .ok (.ldc2_w 245, 3) := by decide +kernel
theorem dX7_mix_4 : decode cX7_mix 4 = .ok (.aload_n 0, 1) := by decide +kernel
theorem dX7_mix_5 : decode cX7_mix 5 = .ok (.getfield 247, 3) := by decide +kernel
theorem dX7_mix_8 : decode cX7_mix 8 = .ok (.lmul, 1) := by decide +kernel
theorem dX7_mix_9 : decode cX7_mix 9 = .ok (.lload_n 1, 1) := by decide +kernel
theorem dX7_mix_10 : decode cX7_mix 10 = .ok (.ladd, 1) := by decide +kernel
theorem dX7_mix_11 : decode cX7_mix 11 = .ok (.putfield 247, 3) := by decide +kernel
theorem dX7_mix_14 : decode cX7_mix 14 = .ok (.return_, 1) := by decide +kernel
set_option maxRecDepth 20000 in
theorem ggX7_mixWill_X7_whoHas : GoodIn wsX7_mixWill wsX7_whoHas := goodIn_r _ [5, 6, 7, 84, 85, 86, 87, 88, 89, 90, 91, 92, 93, 94, 95, 96, 97, 98, 99, 100, 101, 102, 103, 104, 105, 106, 107, 108, 109, 110, 111, 112, 113, 114, 115, 116, 117, 118] (by decide +kernel) (by decide +kernel)
set_option maxRecDepth 20000 in
theorem gX7_mixWill_X7_whoHas : GoodIn wsX7_mixWill (wsV RX7 135 RX7 yX7_whoHas wsX7_whoHas) := goodIn_app (goodIn_of _ (by decide +kernel)) ggX7_mixWill_X7_whoHas
set_option maxRecDepth 20000 in
theorem ggX7_mixWill_X7_mix : GoodIn wsX7_mixWill wsX7_mix := goodIn_r _ [11, 12, 13, 84, 85, 86, 87, 88, 89, 90, 91, 92, 93, 94, 95, 96, 97, 98, 99, 100, 101, 102, 103, 104, 105, 106, 107, 108, 109, 110, 111, 112, 113, 114, 115, 116, 117, 118] (by decide +kernel) (by decide +kernel)
set_option maxRecDepth 20000 in
theorem gX7_mixWill_X7_mix : GoodIn wsX7_mixWill (wsV RX7 250 RX7 yX7_mix wsX7_mix) := goodIn_app (goodIn_of _ (by decide +kernel)) ggX7_mixWill_X7_mix
set_option maxRecDepth 20000 in
theorem ggX7_mixWill_X7_endsNow : GoodIn wsX7_mixWill wsX7_endsNow := goodIn_r _ [17, 18, 19, 20, 21, 22, 23, 24, 4, 25, 26, 27, 28, 29, 30, 31, 6, 32, 33, 34, 35, 36, 37, 38, 39, 40, 41, 42, 7, 43, 44, 45, 46, 47, 48, 49, 50, 51, 52, 53, 54, 55, 56, 57, 58, 59, 60, 61, 84, 85, 86, 87, 88, 89, 90, 91, 92, 93, 94, 95, 96, 97, 98, 99, 100, 101, 102, 103, 104, 105, 106, 107, 108, 109, 110, 111, 112, 113, 114, 115, 116, 117, 118] (by decide +kernel) (by decide +kernel)
set_option maxRecDepth 20000 in
theorem gX7_mixWill_X7_endsNow : GoodIn wsX7_mixWill (wsV RX7 179 RX7 yX7_endsNow wsX7_endsNow) := goodIn_app (goodIn_of _ (by decide +kernel)) ggX7_mixWill_X7_endsNow
set_option maxRecDepth 20000 in
theorem ggX7_mixWill_X7_worstNow : GoodIn wsX7_mixWill wsX7_worstNow := goodIn_r _ [65, 27, 6, 66, 67, 68, 4, 69, 37, 70, 71, 72, 73, 74, 75, 76, 77, 78, 79, 80, 81, 82, 83, 84, 85, 86, 87, 88, 89, 90, 91, 92, 93, 94, 95, 96, 97, 98, 99, 100, 101, 102, 103, 104, 105, 106, 107, 108, 109, 110, 111, 112, 113, 114, 115, 116, 117, 118] (by decide +kernel) (by decide +kernel)
set_option maxRecDepth 20000 in
theorem gX7_mixWill_X7_worstNow : GoodIn wsX7_mixWill (wsV RX7 191 RX7 yX7_worstNow wsX7_worstNow) := goodIn_app (goodIn_of _ (by decide +kernel)) ggX7_mixWill_X7_worstNow
theorem dX7_mixWill_0 : decode cX7_mixWill 0 = .ok (.iconst 0, 1) := by decide +kernel
theorem dX7_mixWill_1 : decode cX7_mixWill 1 = .ok (.istore_n 1, 1) := by decide +kernel
theorem dX7_mixWill_2 : decode cX7_mixWill 2 = .ok (.iload_n 1, 1) := by decide +kernel
theorem dX7_mixWill_3 : decode cX7_mixWill 3 = .ok (.iconst 4, 1) := by decide +kernel
theorem dX7_mixWill_4 : decode cX7_mixWill 4 = .ok (.if_icmp .ge 19, 3) := by decide +kernel
theorem dX7_mixWill_7 : decode cX7_mixWill 7 = .ok (.aload_n 0, 1) := by decide +kernel
theorem dX7_mixWill_8 : decode cX7_mixWill 8 = .ok (.aload_n 0, 1) := by decide +kernel
theorem dX7_mixWill_9 : decode cX7_mixWill 9 = .ok (.iload_n 1, 1) := by decide +kernel
theorem dX7_mixWill_10 : decode cX7_mixWill 10 = .ok (.invokevirtual 135, 3) := by decide +kernel
theorem dX7_mixWill_13 : decode cX7_mixWill 13 = .ok (.i2l, 1) := by decide +kernel
theorem dX7_mixWill_14 : decode cX7_mixWill 14 = .ok (.invokevirtual 250, 3) := by decide +kernel
theorem dX7_mixWill_17 : decode cX7_mixWill 17 = .ok (.iinc 1 1, 3) := by decide +kernel
theorem dX7_mixWill_20 : decode cX7_mixWill 20 = .ok (.goto (-18), 3) := by decide +kernel
theorem dX7_mixWill_23 : decode cX7_mixWill 23 = .ok (.iconst 0, 1) := by decide +kernel
theorem dX7_mixWill_24 : decode cX7_mixWill 24 = .ok (.istore_n 1, 1) := by decide +kernel
theorem dX7_mixWill_25 : decode cX7_mixWill 25 = .ok (.iload_n 1, 1) := by decide +kernel
theorem dX7_mixWill_26 : decode cX7_mixWill 26 = .ok (.iconst 4, 1) := by decide +kernel
theorem dX7_mixWill_27 : decode cX7_mixWill 27 = .ok (.if_icmp .ge 19, 3) := by decide +kernel
theorem dX7_mixWill_30 : decode cX7_mixWill 30 = .ok (.aload_n 0, 1) := by decide +kernel
theorem dX7_mixWill_31 : decode cX7_mixWill 31 = .ok (.aload_n 0, 1) := by decide +kernel
theorem dX7_mixWill_32 : decode cX7_mixWill 32 = .ok (.iload_n 1, 1) := by decide +kernel
theorem dX7_mixWill_33 : decode cX7_mixWill 33 = .ok (.invokevirtual 179, 3) := by decide +kernel
theorem dX7_mixWill_36 : decode cX7_mixWill 36 = .ok (.i2l, 1) := by decide +kernel
theorem dX7_mixWill_37 : decode cX7_mixWill 37 = .ok (.invokevirtual 250, 3) := by decide +kernel
theorem dX7_mixWill_40 : decode cX7_mixWill 40 = .ok (.iinc 1 1, 3) := by decide +kernel
theorem dX7_mixWill_43 : decode cX7_mixWill 43 = .ok (.goto (-18), 3) := by decide +kernel
theorem dX7_mixWill_46 : decode cX7_mixWill 46 = .ok (.aload_n 0, 1) := by decide +kernel
theorem dX7_mixWill_47 : decode cX7_mixWill 47 = .ok (.aload_n 0, 1) := by decide +kernel
theorem dX7_mixWill_48 : decode cX7_mixWill 48 = .ok (.iconst 0, 1) := by decide +kernel
theorem dX7_mixWill_49 : decode cX7_mixWill 49 = .ok (.invokevirtual 191, 3) := by decide +kernel
theorem dX7_mixWill_52 : decode cX7_mixWill 52 = .ok (.i2l, 1) := by decide +kernel
theorem dX7_mixWill_53 : decode cX7_mixWill 53 = .ok (.invokevirtual 250, 3) := by decide +kernel
theorem dX7_mixWill_56 : decode cX7_mixWill 56 = .ok (.bipush 10, 2) := by decide +kernel
theorem dX7_mixWill_58 : decode cX7_mixWill 58 = .ok (.istore_n 1, 1) := by decide +kernel
theorem dX7_mixWill_59 : decode cX7_mixWill 59 = .ok (.iload_n 1, 1) := by decide +kernel
theorem dX7_mixWill_60 : decode cX7_mixWill 60 = .ok (.bipush 14, 2) := by decide +kernel
theorem dX7_mixWill_62 : decode cX7_mixWill 62 = .ok (.if_icmp .ge 19, 3) := by decide +kernel
theorem dX7_mixWill_65 : decode cX7_mixWill 65 = .ok (.aload_n 0, 1) := by decide +kernel
theorem dX7_mixWill_66 : decode cX7_mixWill 66 = .ok (.aload_n 0, 1) := by decide +kernel
theorem dX7_mixWill_67 : decode cX7_mixWill 67 = .ok (.iload_n 1, 1) := by decide +kernel
theorem dX7_mixWill_68 : decode cX7_mixWill 68 = .ok (.invokevirtual 191, 3) := by decide +kernel
theorem dX7_mixWill_71 : decode cX7_mixWill 71 = .ok (.i2l, 1) := by decide +kernel
theorem dX7_mixWill_72 : decode cX7_mixWill 72 = .ok (.invokevirtual 250, 3) := by decide +kernel
theorem dX7_mixWill_75 : decode cX7_mixWill 75 = .ok (.iinc 1 1, 3) := by decide +kernel
theorem dX7_mixWill_78 : decode cX7_mixWill 78 = .ok (.goto (-19), 3) := by decide +kernel
theorem dX7_mixWill_81 : decode cX7_mixWill 81 = .ok (.return_, 1) := by decide +kernel
set_option maxRecDepth 20000 in
theorem ggX7_mixHeir_X7_heirNow : GoodIn wsX7_mixHeir wsX7_heirNow := goodIn_r _ [5, 6, 7, 8, 9, 10, 11, 12, 4, 13, 14, 15, 16, 17, 18, 19, 20, 21, 22, 23, 24, 25, 26, 27, 68, 69, 70, 71, 72, 73, 74, 75, 76, 77, 78, 79, 80, 81, 82, 83, 84, 85, 86, 87, 88, 89, 90, 91, 92, 93, 94, 95, 96, 97, 98, 99, 100, 101, 102] (by decide +kernel) (by decide +kernel)
set_option maxRecDepth 20000 in
theorem gX7_mixHeir_X7_heirNow : GoodIn wsX7_mixHeir (wsV RX7 129 RX7 yX7_heirNow wsX7_heirNow) := goodIn_app (goodIn_of _ (by decide +kernel)) ggX7_mixHeir_X7_heirNow
set_option maxRecDepth 20000 in
theorem ggX7_mixHeir_X7_mix : GoodIn wsX7_mixHeir wsX7_mix := goodIn_r _ [31, 32, 33, 68, 69, 70, 71, 72, 73, 74, 75, 76, 77, 78, 79, 80, 81, 82, 83, 84, 85, 86, 87, 88, 89, 90, 91, 92, 93, 94, 95, 96, 97, 98, 99, 100, 101, 102] (by decide +kernel) (by decide +kernel)
set_option maxRecDepth 20000 in
theorem gX7_mixHeir_X7_mix : GoodIn wsX7_mixHeir (wsV RX7 250 RX7 yX7_mix wsX7_mix) := goodIn_app (goodIn_of _ (by decide +kernel)) ggX7_mixHeir_X7_mix
set_option maxRecDepth 20000 in
theorem ggX7_mixHeir_X7_servedNow : GoodIn wsX7_mixHeir wsX7_servedNow := goodIn_r _ [37, 7, 6, 38, 39, 40, 41, 4, 42, 19, 14, 15, 16, 17, 18, 20, 21, 22, 23, 43, 44, 45, 68, 69, 70, 71, 72, 73, 74, 75, 76, 77, 78, 79, 80, 81, 82, 83, 84, 85, 86, 87, 88, 89, 90, 91, 92, 93, 94, 95, 96, 97, 98, 99, 100, 101, 102] (by decide +kernel) (by decide +kernel)
set_option maxRecDepth 20000 in
theorem gX7_mixHeir_X7_servedNow : GoodIn wsX7_mixHeir (wsV RX7 182 RX7 yX7_servedNow wsX7_servedNow) := goodIn_app (goodIn_of _ (by decide +kernel)) ggX7_mixHeir_X7_servedNow
set_option maxRecDepth 20000 in
theorem ggX7_mixHeir_X7_truthsNow : GoodIn wsX7_mixHeir wsX7_truthsNow := goodIn_r _ [49, 50, 51, 52, 4, 53, 54, 55, 56, 57, 58, 59, 60, 61, 62, 6, 68, 69, 70, 71, 72, 73, 74, 75, 76, 77, 78, 79, 80, 81, 82, 83, 84, 85, 86, 87, 88, 89, 90, 91, 92, 93, 94, 95, 96, 97, 98, 99, 100, 101, 102] (by decide +kernel) (by decide +kernel)
set_option maxRecDepth 20000 in
theorem gX7_mixHeir_X7_truthsNow : GoodIn wsX7_mixHeir (wsV RX7 201 RX7 yX7_truthsNow wsX7_truthsNow) := goodIn_app (goodIn_of _ (by decide +kernel)) ggX7_mixHeir_X7_truthsNow
set_option maxRecDepth 20000 in
theorem ggX7_mixHeir_X7_askNow : GoodIn wsX7_mixHeir wsX7_askNow := goodIn_r _ [66, 67, 6, 46, 47, 48, 4, 49, 50, 51, 52, 53, 54, 55, 56, 57, 58, 59, 60, 61, 62, 43, 44, 45, 68, 69, 70, 71, 72, 73, 74, 75, 76, 77, 78, 79, 80, 81, 82, 83, 84, 85, 86, 87, 88, 89, 90, 91, 92, 93, 94, 95, 96, 97, 98, 99, 100, 101, 102] (by decide +kernel) (by decide +kernel)
set_option maxRecDepth 20000 in
theorem gX7_mixHeir_X7_askNow : GoodIn wsX7_mixHeir (wsV RX7 204 RX7 yX7_askNow wsX7_askNow) := goodIn_app (goodIn_of _ (by decide +kernel)) ggX7_mixHeir_X7_askNow
theorem dX7_mixHeir_0 : decode cX7_mixHeir 0 = .ok (.iconst 0, 1) := by decide +kernel
theorem dX7_mixHeir_1 : decode cX7_mixHeir 1 = .ok (.istore_n 2, 1) := by decide +kernel
theorem dX7_mixHeir_2 : decode cX7_mixHeir 2 = .ok (.iload_n 2, 1) := by decide +kernel
theorem dX7_mixHeir_3 : decode cX7_mixHeir 3 = .ok (.bipush 24, 2) := by decide +kernel
theorem dX7_mixHeir_5 : decode cX7_mixHeir 5 = .ok (.if_icmp .ge 28, 3) := by decide +kernel
theorem dX7_mixHeir_8 : decode cX7_mixHeir 8 = .ok (.iload_n 2, 1) := by decide +kernel
theorem dX7_mixHeir_9 : decode cX7_mixHeir 9 = .ok (.bipush 10, 2) := by decide +kernel
theorem dX7_mixHeir_11 : decode cX7_mixHeir 11 = .ok (.irem, 1) := by decide +kernel
theorem dX7_mixHeir_12 : decode cX7_mixHeir 12 = .ok (.iconst 4, 1) := by decide +kernel
theorem dX7_mixHeir_13 : decode cX7_mixHeir 13 = .ok (.if_icmp .ge 14, 3) := by decide +kernel
theorem dX7_mixHeir_16 : decode cX7_mixHeir 16 = .ok (.aload_n 0, 1) := by decide +kernel
theorem dX7_mixHeir_17 : decode cX7_mixHeir 17 = .ok (.aload_n 0, 1) := by decide +kernel
theorem dX7_mixHeir_18 : decode cX7_mixHeir 18 = .ok (.iload_n 1, 1) := by decide +kernel
theorem dX7_mixHeir_19 : decode cX7_mixHeir 19 = .ok (.iload_n 2, 1) := by decide +kernel
theorem dX7_mixHeir_20 : decode cX7_mixHeir 20 = .ok (.invokevirtual 129, 3) := by decide +kernel
theorem dX7_mixHeir_23 : decode cX7_mixHeir 23 = .ok (.i2l, 1) := by decide +kernel
theorem dX7_mixHeir_24 : decode cX7_mixHeir 24 = .ok (.invokevirtual 250, 3) := by decide +kernel
theorem dX7_mixHeir_27 : decode cX7_mixHeir 27 = .ok (.iinc 2 1, 3) := by decide +kernel
theorem dX7_mixHeir_30 : decode cX7_mixHeir 30 = .ok (.goto (-28), 3) := by decide +kernel
theorem dX7_mixHeir_33 : decode cX7_mixHeir 33 = .ok (.aload_n 0, 1) := by decide +kernel
theorem dX7_mixHeir_34 : decode cX7_mixHeir 34 = .ok (.aload_n 0, 1) := by decide +kernel
theorem dX7_mixHeir_35 : decode cX7_mixHeir 35 = .ok (.iload_n 1, 1) := by decide +kernel
theorem dX7_mixHeir_36 : decode cX7_mixHeir 36 = .ok (.iconst 0, 1) := by decide +kernel
theorem dX7_mixHeir_37 : decode cX7_mixHeir 37 = .ok (.invokevirtual 182, 3) := by decide +kernel
theorem dX7_mixHeir_40 : decode cX7_mixHeir 40 = .ok (.i2l, 1) := by decide +kernel
theorem dX7_mixHeir_41 : decode cX7_mixHeir 41 = .ok (.invokevirtual 250, 3) := by decide +kernel
theorem dX7_mixHeir_44 : decode cX7_mixHeir 44 = .ok (.aload_n 0, 1) := by decide +kernel
theorem dX7_mixHeir_45 : decode cX7_mixHeir 45 = .ok (.aload_n 0, 1) := by decide +kernel
theorem dX7_mixHeir_46 : decode cX7_mixHeir 46 = .ok (.iload_n 1, 1) := by decide +kernel
theorem dX7_mixHeir_47 : decode cX7_mixHeir 47 = .ok (.iconst 1, 1) := by decide +kernel
theorem dX7_mixHeir_48 : decode cX7_mixHeir 48 = .ok (.invokevirtual 182, 3) := by decide +kernel
theorem dX7_mixHeir_51 : decode cX7_mixHeir 51 = .ok (.i2l, 1) := by decide +kernel
theorem dX7_mixHeir_52 : decode cX7_mixHeir 52 = .ok (.invokevirtual 250, 3) := by decide +kernel
theorem dX7_mixHeir_55 : decode cX7_mixHeir 55 = .ok (.iconst 0, 1) := by decide +kernel
theorem dX7_mixHeir_56 : decode cX7_mixHeir 56 = .ok (.istore_n 2, 1) := by decide +kernel
theorem dX7_mixHeir_57 : decode cX7_mixHeir 57 = .ok (.iload_n 2, 1) := by decide +kernel
theorem dX7_mixHeir_58 : decode cX7_mixHeir 58 = .ok (.iconst 4, 1) := by decide +kernel
theorem dX7_mixHeir_59 : decode cX7_mixHeir 59 = .ok (.if_icmp .ge 31, 3) := by decide +kernel
theorem dX7_mixHeir_62 : decode cX7_mixHeir 62 = .ok (.aload_n 0, 1) := by decide +kernel
theorem dX7_mixHeir_63 : decode cX7_mixHeir 63 = .ok (.aload_n 0, 1) := by decide +kernel
theorem dX7_mixHeir_64 : decode cX7_mixHeir 64 = .ok (.iload_n 1, 1) := by decide +kernel
theorem dX7_mixHeir_65 : decode cX7_mixHeir 65 = .ok (.iload_n 2, 1) := by decide +kernel
theorem dX7_mixHeir_66 : decode cX7_mixHeir 66 = .ok (.invokevirtual 201, 3) := by decide +kernel
theorem dX7_mixHeir_69 : decode cX7_mixHeir 69 = .ok (.i2l, 1) := by decide +kernel
theorem dX7_mixHeir_70 : decode cX7_mixHeir 70 = .ok (.invokevirtual 250, 3) := by decide +kernel
theorem dX7_mixHeir_73 : decode cX7_mixHeir 73 = .ok (.aload_n 0, 1) := by decide +kernel
theorem dX7_mixHeir_74 : decode cX7_mixHeir 74 = .ok (.aload_n 0, 1) := by decide +kernel
theorem dX7_mixHeir_75 : decode cX7_mixHeir 75 = .ok (.iload_n 1, 1) := by decide +kernel
theorem dX7_mixHeir_76 : decode cX7_mixHeir 76 = .ok (.iload_n 2, 1) := by decide +kernel
theorem dX7_mixHeir_77 : decode cX7_mixHeir 77 = .ok (.invokevirtual 204, 3) := by decide +kernel
theorem dX7_mixHeir_80 : decode cX7_mixHeir 80 = .ok (.i2l, 1) := by decide +kernel
theorem dX7_mixHeir_81 : decode cX7_mixHeir 81 = .ok (.invokevirtual 250, 3) := by decide +kernel
theorem dX7_mixHeir_84 : decode cX7_mixHeir 84 = .ok (.iinc 2 1, 3) := by decide +kernel
theorem dX7_mixHeir_87 : decode cX7_mixHeir 87 = .ok (.goto (-30), 3) := by decide +kernel
theorem dX7_mixHeir_90 : decode cX7_mixHeir 90 = .ok (.return_, 1) := by decide +kernel
set_option maxRecDepth 20000 in
theorem ggX7_digest_X7_mixWill : GoodIn wsX7_digest wsX7_mixWill := goodIn_r _ [10, 11, 12, 13, 9, 14, 3, 15, 16, 17, 18, 19, 20, 2, 21, 22, 23, 24, 25, 26, 27, 28, 29, 30, 31, 32, 33, 34, 35, 36, 37, 38, 39, 40, 41, 42, 43, 44, 45, 46, 47, 48, 49, 50, 51, 52, 53, 54, 55, 56, 57, 58, 59, 60, 61, 62, 63, 64, 65, 66, 67, 68, 69, 70, 71, 72, 73, 74, 75, 76, 77, 78, 79, 80, 81, 82, 83, 84, 85, 86, 87, 88, 89, 90, 148, 149, 150, 151, 152, 153, 154, 155, 156, 157, 158, 159, 160, 161, 162, 163, 164, 165, 166, 167, 168, 169, 170, 171, 172, 173, 174, 175, 176, 177, 178, 179, 180, 181, 182] (by decide +kernel) (by decide +kernel)
set_option maxRecDepth 20000 in
theorem gX7_digest_X7_mixWill : GoodIn wsX7_digest (wsV RX7 256 RX7 yX7_mixWill wsX7_mixWill) := goodIn_app (goodIn_of _ (by decide +kernel)) ggX7_digest_X7_mixWill
set_option maxRecDepth 20000 in
theorem ggX7_digest_X7_mixHeir : GoodIn wsX7_digest wsX7_mixHeir := goodIn_r _ [94, 95, 96, 97, 9, 98, 44, 45, 15, 99, 100, 101, 102, 103, 39, 35, 36, 37, 38, 3, 40, 41, 42, 43, 104, 105, 106, 107, 16, 17, 18, 19, 20, 2, 108, 109, 110, 111, 112, 113, 114, 115, 116, 81, 82, 83, 117, 118, 119, 120, 121, 122, 123, 124, 125, 126, 127, 128, 129, 130, 131, 132, 133, 134, 135, 136, 137, 34, 148, 149, 150, 151, 152, 153, 154, 155, 156, 157, 158, 159, 160, 161, 162, 163, 164, 165, 166, 167, 168, 169, 170, 171, 172, 173, 174, 175, 176, 177, 178, 179, 180, 181, 182] (by decide +kernel) (by decide +kernel)
set_option maxRecDepth 20000 in
theorem gX7_digest_X7_mixHeir : GoodIn wsX7_digest (wsV RX7 259 RX7 yX7_mixHeir wsX7_mixHeir) := goodIn_app (goodIn_of _ (by decide +kernel)) ggX7_digest_X7_mixHeir
set_option maxRecDepth 20000 in
theorem ggX7_digest_X7_mix : GoodIn wsX7_digest wsX7_mix := goodIn_r _ [19, 20, 2, 148, 149, 150, 151, 152, 153, 154, 155, 156, 157, 158, 159, 160, 161, 162, 163, 164, 165, 166, 167, 168, 169, 170, 171, 172, 173, 174, 175, 176, 177, 178, 179, 180, 181, 182] (by decide +kernel) (by decide +kernel)
set_option maxRecDepth 20000 in
theorem gX7_digest_X7_mix : GoodIn wsX7_digest (wsV RX7 250 RX7 yX7_mix wsX7_mix) := goodIn_app (goodIn_of _ (by decide +kernel)) ggX7_digest_X7_mix
set_option maxRecDepth 20000 in
theorem ggX7_digest_X7_howMany : GoodIn wsX7_digest wsX7_howMany := goodIn_r _ [141, 3, 142, 125, 4, 143, 144, 145, 146, 9, 147, 104, 105, 106, 107, 44, 15, 46, 47, 48, 49, 65, 66, 67, 68, 54, 55, 56, 148, 149, 150, 151, 152, 153, 154, 155, 156, 157, 158, 159, 160, 161, 162, 163, 164, 165, 166, 167, 168, 169, 170, 171, 172, 173, 174, 175, 176, 177, 178, 179, 180, 181, 182] (by decide +kernel) (by decide +kernel)
set_option maxRecDepth 20000 in
theorem gX7_digest_X7_howMany : GoodIn wsX7_digest (wsV RX7 242 RX7 yX7_howMany wsX7_howMany) := goodIn_app (goodIn_of _ (by decide +kernel)) ggX7_digest_X7_howMany
theorem dX7_digest_0 : decode cX7_digest 0 = .ok (.aload_n 0, 1) := by decide +kernel
theorem dX7_digest_1 : decode cX7_digest 1 = .ok (.ldc2_w 254, 3) := by decide +kernel
theorem dX7_digest_4 : decode cX7_digest 4 = .ok (.putfield 247, 3) := by decide +kernel
theorem dX7_digest_7 : decode cX7_digest 7 = .ok (.aload_n 0, 1) := by decide +kernel
theorem dX7_digest_8 : decode cX7_digest 8 = .ok (.getfield 91, 3) := by decide +kernel
theorem dX7_digest_11 : decode cX7_digest 11 = .ok (.ifCond .le 7, 3) := by decide +kernel
theorem dX7_digest_14 : decode cX7_digest 14 = .ok (.aload_n 0, 1) := by decide +kernel
theorem dX7_digest_15 : decode cX7_digest 15 = .ok (.invokevirtual 256, 3) := by decide +kernel
theorem dX7_digest_18 : decode cX7_digest 18 = .ok (.iconst 0, 1) := by decide +kernel
theorem dX7_digest_19 : decode cX7_digest 19 = .ok (.istore_n 1, 1) := by decide +kernel
theorem dX7_digest_20 : decode cX7_digest 20 = .ok (.iload_n 1, 1) := by decide +kernel
theorem dX7_digest_21 : decode cX7_digest 21 = .ok (.aload_n 0, 1) := by decide +kernel
theorem dX7_digest_22 : decode cX7_digest 22 = .ok (.getfield 91, 3) := by decide +kernel
theorem dX7_digest_25 : decode cX7_digest 25 = .ok (.if_icmp .ge 14, 3) := by decide +kernel
theorem dX7_digest_28 : decode cX7_digest 28 = .ok (.aload_n 0, 1) := by decide +kernel
theorem dX7_digest_29 : decode cX7_digest 29 = .ok (.iload_n 1, 1) := by decide +kernel
theorem dX7_digest_30 : decode cX7_digest 30 = .ok (.invokevirtual 259, 3) := by decide +kernel
theorem dX7_digest_33 : decode cX7_digest 33 = .ok (.iinc 1 1, 3) := by decide +kernel
theorem dX7_digest_36 : decode cX7_digest 36 = .ok (.goto (-16), 3) := by decide +kernel
theorem dX7_digest_39 : decode cX7_digest 39 = .ok (.iconst 0, 1) := by decide +kernel
theorem dX7_digest_40 : decode cX7_digest 40 = .ok (.istore_n 1, 1) := by decide +kernel
theorem dX7_digest_41 : decode cX7_digest 41 = .ok (.iload_n 1, 1) := by decide +kernel
theorem dX7_digest_42 : decode cX7_digest 42 = .ok (.aload_n 0, 1) := by decide +kernel
theorem dX7_digest_43 : decode cX7_digest 43 = .ok (.getfield 75, 3) := by decide +kernel
theorem dX7_digest_46 : decode cX7_digest 46 = .ok (.if_icmp .ge 20, 3) := by decide +kernel
theorem dX7_digest_49 : decode cX7_digest 49 = .ok (.aload_n 0, 1) := by decide +kernel
theorem dX7_digest_50 : decode cX7_digest 50 = .ok (.aload_n 0, 1) := by decide +kernel
theorem dX7_digest_51 : decode cX7_digest 51 = .ok (.getfield 34, 3) := by decide +kernel
theorem dX7_digest_54 : decode cX7_digest 54 = .ok (.iload_n 1, 1) := by decide +kernel
theorem dX7_digest_55 : decode cX7_digest 55 = .ok (.baload, 1) := by decide +kernel
theorem dX7_digest_56 : decode cX7_digest 56 = .ok (.i2l, 1) := by decide +kernel
theorem dX7_digest_57 : decode cX7_digest 57 = .ok (.invokevirtual 250, 3) := by decide +kernel
theorem dX7_digest_60 : decode cX7_digest 60 = .ok (.iinc 1 1, 3) := by decide +kernel
theorem dX7_digest_63 : decode cX7_digest 63 = .ok (.goto (-22), 3) := by decide +kernel
theorem dX7_digest_66 : decode cX7_digest 66 = .ok (.iconst 0, 1) := by decide +kernel
theorem dX7_digest_67 : decode cX7_digest 67 = .ok (.istore_n 1, 1) := by decide +kernel
theorem dX7_digest_68 : decode cX7_digest 68 = .ok (.iload_n 1, 1) := by decide +kernel
theorem dX7_digest_69 : decode cX7_digest 69 = .ok (.bipush 7, 2) := by decide +kernel
theorem dX7_digest_71 : decode cX7_digest 71 = .ok (.if_icmp .ge 19, 3) := by decide +kernel
theorem dX7_digest_74 : decode cX7_digest 74 = .ok (.aload_n 0, 1) := by decide +kernel
theorem dX7_digest_75 : decode cX7_digest 75 = .ok (.aload_n 0, 1) := by decide +kernel
theorem dX7_digest_76 : decode cX7_digest 76 = .ok (.iload_n 1, 1) := by decide +kernel
theorem dX7_digest_77 : decode cX7_digest 77 = .ok (.invokevirtual 242, 3) := by decide +kernel
theorem dX7_digest_80 : decode cX7_digest 80 = .ok (.i2l, 1) := by decide +kernel
theorem dX7_digest_81 : decode cX7_digest 81 = .ok (.invokevirtual 250, 3) := by decide +kernel
theorem dX7_digest_84 : decode cX7_digest 84 = .ok (.iinc 1 1, 3) := by decide +kernel
theorem dX7_digest_87 : decode cX7_digest 87 = .ok (.goto (-19), 3) := by decide +kernel
theorem dX7_digest_90 : decode cX7_digest 90 = .ok (.aload_n 0, 1) := by decide +kernel
theorem dX7_digest_91 : decode cX7_digest 91 = .ok (.getfield 247, 3) := by decide +kernel
theorem dX7_digest_94 : decode cX7_digest 94 = .ok (.lreturn, 1) := by decide +kernel
