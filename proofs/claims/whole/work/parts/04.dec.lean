theorem dX5_init_0 : decode cX5_init 0 = .ok (.aload_n 0, 1) := by decide +kernel
theorem dX5_init_1 : decode cX5_init 1 = .ok (.invokespecial 1, 3) := by decide +kernel
theorem dX5_init_4 : decode cX5_init 4 = .ok (.aload_n 0, 1) := by decide +kernel
theorem dX5_init_5 : decode cX5_init 5 = .ok (.bipush 18, 2) := by decide +kernel
theorem dX5_init_7 : decode cX5_init 7 = .ok (.newarray .int, 2) := by decide +kernel
theorem dX5_init_9 : decode cX5_init 9 = .ok (.putfield 7, 3) := by decide +kernel
theorem dX5_init_12 : decode cX5_init 12 = .ok (.aload_n 0, 1) := by decide +kernel
theorem dX5_init_13 : decode cX5_init 13 = .ok (.bipush 80, 2) := by decide +kernel
theorem dX5_init_15 : decode cX5_init 15 = .ok (.newarray .int, 2) := by decide +kernel
theorem dX5_init_17 : decode cX5_init 17 = .ok (.putfield 13, 3) := by decide +kernel
theorem dX5_init_20 : decode cX5_init 20 = .ok (.aload_n 0, 1) := by decide +kernel
theorem dX5_init_21 : decode cX5_init 21 = .ok (.sipush 180, 3) := by decide +kernel
theorem dX5_init_24 : decode cX5_init 24 = .ok (.newarray .int, 2) := by decide +kernel
theorem dX5_init_26 : decode cX5_init 26 = .ok (.putfield 16, 3) := by decide +kernel
theorem dX5_init_29 : decode cX5_init 29 = .ok (.aload_n 0, 1) := by decide +kernel
theorem dX5_init_30 : decode cX5_init 30 = .ok (.iconst 4, 1) := by decide +kernel
theorem dX5_init_31 : decode cX5_init 31 = .ok (.newarray .int, 2) := by decide +kernel
theorem dX5_init_33 : decode cX5_init 33 = .ok (.putfield 19, 3) := by decide +kernel
theorem dX5_init_36 : decode cX5_init 36 = .ok (.aload_n 0, 1) := by decide +kernel
theorem dX5_init_37 : decode cX5_init 37 = .ok (.bipush 120, 2) := by decide +kernel
theorem dX5_init_39 : decode cX5_init 39 = .ok (.newarray .int, 2) := by decide +kernel
theorem dX5_init_41 : decode cX5_init 41 = .ok (.putfield 22, 3) := by decide +kernel
theorem dX5_init_44 : decode cX5_init 44 = .ok (.aload_n 0, 1) := by decide +kernel
theorem dX5_init_45 : decode cX5_init 45 = .ok (.bipush 20, 2) := by decide +kernel
theorem dX5_init_47 : decode cX5_init 47 = .ok (.putfield 25, 3) := by decide +kernel
theorem dX5_init_50 : decode cX5_init 50 = .ok (.aload_n 0, 1) := by decide +kernel
theorem dX5_init_51 : decode cX5_init 51 = .ok (.sipush 200, 3) := by decide +kernel
theorem dX5_init_54 : decode cX5_init 54 = .ok (.newarray .boolean, 2) := by decide +kernel
theorem dX5_init_56 : decode cX5_init 56 = .ok (.putfield 29, 3) := by decide +kernel
theorem dX5_init_59 : decode cX5_init 59 = .ok (.aload_n 0, 1) := by decide +kernel
theorem dX5_init_60 : decode cX5_init 60 = .ok (.iconst 3, 1) := by decide +kernel
theorem dX5_init_61 : decode cX5_init 61 = .ok (.newarray .int, 2) := by decide +kernel
theorem dX5_init_63 : decode cX5_init 63 = .ok (.putfield 33, 3) := by decide +kernel
theorem dX5_init_66 : decode cX5_init 66 = .ok (.aload_n 0, 1) := by decide +kernel
theorem dX5_init_67 : decode cX5_init 67 = .ok (.bipush 36, 2) := by decide +kernel
theorem dX5_init_69 : decode cX5_init 69 = .ok (.newarray .int, 2) := by decide +kernel
theorem dX5_init_71 : decode cX5_init 71 = .ok (.putfield 36, 3) := by decide +kernel
theorem dX5_init_74 : decode cX5_init 74 = .ok (.aload_n 0, 1) := by decide +kernel
theorem dX5_init_75 : decode cX5_init 75 = .ok (.bipush 28, 2) := by decide +kernel
theorem dX5_init_77 : decode cX5_init 77 = .ok (.newarray .int, 2) := by decide +kernel
theorem dX5_init_79 : decode cX5_init 79 = .ok (.putfield 39, 3) := by decide +kernel
theorem dX5_init_82 : decode cX5_init 82 = .ok (.aload_n 0, 1) := by decide +kernel
theorem dX5_init_83 : decode cX5_init 83 = .ok (.sipush 240, 3) := by decide +kernel
theorem dX5_init_86 : decode cX5_init 86 = .ok (.newarray .int, 2) := by decide +kernel
theorem dX5_init_88 : decode cX5_init 88 = .ok (.putfield 42, 3) := by decide +kernel
theorem dX5_init_91 : decode cX5_init 91 = .ok (.aload_n 0, 1) := by decide +kernel
theorem dX5_init_92 : decode cX5_init 92 = .ok (.bipush 24, 2) := by decide +kernel
theorem dX5_init_94 : decode cX5_init 94 = .ok (.newarray .int, 2) := by decide +kernel
theorem dX5_init_96 : decode cX5_init 96 = .ok (.putfield 45, 3) := by decide +kernel
theorem dX5_init_99 : decode cX5_init 99 = .ok (.aload_n 0, 1) := by decide +kernel
theorem dX5_init_100 : decode cX5_init 100 = .ok (.bipush 24, 2) := by decide +kernel
theorem dX5_init_102 : decode cX5_init 102 = .ok (.newarray .boolean, 2) := by decide +kernel
theorem dX5_init_104 : decode cX5_init 104 = .ok (.putfield 48, 3) := by decide +kernel
theorem dX5_init_107 : decode cX5_init 107 = .ok (.aload_n 0, 1) := by decide +kernel
theorem dX5_init_108 : decode cX5_init 108 = .ok (.iconst 3, 1) := by decide +kernel
theorem dX5_init_109 : decode cX5_init 109 = .ok (.newarray .int, 2) := by decide +kernel
theorem dX5_init_111 : decode cX5_init 111 = .ok (.putfield 51, 3) := by decide +kernel
theorem dX5_init_114 : decode cX5_init 114 = .ok (.iconst 0, 1) := by decide +kernel
theorem dX5_init_115 : decode cX5_init 115 = .ok (.istore_n 1, 1) := by decide +kernel
theorem dX5_init_116 : decode cX5_init 116 = .ok (.iload_n 1, 1) := by decide +kernel
theorem dX5_init_117 : decode cX5_init 117 = .ok (.iconst 4, 1) := by decide +kernel
theorem dX5_init_118 : decode cX5_init 118 = .ok (.if_icmp .ge 16, 3) := by decide +kernel
theorem dX5_init_121 : decode cX5_init 121 = .ok (.aload_n 0, 1) := by decide +kernel
theorem dX5_init_122 : decode cX5_init 122 = .ok (.getfield 19, 3) := by decide +kernel
theorem dX5_init_125 : decode cX5_init 125 = .ok (.iload_n 1, 1) := by decide +kernel
theorem dX5_init_126 : decode cX5_init 126 = .ok (.iconst 5, 1) := by decide +kernel
theorem dX5_init_127 : decode cX5_init 127 = .ok (.iastore, 1) := by decide +kernel
theorem dX5_init_128 : decode cX5_init 128 = .ok (.iinc 1 1, 3) := by decide +kernel
theorem dX5_init_131 : decode cX5_init 131 = .ok (.goto (-15), 3) := by decide +kernel
theorem dX5_init_134 : decode cX5_init 134 = .ok (.return_, 1) := by decide +kernel
theorem dX5_in_0 : decode cX5_in 0 = .ok (.iload_n 0, 1) := by decide +kernel
theorem dX5_in_1 : decode cX5_in 1 = .ok (.iload_n 1, 1) := by decide +kernel
theorem dX5_in_2 : decode cX5_in 2 = .ok (.if_icmp .lt 12, 3) := by decide +kernel
theorem dX5_in_5 : decode cX5_in 5 = .ok (.iload_n 0, 1) := by decide +kernel
theorem dX5_in_6 : decode cX5_in 6 = .ok (.iload_n 2, 1) := by decide +kernel
theorem dX5_in_7 : decode cX5_in 7 = .ok (.if_icmp .gt 7, 3) := by decide +kernel
theorem dX5_in_10 : decode cX5_in 10 = .ok (.iconst 1, 1) := by decide +kernel
theorem dX5_in_11 : decode cX5_in 11 = .ok (.goto 4, 3) := by decide +kernel
theorem dX5_in_14 : decode cX5_in 14 = .ok (.iconst 0, 1) := by decide +kernel
theorem dX5_in_15 : decode cX5_in 15 = .ok (.ireturn, 1) := by decide +kernel
set_option maxRecDepth 20000 in
theorem ggX5_isDay_X5_in : GoodIn wsX5_isDay wsX5_in := goodIn_r _ [4] (by decide +kernel) (by decide +kernel)
set_option maxRecDepth 20000 in
theorem gX5_isDay_X5_in : GoodIn wsX5_isDay (va_wsS RX5 54 yX5_in wsX5_in) := goodIn_app (goodIn_of _ (by decide +kernel)) ggX5_isDay_X5_in
theorem dX5_isDay_0 : decode cX5_isDay 0 = .ok (.iload_n 0, 1) := by decide +kernel
theorem dX5_isDay_1 : decode cX5_isDay 1 = .ok (.iconst 0, 1) := by decide +kernel
theorem dX5_isDay_2 : decode cX5_isDay 2 = .ok (.sipush 3000, 3) := by decide +kernel
theorem dX5_isDay_5 : decode cX5_isDay 5 = .ok (.invokestatic 54, 3) := by decide +kernel
theorem dX5_isDay_8 : decode cX5_isDay 8 = .ok (.ireturn, 1) := by decide +kernel
set_option maxRecDepth 20000 in
theorem ggX5_rule_X5_isDay : GoodIn wsX5_rule wsX5_isDay := goodIn_r _ [6, 7, 8, 5, 9] (by decide +kernel) (by decide +kernel)
set_option maxRecDepth 20000 in
theorem gX5_rule_X5_isDay : GoodIn wsX5_rule (va_wsS RX5 58 yX5_isDay wsX5_isDay) := goodIn_app (goodIn_of _ (by decide +kernel)) ggX5_rule_X5_isDay
set_option maxRecDepth 20000 in
theorem ggX5_rule_X5_in : GoodIn wsX5_rule wsX5_in := goodIn_r _ [9] (by decide +kernel) (by decide +kernel)
set_option maxRecDepth 20000 in
theorem gX5_rule_X5_in : GoodIn wsX5_rule (va_wsS RX5 54 yX5_in wsX5_in) := goodIn_app (goodIn_of _ (by decide +kernel)) ggX5_rule_X5_in
theorem dX5_rule_0 : decode cX5_rule 0 = .ok (.iload_n 1, 1) := by decide +kernel
theorem dX5_rule_1 : decode cX5_rule 1 = .ok (.invokestatic 58, 3) := by decide +kernel
theorem dX5_rule_4 : decode cX5_rule 4 = .ok (.ifCond .eq 23, 3) := by decide +kernel
theorem dX5_rule_7 : decode cX5_rule 7 = .ok (.iload_n 2, 1) := by decide +kernel
theorem dX5_rule_8 : decode cX5_rule 8 = .ok (.iconst 2, 1) := by decide +kernel
theorem dX5_rule_9 : decode cX5_rule 9 = .ok (.bipush 30, 2) := by decide +kernel
theorem dX5_rule_11 : decode cX5_rule 11 = .ok (.invokestatic 54, 3) := by decide +kernel
theorem dX5_rule_14 : decode cX5_rule 14 = .ok (.ifCond .eq 13, 3) := by decide +kernel
theorem dX5_rule_17 : decode cX5_rule 17 = .ok (.iload_n 3, 1) := by decide +kernel
theorem dX5_rule_18 : decode cX5_rule 18 = .ok (.iconst 0, 1) := by decide +kernel
theorem dX5_rule_19 : decode cX5_rule 19 = .ok (.bipush 50, 2) := by decide +kernel
theorem dX5_rule_21 : decode cX5_rule 21 = .ok (.invokestatic 54, 3) := by decide +kernel
theorem dX5_rule_24 : decode cX5_rule 24 = .ok (.ifCond .ne 6, 3) := by decide +kernel
theorem dX5_rule_27 : decode cX5_rule 27 = .ok (.bipush (-2), 2) := by decide +kernel
theorem dX5_rule_29 : decode cX5_rule 29 = .ok (.ireturn, 1) := by decide +kernel
theorem dX5_rule_30 : decode cX5_rule 30 = .ok (.aload_n 0, 1) := by decide +kernel
theorem dX5_rule_31 : decode cX5_rule 31 = .ok (.getfield 62, 3) := by decide +kernel
theorem dX5_rule_34 : decode cX5_rule 34 = .ok (.bipush 6, 2) := by decide +kernel
theorem dX5_rule_36 : decode cX5_rule 36 = .ok (.if_icmp .ne 6, 3) := by decide +kernel
theorem dX5_rule_39 : decode cX5_rule 39 = .ok (.bipush (-4), 2) := by decide +kernel
theorem dX5_rule_41 : decode cX5_rule 41 = .ok (.ireturn, 1) := by decide +kernel
theorem dX5_rule_42 : decode cX5_rule 42 = .ok (.aload_n 0, 1) := by decide +kernel
theorem dX5_rule_43 : decode cX5_rule 43 = .ok (.getfield 7, 3) := by decide +kernel
theorem dX5_rule_46 : decode cX5_rule 46 = .ok (.iconst 3, 1) := by decide +kernel
theorem dX5_rule_47 : decode cX5_rule 47 = .ok (.aload_n 0, 1) := by decide +kernel
theorem dX5_rule_48 : decode cX5_rule 48 = .ok (.getfield 62, 3) := by decide +kernel
theorem dX5_rule_51 : decode cX5_rule 51 = .ok (.imul, 1) := by decide +kernel
theorem dX5_rule_52 : decode cX5_rule 52 = .ok (.iload_n 1, 1) := by decide +kernel
theorem dX5_rule_53 : decode cX5_rule 53 = .ok (.iastore, 1) := by decide +kernel
theorem dX5_rule_54 : decode cX5_rule 54 = .ok (.aload_n 0, 1) := by decide +kernel
theorem dX5_rule_55 : decode cX5_rule 55 = .ok (.getfield 7, 3) := by decide +kernel
theorem dX5_rule_58 : decode cX5_rule 58 = .ok (.iconst 3, 1) := by decide +kernel
theorem dX5_rule_59 : decode cX5_rule 59 = .ok (.aload_n 0, 1) := by decide +kernel
theorem dX5_rule_60 : decode cX5_rule 60 = .ok (.getfield 62, 3) := by decide +kernel
theorem dX5_rule_63 : decode cX5_rule 63 = .ok (.imul, 1) := by decide +kernel
theorem dX5_rule_64 : decode cX5_rule 64 = .ok (.iconst 1, 1) := by decide +kernel
theorem dX5_rule_65 : decode cX5_rule 65 = .ok (.iadd, 1) := by decide +kernel
theorem dX5_rule_66 : decode cX5_rule 66 = .ok (.iload_n 2, 1) := by decide +kernel
theorem dX5_rule_67 : decode cX5_rule 67 = .ok (.iastore, 1) := by decide +kernel
theorem dX5_rule_68 : decode cX5_rule 68 = .ok (.aload_n 0, 1) := by decide +kernel
theorem dX5_rule_69 : decode cX5_rule 69 = .ok (.getfield 7, 3) := by decide +kernel
theorem dX5_rule_72 : decode cX5_rule 72 = .ok (.iconst 3, 1) := by decide +kernel
theorem dX5_rule_73 : decode cX5_rule 73 = .ok (.aload_n 0, 1) := by decide +kernel
theorem dX5_rule_74 : decode cX5_rule 74 = .ok (.getfield 62, 3) := by decide +kernel
theorem dX5_rule_77 : decode cX5_rule 77 = .ok (.imul, 1) := by decide +kernel
theorem dX5_rule_78 : decode cX5_rule 78 = .ok (.iconst 2, 1) := by decide +kernel
theorem dX5_rule_79 : decode cX5_rule 79 = .ok (.iadd, 1) := by decide +kernel
theorem dX5_rule_80 : decode cX5_rule 80 = .ok (.iload_n 3, 1) := by decide +kernel
theorem dX5_rule_81 : decode cX5_rule 81 = .ok (.iastore, 1) := by decide +kernel
theorem dX5_rule_82 : decode cX5_rule 82 = .ok (.aload_n 0, 1) := by decide +kernel
theorem dX5_rule_83 : decode cX5_rule 83 = .ok (.dup, 1) := by decide +kernel
theorem dX5_rule_84 : decode cX5_rule 84 = .ok (.getfield 62, 3) := by decide +kernel
theorem dX5_rule_87 : decode cX5_rule 87 = .ok (.iconst 1, 1) := by decide +kernel
theorem dX5_rule_88 : decode cX5_rule 88 = .ok (.iadd, 1) := by decide +kernel
theorem dX5_rule_89 : decode cX5_rule 89 = .ok (.putfield 62, 3) := by decide +kernel
theorem dX5_rule_92 : decode cX5_rule 92 = .ok (.aload_n 0, 1) := by decide +kernel
theorem dX5_rule_93 : decode cX5_rule 93 = .ok (.getfield 62, 3) := by decide +kernel
theorem dX5_rule_96 : decode cX5_rule 96 = .ok (.ireturn, 1) := by decide +kernel
theorem dX5_forceOf_0 : decode cX5_forceOf 0 = .ok (.bipush (-6), 2) := by decide +kernel
theorem dX5_forceOf_2 : decode cX5_forceOf 2 = .ok (.istore_n 3, 1) := by decide +kernel
theorem dX5_forceOf_3 : decode cX5_forceOf 3 = .ok (.iconst 0, 1) := by decide +kernel
theorem dX5_forceOf_4 : decode cX5_forceOf 4 = .ok (.istore 4, 2) := by decide +kernel
theorem dX5_forceOf_6 : decode cX5_forceOf 6 = .ok (.iload 4, 2) := by decide +kernel
theorem dX5_forceOf_8 : decode cX5_forceOf 8 = .ok (.aload_n 0, 1) := by decide +kernel
theorem dX5_forceOf_9 : decode cX5_forceOf 9 = .ok (.getfield 62, 3) := by decide +kernel
theorem dX5_forceOf_12 : decode cX5_forceOf 12 = .ok (.if_icmp .ge 53, 3) := by decide +kernel
theorem dX5_forceOf_15 : decode cX5_forceOf 15 = .ok (.aload_n 0, 1) := by decide +kernel
theorem dX5_forceOf_16 : decode cX5_forceOf 16 = .ok (.getfield 7, 3) := by decide +kernel
theorem dX5_forceOf_19 : decode cX5_forceOf 19 = .ok (.iconst 3, 1) := by decide +kernel
theorem dX5_forceOf_20 : decode cX5_forceOf 20 = .ok (.iload 4, 2) := by decide +kernel
theorem dX5_forceOf_22 : decode cX5_forceOf 22 = .ok (.imul, 1) := by decide +kernel
theorem dX5_forceOf_23 : decode cX5_forceOf 23 = .ok (.iaload, 1) := by decide +kernel
theorem dX5_forceOf_24 : decode cX5_forceOf 24 = .ok (.iload_n 1, 1) := by decide +kernel
theorem dX5_forceOf_25 : decode cX5_forceOf 25 = .ok (.if_icmp .gt 32, 3) := by decide +kernel
theorem dX5_forceOf_28 : decode cX5_forceOf 28 = .ok (.iload_n 3, 1) := by decide +kernel
theorem dX5_forceOf_29 : decode cX5_forceOf 29 = .ok (.ifCond .lt 23, 3) := by decide +kernel
theorem dX5_forceOf_32 : decode cX5_forceOf 32 = .ok (.aload_n 0, 1) := by decide +kernel
theorem dX5_forceOf_33 : decode cX5_forceOf 33 = .ok (.getfield 7, 3) := by decide +kernel
theorem dX5_forceOf_36 : decode cX5_forceOf 36 = .ok (.iconst 3, 1) := by decide +kernel
theorem dX5_forceOf_37 : decode cX5_forceOf 37 = .ok (.iload 4, 2) := by decide +kernel
theorem dX5_forceOf_39 : decode cX5_forceOf 39 = .ok (.imul, 1) := by decide +kernel
theorem dX5_forceOf_40 : decode cX5_forceOf 40 = .ok (.iaload, 1) := by decide +kernel
theorem dX5_forceOf_41 : decode cX5_forceOf 41 = .ok (.aload_n 0, 1) := by decide +kernel
theorem dX5_forceOf_42 : decode cX5_forceOf 42 = .ok (.getfield 7, 3) := by decide +kernel
theorem dX5_forceOf_45 : decode cX5_forceOf 45 = .ok (.iconst 3, 1) := by decide +kernel
theorem dX5_forceOf_46 : decode cX5_forceOf 46 = .ok (.iload_n 3, 1) := by decide +kernel
theorem dX5_forceOf_47 : decode cX5_forceOf 47 = .ok (.imul, 1) := by decide +kernel
theorem dX5_forceOf_48 : decode cX5_forceOf 48 = .ok (.iaload, 1) := by decide +kernel
theorem dX5_forceOf_49 : decode cX5_forceOf 49 = .ok (.if_icmp .lt 8, 3) := by decide +kernel
theorem dX5_forceOf_52 : decode cX5_forceOf 52 = .ok (.iload 4, 2) := by decide +kernel
theorem dX5_forceOf_54 : decode cX5_forceOf 54 = .ok (.goto 4, 3) := by decide +kernel
theorem dX5_forceOf_57 : decode cX5_forceOf 57 = .ok (.iload_n 3, 1) := by decide +kernel
theorem dX5_forceOf_58 : decode cX5_forceOf 58 = .ok (.istore_n 3, 1) := by decide +kernel
theorem dX5_forceOf_59 : decode cX5_forceOf 59 = .ok (.iinc 4 1, 3) := by decide +kernel
theorem dX5_forceOf_62 : decode cX5_forceOf 62 = .ok (.goto (-56), 3) := by decide +kernel
theorem dX5_forceOf_65 : decode cX5_forceOf 65 = .ok (.iload_n 3, 1) := by decide +kernel
theorem dX5_forceOf_66 : decode cX5_forceOf 66 = .ok (.ifCond .ge 17, 3) := by decide +kernel
theorem dX5_forceOf_69 : decode cX5_forceOf 69 = .ok (.iload_n 2, 1) := by decide +kernel
theorem dX5_forceOf_70 : decode cX5_forceOf 70 = .ok (.ifCond .ne 8, 3) := by decide +kernel
theorem dX5_forceOf_73 : decode cX5_forceOf 73 = .ok (.bipush 12, 2) := by decide +kernel
theorem dX5_forceOf_75 : decode cX5_forceOf 75 = .ok (.goto 20, 3) := by decide +kernel
theorem dX5_forceOf_78 : decode cX5_forceOf 78 = .ok (.bipush 10, 2) := by decide +kernel
theorem dX5_forceOf_80 : decode cX5_forceOf 80 = .ok (.goto 15, 3) := by decide +kernel
theorem dX5_forceOf_83 : decode cX5_forceOf 83 = .ok (.aload_n 0, 1) := by decide +kernel
theorem dX5_forceOf_84 : decode cX5_forceOf 84 = .ok (.getfield 7, 3) := by decide +kernel
theorem dX5_forceOf_87 : decode cX5_forceOf 87 = .ok (.iconst 3, 1) := by decide +kernel
theorem dX5_forceOf_88 : decode cX5_forceOf 88 = .ok (.iload_n 3, 1) := by decide +kernel
theorem dX5_forceOf_89 : decode cX5_forceOf 89 = .ok (.imul, 1) := by decide +kernel
theorem dX5_forceOf_90 : decode cX5_forceOf 90 = .ok (.iconst 1, 1) := by decide +kernel
theorem dX5_forceOf_91 : decode cX5_forceOf 91 = .ok (.iadd, 1) := by decide +kernel
theorem dX5_forceOf_92 : decode cX5_forceOf 92 = .ok (.iload_n 2, 1) := by decide +kernel
theorem dX5_forceOf_93 : decode cX5_forceOf 93 = .ok (.iadd, 1) := by decide +kernel
theorem dX5_forceOf_94 : decode cX5_forceOf 94 = .ok (.iaload, 1) := by decide +kernel
theorem dX5_forceOf_95 : decode cX5_forceOf 95 = .ok (.ireturn, 1) := by decide +kernel
set_option maxRecDepth 20000 in
theorem ggX5_force_X5_isDay : GoodIn wsX5_force wsX5_isDay := goodIn_r _ [4, 5, 6, 3, 7] (by decide +kernel) (by decide +kernel)
set_option maxRecDepth 20000 in
theorem gX5_force_X5_isDay : GoodIn wsX5_force (va_wsS RX5 58 yX5_isDay wsX5_isDay) := goodIn_app (goodIn_of _ (by decide +kernel)) ggX5_force_X5_isDay
set_option maxRecDepth 20000 in
theorem ggX5_force_X5_in : GoodIn wsX5_force wsX5_in := goodIn_r _ [7] (by decide +kernel) (by decide +kernel)
set_option maxRecDepth 20000 in
theorem gX5_force_X5_in : GoodIn wsX5_force (va_wsS RX5 54 yX5_in wsX5_in) := goodIn_app (goodIn_of _ (by decide +kernel)) ggX5_force_X5_in
set_option maxRecDepth 20000 in
theorem ggX5_force_X5_forceOf : GoodIn wsX5_force wsX5_forceOf := goodIn_r _ [11, 12, 13, 14, 15, 16, 17, 18, 19, 20, 21, 22, 23, 24, 25, 26, 27, 28, 29, 30, 31, 32, 33, 34, 35, 36, 37] (by decide +kernel) (by decide +kernel)
set_option maxRecDepth 20000 in
theorem gX5_force_X5_forceOf : GoodIn wsX5_force (wsV RX5 65 RX5 yX5_forceOf wsX5_forceOf) := goodIn_app (goodIn_of _ (by decide +kernel)) ggX5_force_X5_forceOf
theorem dX5_force_0 : decode cX5_force 0 = .ok (.iload_n 1, 1) := by decide +kernel
theorem dX5_force_1 : decode cX5_force 1 = .ok (.invokestatic 58, 3) := by decide +kernel
theorem dX5_force_4 : decode cX5_force 4 = .ok (.ifCond .eq 21, 3) := by decide +kernel
theorem dX5_force_7 : decode cX5_force 7 = .ok (.iload_n 2, 1) := by decide +kernel
theorem dX5_force_8 : decode cX5_force 8 = .ok (.iconst 0, 1) := by decide +kernel
theorem dX5_force_9 : decode cX5_force 9 = .ok (.iconst 1, 1) := by decide +kernel
theorem dX5_force_10 : decode cX5_force 10 = .ok (.invokestatic 54, 3) := by decide +kernel
theorem dX5_force_13 : decode cX5_force 13 = .ok (.ifCond .eq 12, 3) := by decide +kernel
theorem dX5_force_16 : decode cX5_force 16 = .ok (.aload_n 0, 1) := by decide +kernel
theorem dX5_force_17 : decode cX5_force 17 = .ok (.iload_n 1, 1) := by decide +kernel
theorem dX5_force_18 : decode cX5_force 18 = .ok (.iload_n 2, 1) := by decide +kernel
theorem dX5_force_19 : decode cX5_force 19 = .ok (.invokevirtual 65, 3) := by decide +kernel
theorem dX5_force_22 : decode cX5_force 22 = .ok (.goto 5, 3) := by decide +kernel
theorem dX5_force_25 : decode cX5_force 25 = .ok (.bipush (-2), 2) := by decide +kernel
theorem dX5_force_27 : decode cX5_force 27 = .ok (.ireturn, 1) := by decide +kernel
set_option maxRecDepth 20000 in
theorem ggX5_thing_X5_in : GoodIn wsX5_thing wsX5_in := goodIn_r _ [7] (by decide +kernel) (by decide +kernel)
set_option maxRecDepth 20000 in
theorem gX5_thing_X5_in : GoodIn wsX5_thing (va_wsS RX5 54 yX5_in wsX5_in) := goodIn_app (goodIn_of _ (by decide +kernel)) ggX5_thing_X5_in
theorem dX5_thing_0 : decode cX5_thing 0 = .ok (.iload_n 1, 1) := by decide +kernel
theorem dX5_thing_1 : decode cX5_thing 1 = .ok (.iconst 0, 1) := by decide +kernel
theorem dX5_thing_2 : decode cX5_thing 2 = .ok (.iconst 2, 1) := by decide +kernel
theorem dX5_thing_3 : decode cX5_thing 3 = .ok (.invokestatic 54, 3) := by decide +kernel
theorem dX5_thing_6 : decode cX5_thing 6 = .ok (.ifCond .eq 36, 3) := by decide +kernel
theorem dX5_thing_9 : decode cX5_thing 9 = .ok (.iload_n 2, 1) := by decide +kernel
theorem dX5_thing_10 : decode cX5_thing 10 = .ok (.bipush 100, 2) := by decide +kernel
theorem dX5_thing_12 : decode cX5_thing 12 = .ok (.ldc 69, 2) := by decide +kernel
theorem dX5_thing_14 : decode cX5_thing 14 = .ok (.invokestatic 54, 3) := by decide +kernel
theorem dX5_thing_17 : decode cX5_thing 17 = .ok (.ifCond .eq 25, 3) := by decide +kernel
theorem dX5_thing_20 : decode cX5_thing 20 = .ok (.iload_n 3, 1) := by decide +kernel
theorem dX5_thing_21 : decode cX5_thing 21 = .ok (.iconst 1, 1) := by decide +kernel
theorem dX5_thing_22 : decode cX5_thing 22 = .ok (.sipush 9000, 3) := by decide +kernel
theorem dX5_thing_25 : decode cX5_thing 25 = .ok (.invokestatic 54, 3) := by decide +kernel
theorem dX5_thing_28 : decode cX5_thing 28 = .ok (.ifCond .eq 14, 3) := by decide +kernel
theorem dX5_thing_31 : decode cX5_thing 31 = .ok (.iload 4, 2) := by decide +kernel
theorem dX5_thing_33 : decode cX5_thing 33 = .ok (.iconst 0, 1) := by decide +kernel
theorem dX5_thing_34 : decode cX5_thing 34 = .ok (.bipush 50, 2) := by decide +kernel
theorem dX5_thing_36 : decode cX5_thing 36 = .ok (.invokestatic 54, 3) := by decide +kernel
theorem dX5_thing_39 : decode cX5_thing 39 = .ok (.ifCond .ne 6, 3) := by decide +kernel
theorem dX5_thing_42 : decode cX5_thing 42 = .ok (.bipush (-2), 2) := by decide +kernel
theorem dX5_thing_44 : decode cX5_thing 44 = .ok (.ireturn, 1) := by decide +kernel
theorem dX5_thing_45 : decode cX5_thing 45 = .ok (.aload_n 0, 1) := by decide +kernel
theorem dX5_thing_46 : decode cX5_thing 46 = .ok (.getfield 70, 3) := by decide +kernel
theorem dX5_thing_49 : decode cX5_thing 49 = .ok (.bipush 20, 2) := by decide +kernel
theorem dX5_thing_51 : decode cX5_thing 51 = .ok (.if_icmp .ne 6, 3) := by decide +kernel
theorem dX5_thing_54 : decode cX5_thing 54 = .ok (.bipush (-4), 2) := by decide +kernel
theorem dX5_thing_56 : decode cX5_thing 56 = .ok (.ireturn, 1) := by decide +kernel
theorem dX5_thing_57 : decode cX5_thing 57 = .ok (.aload_n 0, 1) := by decide +kernel
theorem dX5_thing_58 : decode cX5_thing 58 = .ok (.getfield 13, 3) := by decide +kernel
theorem dX5_thing_61 : decode cX5_thing 61 = .ok (.iconst 4, 1) := by decide +kernel
theorem dX5_thing_62 : decode cX5_thing 62 = .ok (.aload_n 0, 1) := by decide +kernel
theorem dX5_thing_63 : decode cX5_thing 63 = .ok (.getfield 70, 3) := by decide +kernel
theorem dX5_thing_66 : decode cX5_thing 66 = .ok (.imul, 1) := by decide +kernel
theorem dX5_thing_67 : decode cX5_thing 67 = .ok (.iload_n 1, 1) := by decide +kernel
theorem dX5_thing_68 : decode cX5_thing 68 = .ok (.iastore, 1) := by decide +kernel
theorem dX5_thing_69 : decode cX5_thing 69 = .ok (.aload_n 0, 1) := by decide +kernel
theorem dX5_thing_70 : decode cX5_thing 70 = .ok (.getfield 13, 3) := by decide +kernel
theorem dX5_thing_73 : decode cX5_thing 73 = .ok (.iconst 4, 1) := by decide +kernel
theorem dX5_thing_74 : decode cX5_thing 74 = .ok (.aload_n 0, 1) := by decide +kernel
theorem dX5_thing_75 : decode cX5_thing 75 = .ok (.getfield 70, 3) := by decide +kernel
theorem dX5_thing_78 : decode cX5_thing 78 = .ok (.imul, 1) := by decide +kernel
theorem dX5_thing_79 : decode cX5_thing 79 = .ok (.iconst 1, 1) := by decide +kernel
theorem dX5_thing_80 : decode cX5_thing 80 = .ok (.iadd, 1) := by decide +kernel
theorem dX5_thing_81 : decode cX5_thing 81 = .ok (.iload_n 2, 1) := by decide +kernel
theorem dX5_thing_82 : decode cX5_thing 82 = .ok (.iastore, 1) := by decide +kernel
theorem dX5_thing_83 : decode cX5_thing 83 = .ok (.aload_n 0, 1) := by decide +kernel
theorem dX5_thing_84 : decode cX5_thing 84 = .ok (.getfield 13, 3) := by decide +kernel
theorem dX5_thing_87 : decode cX5_thing 87 = .ok (.iconst 4, 1) := by decide +kernel
theorem dX5_thing_88 : decode cX5_thing 88 = .ok (.aload_n 0, 1) := by decide +kernel
theorem dX5_thing_89 : decode cX5_thing 89 = .ok (.getfield 70, 3) := by decide +kernel
theorem dX5_thing_92 : decode cX5_thing 92 = .ok (.imul, 1) := by decide +kernel
theorem dX5_thing_93 : decode cX5_thing 93 = .ok (.iconst 2, 1) := by decide +kernel
theorem dX5_thing_94 : decode cX5_thing 94 = .ok (.iadd, 1) := by decide +kernel
theorem dX5_thing_95 : decode cX5_thing 95 = .ok (.iload_n 3, 1) := by decide +kernel
theorem dX5_thing_96 : decode cX5_thing 96 = .ok (.iastore, 1) := by decide +kernel
theorem dX5_thing_97 : decode cX5_thing 97 = .ok (.aload_n 0, 1) := by decide +kernel
theorem dX5_thing_98 : decode cX5_thing 98 = .ok (.getfield 13, 3) := by decide +kernel
theorem dX5_thing_101 : decode cX5_thing 101 = .ok (.iconst 4, 1) := by decide +kernel
theorem dX5_thing_102 : decode cX5_thing 102 = .ok (.aload_n 0, 1) := by decide +kernel
theorem dX5_thing_103 : decode cX5_thing 103 = .ok (.getfield 70, 3) := by decide +kernel
theorem dX5_thing_106 : decode cX5_thing 106 = .ok (.imul, 1) := by decide +kernel
theorem dX5_thing_107 : decode cX5_thing 107 = .ok (.iconst 3, 1) := by decide +kernel
theorem dX5_thing_108 : decode cX5_thing 108 = .ok (.iadd, 1) := by decide +kernel
theorem dX5_thing_109 : decode cX5_thing 109 = .ok (.iload 4, 2) := by decide +kernel
theorem dX5_thing_111 : decode cX5_thing 111 = .ok (.iastore, 1) := by decide +kernel
theorem dX5_thing_112 : decode cX5_thing 112 = .ok (.aload_n 0, 1) := by decide +kernel
theorem dX5_thing_113 : decode cX5_thing 113 = .ok (.dup, 1) := by decide +kernel
theorem dX5_thing_114 : decode cX5_thing 114 = .ok (.getfield 70, 3) := by decide +kernel
theorem dX5_thing_117 : decode cX5_thing 117 = .ok (.iconst 1, 1) := by decide +kernel
theorem dX5_thing_118 : decode cX5_thing 118 = .ok (.iadd, 1) := by decide +kernel
theorem dX5_thing_119 : decode cX5_thing 119 = .ok (.putfield 70, 3) := by decide +kernel
theorem dX5_thing_122 : decode cX5_thing 122 = .ok (.aload_n 0, 1) := by decide +kernel
theorem dX5_thing_123 : decode cX5_thing 123 = .ok (.getfield 70, 3) := by decide +kernel
theorem dX5_thing_126 : decode cX5_thing 126 = .ok (.iconst 1, 1) := by decide +kernel
theorem dX5_thing_127 : decode cX5_thing 127 = .ok (.isub, 1) := by decide +kernel
theorem dX5_thing_128 : decode cX5_thing 128 = .ok (.ireturn, 1) := by decide +kernel
set_option maxRecDepth 20000 in
theorem ggX5_isThing_X5_in : GoodIn wsX5_isThing wsX5_in := goodIn_r _ [5] (by decide +kernel) (by decide +kernel)
set_option maxRecDepth 20000 in
theorem gX5_isThing_X5_in : GoodIn wsX5_isThing (va_wsS RX5 54 yX5_in wsX5_in) := goodIn_app (goodIn_of _ (by decide +kernel)) ggX5_isThing_X5_in
theorem dX5_isThing_0 : decode cX5_isThing 0 = .ok (.iload_n 1, 1) := by decide +kernel
theorem dX5_isThing_1 : decode cX5_isThing 1 = .ok (.iconst 0, 1) := by decide +kernel
theorem dX5_isThing_2 : decode cX5_isThing 2 = .ok (.aload_n 0, 1) := by decide +kernel
theorem dX5_isThing_3 : decode cX5_isThing 3 = .ok (.getfield 70, 3) := by decide +kernel
theorem dX5_isThing_6 : decode cX5_isThing 6 = .ok (.iconst 1, 1) := by decide +kernel
theorem dX5_isThing_7 : decode cX5_isThing 7 = .ok (.isub, 1) := by decide +kernel
theorem dX5_isThing_8 : decode cX5_isThing 8 = .ok (.invokestatic 54, 3) := by decide +kernel
theorem dX5_isThing_11 : decode cX5_isThing 11 = .ok (.ireturn, 1) := by decide +kernel
theorem dX5_sizeOn_0 : decode cX5_sizeOn 0 = .ok (.aload_n 0, 1) := by decide +kernel
theorem dX5_sizeOn_1 : decode cX5_sizeOn 1 = .ok (.getfield 13, 3) := by decide +kernel
theorem dX5_sizeOn_4 : decode cX5_sizeOn 4 = .ok (.iconst 4, 1) := by decide +kernel
theorem dX5_sizeOn_5 : decode cX5_sizeOn 5 = .ok (.iload_n 1, 1) := by decide +kernel
theorem dX5_sizeOn_6 : decode cX5_sizeOn 6 = .ok (.imul, 1) := by decide +kernel
theorem dX5_sizeOn_7 : decode cX5_sizeOn 7 = .ok (.iconst 2, 1) := by decide +kernel
theorem dX5_sizeOn_8 : decode cX5_sizeOn 8 = .ok (.iadd, 1) := by decide +kernel
theorem dX5_sizeOn_9 : decode cX5_sizeOn 9 = .ok (.iaload, 1) := by decide +kernel
theorem dX5_sizeOn_10 : decode cX5_sizeOn 10 = .ok (.istore_n 3, 1) := by decide +kernel
theorem dX5_sizeOn_11 : decode cX5_sizeOn 11 = .ok (.iconst 0, 1) := by decide +kernel
theorem dX5_sizeOn_12 : decode cX5_sizeOn 12 = .ok (.istore 4, 2) := by decide +kernel
theorem dX5_sizeOn_14 : decode cX5_sizeOn 14 = .ok (.iconst 0, 1) := by decide +kernel
theorem dX5_sizeOn_15 : decode cX5_sizeOn 15 = .ok (.istore 5, 2) := by decide +kernel
theorem dX5_sizeOn_17 : decode cX5_sizeOn 17 = .ok (.iload 5, 2) := by decide +kernel
theorem dX5_sizeOn_19 : decode cX5_sizeOn 19 = .ok (.aload_n 0, 1) := by decide +kernel
theorem dX5_sizeOn_20 : decode cX5_sizeOn 20 = .ok (.getfield 73, 3) := by decide +kernel
theorem dX5_sizeOn_23 : decode cX5_sizeOn 23 = .ok (.if_icmp .ge 62, 3) := by decide +kernel
theorem dX5_sizeOn_26 : decode cX5_sizeOn 26 = .ok (.aload_n 0, 1) := by decide +kernel
theorem dX5_sizeOn_27 : decode cX5_sizeOn 27 = .ok (.getfield 16, 3) := by decide +kernel
theorem dX5_sizeOn_30 : decode cX5_sizeOn 30 = .ok (.iconst 3, 1) := by decide +kernel
theorem dX5_sizeOn_31 : decode cX5_sizeOn 31 = .ok (.iload 5, 2) := by decide +kernel
theorem dX5_sizeOn_33 : decode cX5_sizeOn 33 = .ok (.imul, 1) := by decide +kernel
theorem dX5_sizeOn_34 : decode cX5_sizeOn 34 = .ok (.iaload, 1) := by decide +kernel
theorem dX5_sizeOn_35 : decode cX5_sizeOn 35 = .ok (.iload_n 1, 1) := by decide +kernel
theorem dX5_sizeOn_36 : decode cX5_sizeOn 36 = .ok (.if_icmp .ne 43, 3) := by decide +kernel
theorem dX5_sizeOn_39 : decode cX5_sizeOn 39 = .ok (.aload_n 0, 1) := by decide +kernel
theorem dX5_sizeOn_40 : decode cX5_sizeOn 40 = .ok (.getfield 16, 3) := by decide +kernel
theorem dX5_sizeOn_43 : decode cX5_sizeOn 43 = .ok (.iconst 3, 1) := by decide +kernel
theorem dX5_sizeOn_44 : decode cX5_sizeOn 44 = .ok (.iload 5, 2) := by decide +kernel
theorem dX5_sizeOn_46 : decode cX5_sizeOn 46 = .ok (.imul, 1) := by decide +kernel
theorem dX5_sizeOn_47 : decode cX5_sizeOn 47 = .ok (.iconst 1, 1) := by decide +kernel
theorem dX5_sizeOn_48 : decode cX5_sizeOn 48 = .ok (.iadd, 1) := by decide +kernel
theorem dX5_sizeOn_49 : decode cX5_sizeOn 49 = .ok (.iaload, 1) := by decide +kernel
theorem dX5_sizeOn_50 : decode cX5_sizeOn 50 = .ok (.iload_n 2, 1) := by decide +kernel
theorem dX5_sizeOn_51 : decode cX5_sizeOn 51 = .ok (.if_icmp .gt 28, 3) := by decide +kernel
theorem dX5_sizeOn_54 : decode cX5_sizeOn 54 = .ok (.aload_n 0, 1) := by decide +kernel
theorem dX5_sizeOn_55 : decode cX5_sizeOn 55 = .ok (.getfield 16, 3) := by decide +kernel
theorem dX5_sizeOn_58 : decode cX5_sizeOn 58 = .ok (.iconst 3, 1) := by decide +kernel
theorem dX5_sizeOn_59 : decode cX5_sizeOn 59 = .ok (.iload 5, 2) := by decide +kernel
theorem dX5_sizeOn_61 : decode cX5_sizeOn 61 = .ok (.imul, 1) := by decide +kernel
theorem dX5_sizeOn_62 : decode cX5_sizeOn 62 = .ok (.iconst 1, 1) := by decide +kernel
theorem dX5_sizeOn_63 : decode cX5_sizeOn 63 = .ok (.iadd, 1) := by decide +kernel
theorem dX5_sizeOn_64 : decode cX5_sizeOn 64 = .ok (.iaload, 1) := by decide +kernel
theorem dX5_sizeOn_65 : decode cX5_sizeOn 65 = .ok (.istore 4, 2) := by decide +kernel
theorem dX5_sizeOn_67 : decode cX5_sizeOn 67 = .ok (.aload_n 0, 1) := by decide +kernel
theorem dX5_sizeOn_68 : decode cX5_sizeOn 68 = .ok (.getfield 16, 3) := by decide +kernel
theorem dX5_sizeOn_71 : decode cX5_sizeOn 71 = .ok (.iconst 3, 1) := by decide +kernel
theorem dX5_sizeOn_72 : decode cX5_sizeOn 72 = .ok (.iload 5, 2) := by decide +kernel
theorem dX5_sizeOn_74 : decode cX5_sizeOn 74 = .ok (.imul, 1) := by decide +kernel
theorem dX5_sizeOn_75 : decode cX5_sizeOn 75 = .ok (.iconst 2, 1) := by decide +kernel
theorem dX5_sizeOn_76 : decode cX5_sizeOn 76 = .ok (.iadd, 1) := by decide +kernel
theorem dX5_sizeOn_77 : decode cX5_sizeOn 77 = .ok (.iaload, 1) := by decide +kernel
theorem dX5_sizeOn_78 : decode cX5_sizeOn 78 = .ok (.istore_n 3, 1) := by decide +kernel
theorem dX5_sizeOn_79 : decode cX5_sizeOn 79 = .ok (.iinc 5 1, 3) := by decide +kernel
theorem dX5_sizeOn_82 : decode cX5_sizeOn 82 = .ok (.goto (-65), 3) := by decide +kernel
theorem dX5_sizeOn_85 : decode cX5_sizeOn 85 = .ok (.aload_n 0, 1) := by decide +kernel
theorem dX5_sizeOn_86 : decode cX5_sizeOn 86 = .ok (.getfield 13, 3) := by decide +kernel
theorem dX5_sizeOn_89 : decode cX5_sizeOn 89 = .ok (.iconst 4, 1) := by decide +kernel
theorem dX5_sizeOn_90 : decode cX5_sizeOn 90 = .ok (.iload_n 1, 1) := by decide +kernel
theorem dX5_sizeOn_91 : decode cX5_sizeOn 91 = .ok (.imul, 1) := by decide +kernel
theorem dX5_sizeOn_92 : decode cX5_sizeOn 92 = .ok (.iaload, 1) := by decide +kernel
theorem dX5_sizeOn_93 : decode cX5_sizeOn 93 = .ok (.iconst 1, 1) := by decide +kernel
theorem dX5_sizeOn_94 : decode cX5_sizeOn 94 = .ok (.if_icmp .ne 26, 3) := by decide +kernel
theorem dX5_sizeOn_97 : decode cX5_sizeOn 97 = .ok (.iload_n 3, 1) := by decide +kernel
theorem dX5_sizeOn_98 : decode cX5_sizeOn 98 = .ok (.aload_n 0, 1) := by decide +kernel
theorem dX5_sizeOn_99 : decode cX5_sizeOn 99 = .ok (.getfield 13, 3) := by decide +kernel
theorem dX5_sizeOn_102 : decode cX5_sizeOn 102 = .ok (.iconst 4, 1) := by decide +kernel
theorem dX5_sizeOn_103 : decode cX5_sizeOn 103 = .ok (.iload_n 1, 1) := by decide +kernel
theorem dX5_sizeOn_104 : decode cX5_sizeOn 104 = .ok (.imul, 1) := by decide +kernel
theorem dX5_sizeOn_105 : decode cX5_sizeOn 105 = .ok (.iconst 3, 1) := by decide +kernel
theorem dX5_sizeOn_106 : decode cX5_sizeOn 106 = .ok (.iadd, 1) := by decide +kernel
theorem dX5_sizeOn_107 : decode cX5_sizeOn 107 = .ok (.iaload, 1) := by decide +kernel
theorem dX5_sizeOn_108 : decode cX5_sizeOn 108 = .ok (.iload_n 2, 1) := by decide +kernel
theorem dX5_sizeOn_109 : decode cX5_sizeOn 109 = .ok (.iload 4, 2) := by decide +kernel
theorem dX5_sizeOn_111 : decode cX5_sizeOn 111 = .ok (.isub, 1) := by decide +kernel
theorem dX5_sizeOn_112 : decode cX5_sizeOn 112 = .ok (.bipush 7, 2) := by decide +kernel
theorem dX5_sizeOn_114 : decode cX5_sizeOn 114 = .ok (.idiv, 1) := by decide +kernel
theorem dX5_sizeOn_115 : decode cX5_sizeOn 115 = .ok (.imul, 1) := by decide +kernel
theorem dX5_sizeOn_116 : decode cX5_sizeOn 116 = .ok (.iadd, 1) := by decide +kernel
theorem dX5_sizeOn_117 : decode cX5_sizeOn 117 = .ok (.goto 4, 3) := by decide +kernel
theorem dX5_sizeOn_120 : decode cX5_sizeOn 120 = .ok (.iload_n 3, 1) := by decide +kernel
theorem dX5_sizeOn_121 : decode cX5_sizeOn 121 = .ok (.ireturn, 1) := by decide +kernel
set_option maxRecDepth 20000 in
theorem ggX5_clip_X5_isThing : GoodIn wsX5_clip wsX5_isThing := goodIn_r _ [8, 9, 10, 11, 7, 12, 20, 21, 22, 23, 24, 25, 26, 27, 28, 29, 30, 31, 32, 33, 34, 35, 36, 37, 38, 39, 40, 41, 42, 43] (by decide +kernel) (by decide +kernel)
set_option maxRecDepth 20000 in
theorem gX5_clip_X5_isThing : GoodIn wsX5_clip (wsV RX5 76 RX5 yX5_isThing wsX5_isThing) := goodIn_app (goodIn_of _ (by decide +kernel)) ggX5_clip_X5_isThing
set_option maxRecDepth 20000 in
theorem ggX5_clip_X5_isDay : GoodIn wsX5_clip wsX5_isDay := goodIn_r _ [15, 10, 11, 7, 12] (by decide +kernel) (by decide +kernel)
set_option maxRecDepth 20000 in
theorem gX5_clip_X5_isDay : GoodIn wsX5_clip (va_wsS RX5 58 yX5_isDay wsX5_isDay) := goodIn_app (goodIn_of _ (by decide +kernel)) ggX5_clip_X5_isDay
set_option maxRecDepth 20000 in
theorem ggX5_clip_X5_in : GoodIn wsX5_clip wsX5_in := goodIn_r _ [12] (by decide +kernel) (by decide +kernel)
set_option maxRecDepth 20000 in
theorem gX5_clip_X5_in : GoodIn wsX5_clip (va_wsS RX5 54 yX5_in wsX5_in) := goodIn_app (goodIn_of _ (by decide +kernel)) ggX5_clip_X5_in
set_option maxRecDepth 20000 in
theorem ggX5_clip_X5_sizeOn : GoodIn wsX5_clip wsX5_sizeOn := goodIn_r _ [19, 1, 2, 3, 20, 21, 22, 23, 24, 25, 26, 27, 28, 29, 30, 31, 32, 33, 34, 35, 36, 37, 38, 39, 40, 41, 42, 43] (by decide +kernel) (by decide +kernel)
set_option maxRecDepth 20000 in
theorem gX5_clip_X5_sizeOn : GoodIn wsX5_clip (wsV RX5 79 RX5 yX5_sizeOn wsX5_sizeOn) := goodIn_app (goodIn_of _ (by decide +kernel)) ggX5_clip_X5_sizeOn
theorem dX5_clip_0 : decode cX5_clip 0 = .ok (.aload_n 0, 1) := by decide +kernel
theorem dX5_clip_1 : decode cX5_clip 1 = .ok (.iload_n 1, 1) := by decide +kernel
theorem dX5_clip_2 : decode cX5_clip 2 = .ok (.invokevirtual 76, 3) := by decide +kernel
theorem dX5_clip_5 : decode cX5_clip 5 = .ok (.ifCond .ne 5, 3) := by decide +kernel
theorem dX5_clip_8 : decode cX5_clip 8 = .ok (.iconst (-1), 1) := by decide +kernel
theorem dX5_clip_9 : decode cX5_clip 9 = .ok (.ireturn, 1) := by decide +kernel
theorem dX5_clip_10 : decode cX5_clip 10 = .ok (.iload_n 2, 1) := by decide +kernel
theorem dX5_clip_11 : decode cX5_clip 11 = .ok (.invokestatic 58, 3) := by decide +kernel
theorem dX5_clip_14 : decode cX5_clip 14 = .ok (.ifCond .eq 14, 3) := by decide +kernel
theorem dX5_clip_17 : decode cX5_clip 17 = .ok (.iload_n 3, 1) := by decide +kernel
theorem dX5_clip_18 : decode cX5_clip 18 = .ok (.iconst 1, 1) := by decide +kernel
theorem dX5_clip_19 : decode cX5_clip 19 = .ok (.sipush 9000, 3) := by decide +kernel
theorem dX5_clip_22 : decode cX5_clip 22 = .ok (.invokestatic 54, 3) := by decide +kernel
theorem dX5_clip_25 : decode cX5_clip 25 = .ok (.ifCond .ne 6, 3) := by decide +kernel
theorem dX5_clip_28 : decode cX5_clip 28 = .ok (.bipush (-2), 2) := by decide +kernel
theorem dX5_clip_30 : decode cX5_clip 30 = .ok (.ireturn, 1) := by decide +kernel
theorem dX5_clip_31 : decode cX5_clip 31 = .ok (.aload_n 0, 1) := by decide +kernel
theorem dX5_clip_32 : decode cX5_clip 32 = .ok (.getfield 13, 3) := by decide +kernel
theorem dX5_clip_35 : decode cX5_clip 35 = .ok (.iconst 4, 1) := by decide +kernel
theorem dX5_clip_36 : decode cX5_clip 36 = .ok (.iload_n 1, 1) := by decide +kernel
theorem dX5_clip_37 : decode cX5_clip 37 = .ok (.imul, 1) := by decide +kernel
theorem dX5_clip_38 : decode cX5_clip 38 = .ok (.iaload, 1) := by decide +kernel
theorem dX5_clip_39 : decode cX5_clip 39 = .ok (.iconst 1, 1) := by decide +kernel
theorem dX5_clip_40 : decode cX5_clip 40 = .ok (.if_icmp .eq 6, 3) := by decide +kernel
theorem dX5_clip_43 : decode cX5_clip 43 = .ok (.bipush (-3), 2) := by decide +kernel
theorem dX5_clip_45 : decode cX5_clip 45 = .ok (.ireturn, 1) := by decide +kernel
theorem dX5_clip_46 : decode cX5_clip 46 = .ok (.aload_n 0, 1) := by decide +kernel
theorem dX5_clip_47 : decode cX5_clip 47 = .ok (.getfield 73, 3) := by decide +kernel
theorem dX5_clip_50 : decode cX5_clip 50 = .ok (.bipush 60, 2) := by decide +kernel
theorem dX5_clip_52 : decode cX5_clip 52 = .ok (.if_icmp .ne 6, 3) := by decide +kernel
theorem dX5_clip_55 : decode cX5_clip 55 = .ok (.bipush (-4), 2) := by decide +kernel
theorem dX5_clip_57 : decode cX5_clip 57 = .ok (.ireturn, 1) := by decide +kernel
theorem dX5_clip_58 : decode cX5_clip 58 = .ok (.iconst 0, 1) := by decide +kernel
theorem dX5_clip_59 : decode cX5_clip 59 = .ok (.istore 4, 2) := by decide +kernel
theorem dX5_clip_61 : decode cX5_clip 61 = .ok (.iload 4, 2) := by decide +kernel
theorem dX5_clip_63 : decode cX5_clip 63 = .ok (.aload_n 0, 1) := by decide +kernel
theorem dX5_clip_64 : decode cX5_clip 64 = .ok (.getfield 73, 3) := by decide +kernel
theorem dX5_clip_67 : decode cX5_clip 67 = .ok (.if_icmp .ge 40, 3) := by decide +kernel
theorem dX5_clip_70 : decode cX5_clip 70 = .ok (.aload_n 0, 1) := by decide +kernel
theorem dX5_clip_71 : decode cX5_clip 71 = .ok (.getfield 16, 3) := by decide +kernel
theorem dX5_clip_74 : decode cX5_clip 74 = .ok (.iconst 3, 1) := by decide +kernel
theorem dX5_clip_75 : decode cX5_clip 75 = .ok (.iload 4, 2) := by decide +kernel
theorem dX5_clip_77 : decode cX5_clip 77 = .ok (.imul, 1) := by decide +kernel
theorem dX5_clip_78 : decode cX5_clip 78 = .ok (.iaload, 1) := by decide +kernel
theorem dX5_clip_79 : decode cX5_clip 79 = .ok (.iload_n 1, 1) := by decide +kernel
theorem dX5_clip_80 : decode cX5_clip 80 = .ok (.if_icmp .ne 21, 3) := by decide +kernel
theorem dX5_clip_83 : decode cX5_clip 83 = .ok (.aload_n 0, 1) := by decide +kernel
theorem dX5_clip_84 : decode cX5_clip 84 = .ok (.getfield 16, 3) := by decide +kernel
theorem dX5_clip_87 : decode cX5_clip 87 = .ok (.iconst 3, 1) := by decide +kernel
theorem dX5_clip_88 : decode cX5_clip 88 = .ok (.iload 4, 2) := by decide +kernel
theorem dX5_clip_90 : decode cX5_clip 90 = .ok (.imul, 1) := by decide +kernel
theorem dX5_clip_91 : decode cX5_clip 91 = .ok (.iconst 1, 1) := by decide +kernel
theorem dX5_clip_92 : decode cX5_clip 92 = .ok (.iadd, 1) := by decide +kernel
theorem dX5_clip_93 : decode cX5_clip 93 = .ok (.iaload, 1) := by decide +kernel
theorem dX5_clip_94 : decode cX5_clip 94 = .ok (.iload_n 2, 1) := by decide +kernel
theorem dX5_clip_95 : decode cX5_clip 95 = .ok (.if_icmp .le 6, 3) := by decide +kernel
theorem dX5_clip_98 : decode cX5_clip 98 = .ok (.bipush (-5), 2) := by decide +kernel
theorem dX5_clip_100 : decode cX5_clip 100 = .ok (.ireturn, 1) := by decide +kernel
theorem dX5_clip_101 : decode cX5_clip 101 = .ok (.iinc 4 1, 3) := by decide +kernel
theorem dX5_clip_104 : decode cX5_clip 104 = .ok (.goto (-43), 3) := by decide +kernel
theorem dX5_clip_107 : decode cX5_clip 107 = .ok (.aload_n 0, 1) := by decide +kernel
theorem dX5_clip_108 : decode cX5_clip 108 = .ok (.iload_n 1, 1) := by decide +kernel
theorem dX5_clip_109 : decode cX5_clip 109 = .ok (.iload_n 2, 1) := by decide +kernel
theorem dX5_clip_110 : decode cX5_clip 110 = .ok (.invokevirtual 79, 3) := by decide +kernel
theorem dX5_clip_113 : decode cX5_clip 113 = .ok (.istore 4, 2) := by decide +kernel
theorem dX5_clip_115 : decode cX5_clip 115 = .ok (.aload_n 0, 1) := by decide +kernel
theorem dX5_clip_116 : decode cX5_clip 116 = .ok (.getfield 16, 3) := by decide +kernel
theorem dX5_clip_119 : decode cX5_clip 119 = .ok (.iconst 3, 1) := by decide +kernel
theorem dX5_clip_120 : decode cX5_clip 120 = .ok (.aload_n 0, 1) := by decide +kernel
theorem dX5_clip_121 : decode cX5_clip 121 = .ok (.getfield 73, 3) := by decide +kernel
theorem dX5_clip_124 : decode cX5_clip 124 = .ok (.imul, 1) := by decide +kernel
theorem dX5_clip_125 : decode cX5_clip 125 = .ok (.iload_n 1, 1) := by decide +kernel
theorem dX5_clip_126 : decode cX5_clip 126 = .ok (.iastore, 1) := by decide +kernel
theorem dX5_clip_127 : decode cX5_clip 127 = .ok (.aload_n 0, 1) := by decide +kernel
theorem dX5_clip_128 : decode cX5_clip 128 = .ok (.getfield 16, 3) := by decide +kernel
theorem dX5_clip_131 : decode cX5_clip 131 = .ok (.iconst 3, 1) := by decide +kernel
theorem dX5_clip_132 : decode cX5_clip 132 = .ok (.aload_n 0, 1) := by decide +kernel
theorem dX5_clip_133 : decode cX5_clip 133 = .ok (.getfield 73, 3) := by decide +kernel
theorem dX5_clip_136 : decode cX5_clip 136 = .ok (.imul, 1) := by decide +kernel
theorem dX5_clip_137 : decode cX5_clip 137 = .ok (.iconst 1, 1) := by decide +kernel
theorem dX5_clip_138 : decode cX5_clip 138 = .ok (.iadd, 1) := by decide +kernel
theorem dX5_clip_139 : decode cX5_clip 139 = .ok (.iload_n 2, 1) := by decide +kernel
theorem dX5_clip_140 : decode cX5_clip 140 = .ok (.iastore, 1) := by decide +kernel
theorem dX5_clip_141 : decode cX5_clip 141 = .ok (.aload_n 0, 1) := by decide +kernel
theorem dX5_clip_142 : decode cX5_clip 142 = .ok (.getfield 16, 3) := by decide +kernel
theorem dX5_clip_145 : decode cX5_clip 145 = .ok (.iconst 3, 1) := by decide +kernel
theorem dX5_clip_146 : decode cX5_clip 146 = .ok (.aload_n 0, 1) := by decide +kernel
theorem dX5_clip_147 : decode cX5_clip 147 = .ok (.getfield 73, 3) := by decide +kernel
theorem dX5_clip_150 : decode cX5_clip 150 = .ok (.imul, 1) := by decide +kernel
theorem dX5_clip_151 : decode cX5_clip 151 = .ok (.iconst 2, 1) := by decide +kernel
theorem dX5_clip_152 : decode cX5_clip 152 = .ok (.iadd, 1) := by decide +kernel
theorem dX5_clip_153 : decode cX5_clip 153 = .ok (.iload_n 3, 1) := by decide +kernel
theorem dX5_clip_154 : decode cX5_clip 154 = .ok (.iastore, 1) := by decide +kernel
theorem dX5_clip_155 : decode cX5_clip 155 = .ok (.aload_n 0, 1) := by decide +kernel
theorem dX5_clip_156 : decode cX5_clip 156 = .ok (.dup, 1) := by decide +kernel
theorem dX5_clip_157 : decode cX5_clip 157 = .ok (.getfield 73, 3) := by decide +kernel
theorem dX5_clip_160 : decode cX5_clip 160 = .ok (.iconst 1, 1) := by decide +kernel
theorem dX5_clip_161 : decode cX5_clip 161 = .ok (.iadd, 1) := by decide +kernel
theorem dX5_clip_162 : decode cX5_clip 162 = .ok (.putfield 73, 3) := by decide +kernel
theorem dX5_clip_165 : decode cX5_clip 165 = .ok (.iload 4, 2) := by decide +kernel
theorem dX5_clip_167 : decode cX5_clip 167 = .ok (.ireturn, 1) := by decide +kernel
set_option maxRecDepth 20000 in
theorem ggX5_faultOn_X5_forceOf : GoodIn wsX5_faultOn wsX5_forceOf := goodIn_r _ [6, 7, 8, 15, 16, 17, 18, 19, 20, 21, 22, 23, 24, 25, 26, 27, 28, 29, 30, 31, 32, 33, 34, 35, 36, 37, 38] (by decide +kernel) (by decide +kernel)
set_option maxRecDepth 20000 in
theorem gX5_faultOn_X5_forceOf : GoodIn wsX5_faultOn (wsV RX5 65 RX5 yX5_forceOf wsX5_forceOf) := goodIn_app (goodIn_of _ (by decide +kernel)) ggX5_faultOn_X5_forceOf
set_option maxRecDepth 20000 in
theorem ggX5_faultOn_X5_sizeOn : GoodIn wsX5_faultOn wsX5_sizeOn := goodIn_r _ [12, 1, 13, 14, 15, 16, 17, 18, 19, 20, 21, 22, 23, 24, 25, 26, 27, 28, 29, 30, 31, 32, 33, 34, 35, 36, 37, 38] (by decide +kernel) (by decide +kernel)
set_option maxRecDepth 20000 in
theorem gX5_faultOn_X5_sizeOn : GoodIn wsX5_faultOn (wsV RX5 79 RX5 yX5_sizeOn wsX5_sizeOn) := goodIn_app (goodIn_of _ (by decide +kernel)) ggX5_faultOn_X5_sizeOn
theorem dX5_faultOn_0 : decode cX5_faultOn 0 = .ok (.aload_n 0, 1) := by decide +kernel
theorem dX5_faultOn_1 : decode cX5_faultOn 1 = .ok (.getfield 13, 3) := by decide +kernel
theorem dX5_faultOn_4 : decode cX5_faultOn 4 = .ok (.iconst 4, 1) := by decide +kernel
theorem dX5_faultOn_5 : decode cX5_faultOn 5 = .ok (.iload_n 1, 1) := by decide +kernel
theorem dX5_faultOn_6 : decode cX5_faultOn 6 = .ok (.imul, 1) := by decide +kernel
theorem dX5_faultOn_7 : decode cX5_faultOn 7 = .ok (.iconst 1, 1) := by decide +kernel
theorem dX5_faultOn_8 : decode cX5_faultOn 8 = .ok (.iadd, 1) := by decide +kernel
theorem dX5_faultOn_9 : decode cX5_faultOn 9 = .ok (.iaload, 1) := by decide +kernel
theorem dX5_faultOn_10 : decode cX5_faultOn 10 = .ok (.aload_n 0, 1) := by decide +kernel
theorem dX5_faultOn_11 : decode cX5_faultOn 11 = .ok (.iload_n 2, 1) := by decide +kernel
theorem dX5_faultOn_12 : decode cX5_faultOn 12 = .ok (.iconst 0, 1) := by decide +kernel
theorem dX5_faultOn_13 : decode cX5_faultOn 13 = .ok (.invokevirtual 65, 3) := by decide +kernel
theorem dX5_faultOn_16 : decode cX5_faultOn 16 = .ok (.idiv, 1) := by decide +kernel
theorem dX5_faultOn_17 : decode cX5_faultOn 17 = .ok (.istore_n 3, 1) := by decide +kernel
theorem dX5_faultOn_18 : decode cX5_faultOn 18 = .ok (.aload_n 0, 1) := by decide +kernel
theorem dX5_faultOn_19 : decode cX5_faultOn 19 = .ok (.iload_n 1, 1) := by decide +kernel
theorem dX5_faultOn_20 : decode cX5_faultOn 20 = .ok (.iload_n 2, 1) := by decide +kernel
theorem dX5_faultOn_21 : decode cX5_faultOn 21 = .ok (.invokevirtual 79, 3) := by decide +kernel
theorem dX5_faultOn_24 : decode cX5_faultOn 24 = .ok (.iload_n 3, 1) := by decide +kernel
theorem dX5_faultOn_25 : decode cX5_faultOn 25 = .ok (.isub, 1) := by decide +kernel
theorem dX5_faultOn_26 : decode cX5_faultOn 26 = .ok (.istore 4, 2) := by decide +kernel
theorem dX5_faultOn_28 : decode cX5_faultOn 28 = .ok (.iload_n 3, 1) := by decide +kernel
theorem dX5_faultOn_29 : decode cX5_faultOn 29 = .ok (.aload_n 0, 1) := by decide +kernel
theorem dX5_faultOn_30 : decode cX5_faultOn 30 = .ok (.iload_n 2, 1) := by decide +kernel
theorem dX5_faultOn_31 : decode cX5_faultOn 31 = .ok (.iconst 1, 1) := by decide +kernel
theorem dX5_faultOn_32 : decode cX5_faultOn 32 = .ok (.invokevirtual 65, 3) := by decide +kernel
theorem dX5_faultOn_35 : decode cX5_faultOn 35 = .ok (.imul, 1) := by decide +kernel
theorem dX5_faultOn_36 : decode cX5_faultOn 36 = .ok (.bipush 100, 2) := by decide +kernel
theorem dX5_faultOn_38 : decode cX5_faultOn 38 = .ok (.idiv, 1) := by decide +kernel
theorem dX5_faultOn_39 : decode cX5_faultOn 39 = .ok (.istore 5, 2) := by decide +kernel
theorem dX5_faultOn_41 : decode cX5_faultOn 41 = .ok (.aload_n 0, 1) := by decide +kernel
theorem dX5_faultOn_42 : decode cX5_faultOn 42 = .ok (.getfield 13, 3) := by decide +kernel
theorem dX5_faultOn_45 : decode cX5_faultOn 45 = .ok (.iconst 4, 1) := by decide +kernel
theorem dX5_faultOn_46 : decode cX5_faultOn 46 = .ok (.iload_n 1, 1) := by decide +kernel
theorem dX5_faultOn_47 : decode cX5_faultOn 47 = .ok (.imul, 1) := by decide +kernel
theorem dX5_faultOn_48 : decode cX5_faultOn 48 = .ok (.iaload, 1) := by decide +kernel
theorem dX5_faultOn_49 : decode cX5_faultOn 49 = .ok (.istore 6, 2) := by decide +kernel
theorem dX5_faultOn_51 : decode cX5_faultOn 51 = .ok (.iload 6, 2) := by decide +kernel
theorem dX5_faultOn_53 : decode cX5_faultOn 53 = .ok (.iconst 2, 1) := by decide +kernel
theorem dX5_faultOn_54 : decode cX5_faultOn 54 = .ok (.if_icmp .eq 14, 3) := by decide +kernel
theorem dX5_faultOn_57 : decode cX5_faultOn 57 = .ok (.iload 4, 2) := by decide +kernel
theorem dX5_faultOn_59 : decode cX5_faultOn 59 = .ok (.iload 5, 2) := by decide +kernel
theorem dX5_faultOn_61 : decode cX5_faultOn 61 = .ok (.if_icmp .le 7, 3) := by decide +kernel
theorem dX5_faultOn_64 : decode cX5_faultOn 64 = .ok (.iconst 1, 1) := by decide +kernel
theorem dX5_faultOn_65 : decode cX5_faultOn 65 = .ok (.goto 22, 3) := by decide +kernel
theorem dX5_faultOn_68 : decode cX5_faultOn 68 = .ok (.iload 6, 2) := by decide +kernel
theorem dX5_faultOn_70 : decode cX5_faultOn 70 = .ok (.iconst 1, 1) := by decide +kernel
theorem dX5_faultOn_71 : decode cX5_faultOn 71 = .ok (.if_icmp .eq 15, 3) := by decide +kernel
theorem dX5_faultOn_74 : decode cX5_faultOn 74 = .ok (.iload 4, 2) := by decide +kernel
theorem dX5_faultOn_76 : decode cX5_faultOn 76 = .ok (.ineg, 1) := by decide +kernel
theorem dX5_faultOn_77 : decode cX5_faultOn 77 = .ok (.iload 5, 2) := by decide +kernel
theorem dX5_faultOn_79 : decode cX5_faultOn 79 = .ok (.if_icmp .le 7, 3) := by decide +kernel
theorem dX5_faultOn_82 : decode cX5_faultOn 82 = .ok (.iconst 2, 1) := by decide +kernel
theorem dX5_faultOn_83 : decode cX5_faultOn 83 = .ok (.goto 4, 3) := by decide +kernel
theorem dX5_faultOn_86 : decode cX5_faultOn 86 = .ok (.iconst 0, 1) := by decide +kernel
theorem dX5_faultOn_87 : decode cX5_faultOn 87 = .ok (.ireturn, 1) := by decide +kernel
set_option maxRecDepth 20000 in
theorem ggX5_look_X5_isThing : GoodIn wsX5_look wsX5_isThing := goodIn_r _ [6, 7, 8, 9, 5, 10, 30, 31, 32, 33, 34, 35, 36, 37, 38, 39, 40, 41, 42, 43, 44, 45, 46, 47, 48, 49, 50, 51, 52, 53] (by decide +kernel) (by decide +kernel)
set_option maxRecDepth 20000 in
theorem gX5_look_X5_isThing : GoodIn wsX5_look (wsV RX5 76 RX5 yX5_isThing wsX5_isThing) := goodIn_app (goodIn_of _ (by decide +kernel)) ggX5_look_X5_isThing
set_option maxRecDepth 20000 in
theorem ggX5_look_X5_isDay : GoodIn wsX5_look wsX5_isDay := goodIn_r _ [13, 8, 9, 5, 10] (by decide +kernel) (by decide +kernel)
set_option maxRecDepth 20000 in
theorem gX5_look_X5_isDay : GoodIn wsX5_look (va_wsS RX5 58 yX5_isDay wsX5_isDay) := goodIn_app (goodIn_of _ (by decide +kernel)) ggX5_look_X5_isDay
set_option maxRecDepth 20000 in
theorem ggX5_look_X5_in : GoodIn wsX5_look wsX5_in := goodIn_r _ [10] (by decide +kernel) (by decide +kernel)
set_option maxRecDepth 20000 in
theorem gX5_look_X5_in : GoodIn wsX5_look (va_wsS RX5 54 yX5_in wsX5_in) := goodIn_app (goodIn_of _ (by decide +kernel)) ggX5_look_X5_in
set_option maxRecDepth 20000 in
theorem ggX5_look_X5_sizeOn : GoodIn wsX5_look wsX5_sizeOn := goodIn_r _ [17, 1, 18, 19, 30, 31, 32, 33, 34, 35, 36, 37, 38, 39, 40, 41, 42, 43, 44, 45, 46, 47, 48, 49, 50, 51, 52, 53] (by decide +kernel) (by decide +kernel)
set_option maxRecDepth 20000 in
theorem gX5_look_X5_sizeOn : GoodIn wsX5_look (wsV RX5 79 RX5 yX5_sizeOn wsX5_sizeOn) := goodIn_app (goodIn_of _ (by decide +kernel)) ggX5_look_X5_sizeOn
set_option maxRecDepth 20000 in
theorem ggX5_look_X5_forceOf : GoodIn wsX5_look wsX5_forceOf := goodIn_r _ [23, 24, 25, 30, 31, 32, 33, 34, 35, 36, 37, 38, 39, 40, 41, 42, 43, 44, 45, 46, 47, 48, 49, 50, 51, 52, 53] (by decide +kernel) (by decide +kernel)
set_option maxRecDepth 20000 in
theorem gX5_look_X5_forceOf : GoodIn wsX5_look (wsV RX5 65 RX5 yX5_forceOf wsX5_forceOf) := goodIn_app (goodIn_of _ (by decide +kernel)) ggX5_look_X5_forceOf
set_option maxRecDepth 20000 in
theorem ggX5_look_X5_faultOn : GoodIn wsX5_look wsX5_faultOn := goodIn_r _ [29, 1, 20, 21, 22, 5, 23, 24, 25, 14, 15, 16, 17, 18, 19, 30, 31, 32, 33, 34, 35, 36, 37, 38, 39, 40, 41, 42, 43, 44, 45, 46, 47, 48, 49, 50, 51, 52, 53] (by decide +kernel) (by decide +kernel)
set_option maxRecDepth 20000 in
theorem gX5_look_X5_faultOn : GoodIn wsX5_look (wsV RX5 82 RX5 yX5_faultOn wsX5_faultOn) := goodIn_app (goodIn_of _ (by decide +kernel)) ggX5_look_X5_faultOn
theorem dX5_look_0 : decode cX5_look 0 = .ok (.aload_n 0, 1) := by decide +kernel
theorem dX5_look_1 : decode cX5_look 1 = .ok (.iload_n 1, 1) := by decide +kernel
theorem dX5_look_2 : decode cX5_look 2 = .ok (.invokevirtual 76, 3) := by decide +kernel
theorem dX5_look_5 : decode cX5_look 5 = .ok (.ifCond .ne 5, 3) := by decide +kernel
theorem dX5_look_8 : decode cX5_look 8 = .ok (.iconst (-1), 1) := by decide +kernel
theorem dX5_look_9 : decode cX5_look 9 = .ok (.ireturn, 1) := by decide +kernel
theorem dX5_look_10 : decode cX5_look 10 = .ok (.iload_n 2, 1) := by decide +kernel
theorem dX5_look_11 : decode cX5_look 11 = .ok (.invokestatic 58, 3) := by decide +kernel
theorem dX5_look_14 : decode cX5_look 14 = .ok (.ifCond .eq 12, 3) := by decide +kernel
theorem dX5_look_17 : decode cX5_look 17 = .ok (.iload_n 3, 1) := by decide +kernel
theorem dX5_look_18 : decode cX5_look 18 = .ok (.iconst 0, 1) := by decide +kernel
theorem dX5_look_19 : decode cX5_look 19 = .ok (.iconst 2, 1) := by decide +kernel
theorem dX5_look_20 : decode cX5_look 20 = .ok (.invokestatic 54, 3) := by decide +kernel
theorem dX5_look_23 : decode cX5_look 23 = .ok (.ifCond .ne 6, 3) := by decide +kernel
theorem dX5_look_26 : decode cX5_look 26 = .ok (.bipush (-2), 2) := by decide +kernel
theorem dX5_look_28 : decode cX5_look 28 = .ok (.ireturn, 1) := by decide +kernel
theorem dX5_look_29 : decode cX5_look 29 = .ok (.iload_n 3, 1) := by decide +kernel
theorem dX5_look_30 : decode cX5_look 30 = .ok (.ifCond .ne 12, 3) := by decide +kernel
theorem dX5_look_33 : decode cX5_look 33 = .ok (.aload_n 0, 1) := by decide +kernel
theorem dX5_look_34 : decode cX5_look 34 = .ok (.iload_n 1, 1) := by decide +kernel
theorem dX5_look_35 : decode cX5_look 35 = .ok (.iload_n 2, 1) := by decide +kernel
theorem dX5_look_36 : decode cX5_look 36 = .ok (.invokevirtual 79, 3) := by decide +kernel
theorem dX5_look_39 : decode cX5_look 39 = .ok (.goto 34, 3) := by decide +kernel
theorem dX5_look_42 : decode cX5_look 42 = .ok (.iload_n 3, 1) := by decide +kernel
theorem dX5_look_43 : decode cX5_look 43 = .ok (.iconst 1, 1) := by decide +kernel
theorem dX5_look_44 : decode cX5_look 44 = .ok (.if_icmp .ne 23, 3) := by decide +kernel
theorem dX5_look_47 : decode cX5_look 47 = .ok (.aload_n 0, 1) := by decide +kernel
theorem dX5_look_48 : decode cX5_look 48 = .ok (.getfield 13, 3) := by decide +kernel
theorem dX5_look_51 : decode cX5_look 51 = .ok (.iconst 4, 1) := by decide +kernel
theorem dX5_look_52 : decode cX5_look 52 = .ok (.iload_n 1, 1) := by decide +kernel
theorem dX5_look_53 : decode cX5_look 53 = .ok (.imul, 1) := by decide +kernel
theorem dX5_look_54 : decode cX5_look 54 = .ok (.iconst 1, 1) := by decide +kernel
theorem dX5_look_55 : decode cX5_look 55 = .ok (.iadd, 1) := by decide +kernel
theorem dX5_look_56 : decode cX5_look 56 = .ok (.iaload, 1) := by decide +kernel
theorem dX5_look_57 : decode cX5_look 57 = .ok (.aload_n 0, 1) := by decide +kernel
theorem dX5_look_58 : decode cX5_look 58 = .ok (.iload_n 2, 1) := by decide +kernel
theorem dX5_look_59 : decode cX5_look 59 = .ok (.iconst 0, 1) := by decide +kernel
theorem dX5_look_60 : decode cX5_look 60 = .ok (.invokevirtual 65, 3) := by decide +kernel
theorem dX5_look_63 : decode cX5_look 63 = .ok (.idiv, 1) := by decide +kernel
theorem dX5_look_64 : decode cX5_look 64 = .ok (.goto 9, 3) := by decide +kernel
theorem dX5_look_67 : decode cX5_look 67 = .ok (.aload_n 0, 1) := by decide +kernel
theorem dX5_look_68 : decode cX5_look 68 = .ok (.iload_n 1, 1) := by decide +kernel
theorem dX5_look_69 : decode cX5_look 69 = .ok (.iload_n 2, 1) := by decide +kernel
theorem dX5_look_70 : decode cX5_look 70 = .ok (.invokevirtual 82, 3) := by decide +kernel
theorem dX5_look_73 : decode cX5_look 73 = .ok (.ireturn, 1) := by decide +kernel
set_option maxRecDepth 20000 in
theorem ggX5_fault_X5_isDay : GoodIn wsX5_fault wsX5_isDay := goodIn_r _ [5, 6, 7, 4, 8] (by decide +kernel) (by decide +kernel)
set_option maxRecDepth 20000 in
theorem gX5_fault_X5_isDay : GoodIn wsX5_fault (va_wsS RX5 58 yX5_isDay wsX5_isDay) := goodIn_app (goodIn_of _ (by decide +kernel)) ggX5_fault_X5_isDay
set_option maxRecDepth 20000 in
theorem ggX5_fault_X5_faultOn : GoodIn wsX5_fault wsX5_faultOn := goodIn_r _ [12, 13, 14, 15, 16, 4, 17, 18, 19, 20, 21, 22, 23, 24, 25, 26, 27, 28, 29, 30, 31, 32, 33, 34, 35, 36, 37, 38, 39, 40, 41, 42, 43, 44, 45, 46, 47, 48, 49] (by decide +kernel) (by decide +kernel)
set_option maxRecDepth 20000 in
theorem gX5_fault_X5_faultOn : GoodIn wsX5_fault (wsV RX5 82 RX5 yX5_faultOn wsX5_faultOn) := goodIn_app (goodIn_of _ (by decide +kernel)) ggX5_fault_X5_faultOn
theorem dX5_fault_0 : decode cX5_fault 0 = .ok (.iload_n 1, 1) := by decide +kernel
theorem dX5_fault_1 : decode cX5_fault 1 = .ok (.invokestatic 58, 3) := by decide +kernel
theorem dX5_fault_4 : decode cX5_fault 4 = .ok (.ifCond .ne 6, 3) := by decide +kernel
theorem dX5_fault_7 : decode cX5_fault 7 = .ok (.bipush (-2), 2) := by decide +kernel
theorem dX5_fault_9 : decode cX5_fault 9 = .ok (.ireturn, 1) := by decide +kernel
theorem dX5_fault_10 : decode cX5_fault 10 = .ok (.iconst 0, 1) := by decide +kernel
theorem dX5_fault_11 : decode cX5_fault 11 = .ok (.istore_n 2, 1) := by decide +kernel
theorem dX5_fault_12 : decode cX5_fault 12 = .ok (.iload_n 2, 1) := by decide +kernel
theorem dX5_fault_13 : decode cX5_fault 13 = .ok (.aload_n 0, 1) := by decide +kernel
theorem dX5_fault_14 : decode cX5_fault 14 = .ok (.getfield 70, 3) := by decide +kernel
theorem dX5_fault_17 : decode cX5_fault 17 = .ok (.if_icmp .ge 20, 3) := by decide +kernel
theorem dX5_fault_20 : decode cX5_fault 20 = .ok (.aload_n 0, 1) := by decide +kernel
theorem dX5_fault_21 : decode cX5_fault 21 = .ok (.iload_n 2, 1) := by decide +kernel
theorem dX5_fault_22 : decode cX5_fault 22 = .ok (.iload_n 1, 1) := by decide +kernel
theorem dX5_fault_23 : decode cX5_fault 23 = .ok (.invokevirtual 82, 3) := by decide +kernel
theorem dX5_fault_26 : decode cX5_fault 26 = .ok (.ifCond .le 5, 3) := by decide +kernel
theorem dX5_fault_29 : decode cX5_fault 29 = .ok (.iload_n 2, 1) := by decide +kernel
theorem dX5_fault_30 : decode cX5_fault 30 = .ok (.ireturn, 1) := by decide +kernel
theorem dX5_fault_31 : decode cX5_fault 31 = .ok (.iinc 2 1, 3) := by decide +kernel
theorem dX5_fault_34 : decode cX5_fault 34 = .ok (.goto (-22), 3) := by decide +kernel
theorem dX5_fault_37 : decode cX5_fault 37 = .ok (.bipush (-6), 2) := by decide +kernel
theorem dX5_fault_39 : decode cX5_fault 39 = .ok (.ireturn, 1) := by decide +kernel
set_option maxRecDepth 20000 in
theorem ggX5_spoils_X5_isThing : GoodIn wsX5_spoils wsX5_isThing := goodIn_r _ [5, 6, 7, 8, 4, 9, 30, 31, 32, 33, 34, 35, 36, 37, 38, 39, 40, 41, 42, 43, 44, 45, 46, 47, 48, 49, 50, 51, 52, 53] (by decide +kernel) (by decide +kernel)
set_option maxRecDepth 20000 in
theorem gX5_spoils_X5_isThing : GoodIn wsX5_spoils (wsV RX5 76 RX5 yX5_isThing wsX5_isThing) := goodIn_app (goodIn_of _ (by decide +kernel)) ggX5_spoils_X5_isThing
set_option maxRecDepth 20000 in
theorem ggX5_spoils_X5_isDay : GoodIn wsX5_spoils wsX5_isDay := goodIn_r _ [12, 7, 8, 4, 9] (by decide +kernel) (by decide +kernel)
set_option maxRecDepth 20000 in
theorem gX5_spoils_X5_isDay : GoodIn wsX5_spoils (va_wsS RX5 58 yX5_isDay wsX5_isDay) := goodIn_app (goodIn_of _ (by decide +kernel)) ggX5_spoils_X5_isDay
set_option maxRecDepth 20000 in
theorem ggX5_spoils_X5_faultOn : GoodIn wsX5_spoils wsX5_faultOn := goodIn_r _ [16, 17, 18, 19, 20, 4, 21, 22, 23, 24, 25, 26, 27, 28, 29, 30, 31, 32, 33, 34, 35, 36, 37, 38, 39, 40, 41, 42, 43, 44, 45, 46, 47, 48, 49, 50, 51, 52, 53] (by decide +kernel) (by decide +kernel)
set_option maxRecDepth 20000 in
theorem gX5_spoils_X5_faultOn : GoodIn wsX5_spoils (wsV RX5 82 RX5 yX5_faultOn wsX5_faultOn) := goodIn_app (goodIn_of _ (by decide +kernel)) ggX5_spoils_X5_faultOn
theorem dX5_spoils_0 : decode cX5_spoils 0 = .ok (.aload_n 0, 1) := by decide +kernel
theorem dX5_spoils_1 : decode cX5_spoils 1 = .ok (.iload_n 1, 1) := by decide +kernel
theorem dX5_spoils_2 : decode cX5_spoils 2 = .ok (.invokevirtual 76, 3) := by decide +kernel
theorem dX5_spoils_5 : decode cX5_spoils 5 = .ok (.ifCond .ne 5, 3) := by decide +kernel
theorem dX5_spoils_8 : decode cX5_spoils 8 = .ok (.iconst (-1), 1) := by decide +kernel
theorem dX5_spoils_9 : decode cX5_spoils 9 = .ok (.ireturn, 1) := by decide +kernel
theorem dX5_spoils_10 : decode cX5_spoils 10 = .ok (.iload_n 2, 1) := by decide +kernel
theorem dX5_spoils_11 : decode cX5_spoils 11 = .ok (.invokestatic 58, 3) := by decide +kernel
theorem dX5_spoils_14 : decode cX5_spoils 14 = .ok (.ifCond .ne 6, 3) := by decide +kernel
theorem dX5_spoils_17 : decode cX5_spoils 17 = .ok (.bipush (-2), 2) := by decide +kernel
theorem dX5_spoils_19 : decode cX5_spoils 19 = .ok (.ireturn, 1) := by decide +kernel
theorem dX5_spoils_20 : decode cX5_spoils 20 = .ok (.iload_n 2, 1) := by decide +kernel
theorem dX5_spoils_21 : decode cX5_spoils 21 = .ok (.istore_n 3, 1) := by decide +kernel
theorem dX5_spoils_22 : decode cX5_spoils 22 = .ok (.iload_n 3, 1) := by decide +kernel
theorem dX5_spoils_23 : decode cX5_spoils 23 = .ok (.sipush 3000, 3) := by decide +kernel
theorem dX5_spoils_26 : decode cX5_spoils 26 = .ok (.if_icmp .gt 20, 3) := by decide +kernel
theorem dX5_spoils_29 : decode cX5_spoils 29 = .ok (.aload_n 0, 1) := by decide +kernel
theorem dX5_spoils_30 : decode cX5_spoils 30 = .ok (.iload_n 1, 1) := by decide +kernel
theorem dX5_spoils_31 : decode cX5_spoils 31 = .ok (.iload_n 3, 1) := by decide +kernel
theorem dX5_spoils_32 : decode cX5_spoils 32 = .ok (.invokevirtual 82, 3) := by decide +kernel
theorem dX5_spoils_35 : decode cX5_spoils 35 = .ok (.ifCond .le 5, 3) := by decide +kernel
theorem dX5_spoils_38 : decode cX5_spoils 38 = .ok (.iload_n 3, 1) := by decide +kernel
theorem dX5_spoils_39 : decode cX5_spoils 39 = .ok (.ireturn, 1) := by decide +kernel
theorem dX5_spoils_40 : decode cX5_spoils 40 = .ok (.iinc 3 1, 3) := by decide +kernel
theorem dX5_spoils_43 : decode cX5_spoils 43 = .ok (.goto (-21), 3) := by decide +kernel
theorem dX5_spoils_46 : decode cX5_spoils 46 = .ok (.bipush (-6), 2) := by decide +kernel
theorem dX5_spoils_48 : decode cX5_spoils 48 = .ok (.ireturn, 1) := by decide +kernel
set_option maxRecDepth 20000 in
theorem ggX5_fade_X5_in : GoodIn wsX5_fade wsX5_in := goodIn_r _ [5] (by decide +kernel) (by decide +kernel)
set_option maxRecDepth 20000 in
theorem gX5_fade_X5_in : GoodIn wsX5_fade (va_wsS RX5 54 yX5_in wsX5_in) := goodIn_app (goodIn_of _ (by decide +kernel)) ggX5_fade_X5_in
theorem dX5_fade_0 : decode cX5_fade 0 = .ok (.iload_n 1, 1) := by decide +kernel
theorem dX5_fade_1 : decode cX5_fade 1 = .ok (.iconst 0, 1) := by decide +kernel
theorem dX5_fade_2 : decode cX5_fade 2 = .ok (.iconst 3, 1) := by decide +kernel
theorem dX5_fade_3 : decode cX5_fade 3 = .ok (.invokestatic 54, 3) := by decide +kernel
theorem dX5_fade_6 : decode cX5_fade 6 = .ok (.ifCond .eq 13, 3) := by decide +kernel
theorem dX5_fade_9 : decode cX5_fade 9 = .ok (.iload_n 2, 1) := by decide +kernel
theorem dX5_fade_10 : decode cX5_fade 10 = .ok (.iconst 0, 1) := by decide +kernel
theorem dX5_fade_11 : decode cX5_fade 11 = .ok (.bipush 40, 2) := by decide +kernel
theorem dX5_fade_13 : decode cX5_fade 13 = .ok (.invokestatic 54, 3) := by decide +kernel
theorem dX5_fade_16 : decode cX5_fade 16 = .ok (.ifCond .ne 6, 3) := by decide +kernel
theorem dX5_fade_19 : decode cX5_fade 19 = .ok (.bipush (-2), 2) := by decide +kernel
theorem dX5_fade_21 : decode cX5_fade 21 = .ok (.ireturn, 1) := by decide +kernel
theorem dX5_fade_22 : decode cX5_fade 22 = .ok (.aload_n 0, 1) := by decide +kernel
theorem dX5_fade_23 : decode cX5_fade 23 = .ok (.getfield 19, 3) := by decide +kernel
theorem dX5_fade_26 : decode cX5_fade 26 = .ok (.iload_n 1, 1) := by decide +kernel
theorem dX5_fade_27 : decode cX5_fade 27 = .ok (.iaload, 1) := by decide +kernel
theorem dX5_fade_28 : decode cX5_fade 28 = .ok (.istore_n 3, 1) := by decide +kernel
theorem dX5_fade_29 : decode cX5_fade 29 = .ok (.aload_n 0, 1) := by decide +kernel
theorem dX5_fade_30 : decode cX5_fade 30 = .ok (.getfield 19, 3) := by decide +kernel
theorem dX5_fade_33 : decode cX5_fade 33 = .ok (.iload_n 1, 1) := by decide +kernel
theorem dX5_fade_34 : decode cX5_fade 34 = .ok (.iload_n 2, 1) := by decide +kernel
theorem dX5_fade_35 : decode cX5_fade 35 = .ok (.iastore, 1) := by decide +kernel
theorem dX5_fade_36 : decode cX5_fade 36 = .ok (.iload_n 3, 1) := by decide +kernel
theorem dX5_fade_37 : decode cX5_fade 37 = .ok (.ireturn, 1) := by decide +kernel
set_option maxRecDepth 20000 in
theorem ggX5_wall_X5_in : GoodIn wsX5_wall wsX5_in := goodIn_r _ [6] (by decide +kernel) (by decide +kernel)
set_option maxRecDepth 20000 in
theorem gX5_wall_X5_in : GoodIn wsX5_wall (va_wsS RX5 54 yX5_in wsX5_in) := goodIn_app (goodIn_of _ (by decide +kernel)) ggX5_wall_X5_in
theorem dX5_wall_0 : decode cX5_wall 0 = .ok (.iload_n 1, 1) := by decide +kernel
theorem dX5_wall_1 : decode cX5_wall 1 = .ok (.iconst 0, 1) := by decide +kernel
theorem dX5_wall_2 : decode cX5_wall 2 = .ok (.bipush 99, 2) := by decide +kernel
theorem dX5_wall_4 : decode cX5_wall 4 = .ok (.invokestatic 54, 3) := by decide +kernel
theorem dX5_wall_7 : decode cX5_wall 7 = .ok (.ifCond .eq 22, 3) := by decide +kernel
theorem dX5_wall_10 : decode cX5_wall 10 = .ok (.iload_n 2, 1) := by decide +kernel
theorem dX5_wall_11 : decode cX5_wall 11 = .ok (.iconst 0, 1) := by decide +kernel
theorem dX5_wall_12 : decode cX5_wall 12 = .ok (.iconst 3, 1) := by decide +kernel
theorem dX5_wall_13 : decode cX5_wall 13 = .ok (.invokestatic 54, 3) := by decide +kernel
theorem dX5_wall_16 : decode cX5_wall 16 = .ok (.ifCond .eq 13, 3) := by decide +kernel
theorem dX5_wall_19 : decode cX5_wall 19 = .ok (.iload_n 3, 1) := by decide +kernel
theorem dX5_wall_20 : decode cX5_wall 20 = .ok (.iconst 1, 1) := by decide +kernel
theorem dX5_wall_21 : decode cX5_wall 21 = .ok (.bipush 60, 2) := by decide +kernel
theorem dX5_wall_23 : decode cX5_wall 23 = .ok (.invokestatic 54, 3) := by decide +kernel
theorem dX5_wall_26 : decode cX5_wall 26 = .ok (.ifCond .ne 6, 3) := by decide +kernel
theorem dX5_wall_29 : decode cX5_wall 29 = .ok (.bipush (-2), 2) := by decide +kernel
theorem dX5_wall_31 : decode cX5_wall 31 = .ok (.ireturn, 1) := by decide +kernel
theorem dX5_wall_32 : decode cX5_wall 32 = .ok (.aload_n 0, 1) := by decide +kernel
theorem dX5_wall_33 : decode cX5_wall 33 = .ok (.getfield 85, 3) := by decide +kernel
theorem dX5_wall_36 : decode cX5_wall 36 = .ok (.bipush 24, 2) := by decide +kernel
theorem dX5_wall_38 : decode cX5_wall 38 = .ok (.if_icmp .ne 6, 3) := by decide +kernel
theorem dX5_wall_41 : decode cX5_wall 41 = .ok (.bipush (-4), 2) := by decide +kernel
theorem dX5_wall_43 : decode cX5_wall 43 = .ok (.ireturn, 1) := by decide +kernel
theorem dX5_wall_44 : decode cX5_wall 44 = .ok (.aload_n 0, 1) := by decide +kernel
theorem dX5_wall_45 : decode cX5_wall 45 = .ok (.getfield 22, 3) := by decide +kernel
theorem dX5_wall_48 : decode cX5_wall 48 = .ok (.iconst 5, 1) := by decide +kernel
theorem dX5_wall_49 : decode cX5_wall 49 = .ok (.aload_n 0, 1) := by decide +kernel
theorem dX5_wall_50 : decode cX5_wall 50 = .ok (.getfield 85, 3) := by decide +kernel
theorem dX5_wall_53 : decode cX5_wall 53 = .ok (.imul, 1) := by decide +kernel
theorem dX5_wall_54 : decode cX5_wall 54 = .ok (.iload_n 1, 1) := by decide +kernel
theorem dX5_wall_55 : decode cX5_wall 55 = .ok (.iastore, 1) := by decide +kernel
theorem dX5_wall_56 : decode cX5_wall 56 = .ok (.aload_n 0, 1) := by decide +kernel
theorem dX5_wall_57 : decode cX5_wall 57 = .ok (.getfield 22, 3) := by decide +kernel
theorem dX5_wall_60 : decode cX5_wall 60 = .ok (.iconst 5, 1) := by decide +kernel
theorem dX5_wall_61 : decode cX5_wall 61 = .ok (.aload_n 0, 1) := by decide +kernel
theorem dX5_wall_62 : decode cX5_wall 62 = .ok (.getfield 85, 3) := by decide +kernel
theorem dX5_wall_65 : decode cX5_wall 65 = .ok (.imul, 1) := by decide +kernel
theorem dX5_wall_66 : decode cX5_wall 66 = .ok (.iconst 1, 1) := by decide +kernel
theorem dX5_wall_67 : decode cX5_wall 67 = .ok (.iadd, 1) := by decide +kernel
theorem dX5_wall_68 : decode cX5_wall 68 = .ok (.iload_n 2, 1) := by decide +kernel
theorem dX5_wall_69 : decode cX5_wall 69 = .ok (.iastore, 1) := by decide +kernel
theorem dX5_wall_70 : decode cX5_wall 70 = .ok (.aload_n 0, 1) := by decide +kernel
theorem dX5_wall_71 : decode cX5_wall 71 = .ok (.getfield 22, 3) := by decide +kernel
theorem dX5_wall_74 : decode cX5_wall 74 = .ok (.iconst 5, 1) := by decide +kernel
theorem dX5_wall_75 : decode cX5_wall 75 = .ok (.aload_n 0, 1) := by decide +kernel
theorem dX5_wall_76 : decode cX5_wall 76 = .ok (.getfield 85, 3) := by decide +kernel
theorem dX5_wall_79 : decode cX5_wall 79 = .ok (.imul, 1) := by decide +kernel
theorem dX5_wall_80 : decode cX5_wall 80 = .ok (.iconst 2, 1) := by decide +kernel
theorem dX5_wall_81 : decode cX5_wall 81 = .ok (.iadd, 1) := by decide +kernel
theorem dX5_wall_82 : decode cX5_wall 82 = .ok (.iload_n 3, 1) := by decide +kernel
theorem dX5_wall_83 : decode cX5_wall 83 = .ok (.iastore, 1) := by decide +kernel
theorem dX5_wall_84 : decode cX5_wall 84 = .ok (.aload_n 0, 1) := by decide +kernel
theorem dX5_wall_85 : decode cX5_wall 85 = .ok (.getfield 22, 3) := by decide +kernel
theorem dX5_wall_88 : decode cX5_wall 88 = .ok (.iconst 5, 1) := by decide +kernel
theorem dX5_wall_89 : decode cX5_wall 89 = .ok (.aload_n 0, 1) := by decide +kernel
theorem dX5_wall_90 : decode cX5_wall 90 = .ok (.getfield 85, 3) := by decide +kernel
theorem dX5_wall_93 : decode cX5_wall 93 = .ok (.imul, 1) := by decide +kernel
theorem dX5_wall_94 : decode cX5_wall 94 = .ok (.iconst 3, 1) := by decide +kernel
theorem dX5_wall_95 : decode cX5_wall 95 = .ok (.iadd, 1) := by decide +kernel
theorem dX5_wall_96 : decode cX5_wall 96 = .ok (.bipush 100, 2) := by decide +kernel
theorem dX5_wall_98 : decode cX5_wall 98 = .ok (.iastore, 1) := by decide +kernel
theorem dX5_wall_99 : decode cX5_wall 99 = .ok (.aload_n 0, 1) := by decide +kernel
theorem dX5_wall_100 : decode cX5_wall 100 = .ok (.getfield 22, 3) := by decide +kernel
theorem dX5_wall_103 : decode cX5_wall 103 = .ok (.iconst 5, 1) := by decide +kernel
theorem dX5_wall_104 : decode cX5_wall 104 = .ok (.aload_n 0, 1) := by decide +kernel
theorem dX5_wall_105 : decode cX5_wall 105 = .ok (.getfield 85, 3) := by decide +kernel
theorem dX5_wall_108 : decode cX5_wall 108 = .ok (.imul, 1) := by decide +kernel
theorem dX5_wall_109 : decode cX5_wall 109 = .ok (.iconst 4, 1) := by decide +kernel
theorem dX5_wall_110 : decode cX5_wall 110 = .ok (.iadd, 1) := by decide +kernel
theorem dX5_wall_111 : decode cX5_wall 111 = .ok (.iconst 0, 1) := by decide +kernel
theorem dX5_wall_112 : decode cX5_wall 112 = .ok (.iastore, 1) := by decide +kernel
theorem dX5_wall_113 : decode cX5_wall 113 = .ok (.aload_n 0, 1) := by decide +kernel
theorem dX5_wall_114 : decode cX5_wall 114 = .ok (.dup, 1) := by decide +kernel
theorem dX5_wall_115 : decode cX5_wall 115 = .ok (.getfield 85, 3) := by decide +kernel
theorem dX5_wall_118 : decode cX5_wall 118 = .ok (.iconst 1, 1) := by decide +kernel
theorem dX5_wall_119 : decode cX5_wall 119 = .ok (.iadd, 1) := by decide +kernel
theorem dX5_wall_120 : decode cX5_wall 120 = .ok (.putfield 85, 3) := by decide +kernel
theorem dX5_wall_123 : decode cX5_wall 123 = .ok (.aload_n 0, 1) := by decide +kernel
theorem dX5_wall_124 : decode cX5_wall 124 = .ok (.getfield 85, 3) := by decide +kernel
theorem dX5_wall_127 : decode cX5_wall 127 = .ok (.iconst 1, 1) := by decide +kernel
theorem dX5_wall_128 : decode cX5_wall 128 = .ok (.isub, 1) := by decide +kernel
theorem dX5_wall_129 : decode cX5_wall 129 = .ok (.ireturn, 1) := by decide +kernel
set_option maxRecDepth 20000 in
theorem ggX5_wallOf_X5_in : GoodIn wsX5_wallOf wsX5_in := goodIn_r _ [6] (by decide +kernel) (by decide +kernel)
set_option maxRecDepth 20000 in
theorem gX5_wallOf_X5_in : GoodIn wsX5_wallOf (va_wsS RX5 54 yX5_in wsX5_in) := goodIn_app (goodIn_of _ (by decide +kernel)) ggX5_wallOf_X5_in
theorem dX5_wallOf_0 : decode cX5_wallOf 0 = .ok (.iload_n 1, 1) := by decide +kernel
theorem dX5_wallOf_1 : decode cX5_wallOf 1 = .ok (.iconst 0, 1) := by decide +kernel
theorem dX5_wallOf_2 : decode cX5_wallOf 2 = .ok (.aload_n 0, 1) := by decide +kernel
theorem dX5_wallOf_3 : decode cX5_wallOf 3 = .ok (.getfield 85, 3) := by decide +kernel
theorem dX5_wallOf_6 : decode cX5_wallOf 6 = .ok (.iconst 1, 1) := by decide +kernel
theorem dX5_wallOf_7 : decode cX5_wallOf 7 = .ok (.isub, 1) := by decide +kernel
theorem dX5_wallOf_8 : decode cX5_wallOf 8 = .ok (.invokestatic 54, 3) := by decide +kernel
theorem dX5_wallOf_11 : decode cX5_wallOf 11 = .ok (.ifCond .ne 5, 3) := by decide +kernel
theorem dX5_wallOf_14 : decode cX5_wallOf 14 = .ok (.iconst (-1), 1) := by decide +kernel
theorem dX5_wallOf_15 : decode cX5_wallOf 15 = .ok (.ireturn, 1) := by decide +kernel
theorem dX5_wallOf_16 : decode cX5_wallOf 16 = .ok (.iload_n 2, 1) := by decide +kernel
theorem dX5_wallOf_17 : decode cX5_wallOf 17 = .ok (.iconst 0, 1) := by decide +kernel
theorem dX5_wallOf_18 : decode cX5_wallOf 18 = .ok (.iconst 4, 1) := by decide +kernel
theorem dX5_wallOf_19 : decode cX5_wallOf 19 = .ok (.invokestatic 54, 3) := by decide +kernel
theorem dX5_wallOf_22 : decode cX5_wallOf 22 = .ok (.ifCond .eq 16, 3) := by decide +kernel
theorem dX5_wallOf_25 : decode cX5_wallOf 25 = .ok (.aload_n 0, 1) := by decide +kernel
theorem dX5_wallOf_26 : decode cX5_wallOf 26 = .ok (.getfield 22, 3) := by decide +kernel
theorem dX5_wallOf_29 : decode cX5_wallOf 29 = .ok (.iconst 5, 1) := by decide +kernel
theorem dX5_wallOf_30 : decode cX5_wallOf 30 = .ok (.iload_n 1, 1) := by decide +kernel
theorem dX5_wallOf_31 : decode cX5_wallOf 31 = .ok (.imul, 1) := by decide +kernel
theorem dX5_wallOf_32 : decode cX5_wallOf 32 = .ok (.iload_n 2, 1) := by decide +kernel
theorem dX5_wallOf_33 : decode cX5_wallOf 33 = .ok (.iadd, 1) := by decide +kernel
theorem dX5_wallOf_34 : decode cX5_wallOf 34 = .ok (.iaload, 1) := by decide +kernel
theorem dX5_wallOf_35 : decode cX5_wallOf 35 = .ok (.goto 5, 3) := by decide +kernel
theorem dX5_wallOf_38 : decode cX5_wallOf 38 = .ok (.bipush (-2), 2) := by decide +kernel
theorem dX5_wallOf_40 : decode cX5_wallOf 40 = .ok (.ireturn, 1) := by decide +kernel
set_option maxRecDepth 20000 in
theorem ggX5_areHands_X5_in : GoodIn wsX5_areHands wsX5_in := goodIn_r _ [4] (by decide +kernel) (by decide +kernel)
set_option maxRecDepth 20000 in
theorem gX5_areHands_X5_in : GoodIn wsX5_areHands (va_wsS RX5 54 yX5_in wsX5_in) := goodIn_app (goodIn_of _ (by decide +kernel)) ggX5_areHands_X5_in
theorem dX5_areHands_0 : decode cX5_areHands 0 = .ok (.iload_n 0, 1) := by decide +kernel
theorem dX5_areHands_1 : decode cX5_areHands 1 = .ok (.iconst 0, 1) := by decide +kernel
theorem dX5_areHands_2 : decode cX5_areHands 2 = .ok (.sipush 500, 3) := by decide +kernel
theorem dX5_areHands_5 : decode cX5_areHands 5 = .ok (.invokestatic 54, 3) := by decide +kernel
theorem dX5_areHands_8 : decode cX5_areHands 8 = .ok (.ireturn, 1) := by decide +kernel
set_option maxRecDepth 20000 in
theorem ggX5_hands_X5_areHands : GoodIn wsX5_hands wsX5_areHands := goodIn_r _ [5, 6, 7, 4, 8] (by decide +kernel) (by decide +kernel)
set_option maxRecDepth 20000 in
theorem gX5_hands_X5_areHands : GoodIn wsX5_hands (va_wsS RX5 88 yX5_areHands wsX5_areHands) := goodIn_app (goodIn_of _ (by decide +kernel)) ggX5_hands_X5_areHands
theorem dX5_hands_0 : decode cX5_hands 0 = .ok (.iload_n 1, 1) := by decide +kernel
theorem dX5_hands_1 : decode cX5_hands 1 = .ok (.invokestatic 88, 3) := by decide +kernel
theorem dX5_hands_4 : decode cX5_hands 4 = .ok (.ifCond .ne 6, 3) := by decide +kernel
theorem dX5_hands_7 : decode cX5_hands 7 = .ok (.bipush (-2), 2) := by decide +kernel
theorem dX5_hands_9 : decode cX5_hands 9 = .ok (.ireturn, 1) := by decide +kernel
theorem dX5_hands_10 : decode cX5_hands 10 = .ok (.aload_n 0, 1) := by decide +kernel
theorem dX5_hands_11 : decode cX5_hands 11 = .ok (.getfield 25, 3) := by decide +kernel
theorem dX5_hands_14 : decode cX5_hands 14 = .ok (.istore_n 2, 1) := by decide +kernel
theorem dX5_hands_15 : decode cX5_hands 15 = .ok (.aload_n 0, 1) := by decide +kernel
theorem dX5_hands_16 : decode cX5_hands 16 = .ok (.iload_n 1, 1) := by decide +kernel
theorem dX5_hands_17 : decode cX5_hands 17 = .ok (.putfield 25, 3) := by decide +kernel
theorem dX5_hands_20 : decode cX5_hands 20 = .ok (.iload_n 2, 1) := by decide +kernel
theorem dX5_hands_21 : decode cX5_hands 21 = .ok (.ireturn, 1) := by decide +kernel
set_option maxRecDepth 20000 in
theorem ggX5_frost_X5_in : GoodIn wsX5_frost wsX5_in := goodIn_r _ [6] (by decide +kernel) (by decide +kernel)
set_option maxRecDepth 20000 in
theorem gX5_frost_X5_in : GoodIn wsX5_frost (va_wsS RX5 54 yX5_in wsX5_in) := goodIn_app (goodIn_of _ (by decide +kernel)) ggX5_frost_X5_in
theorem dX5_frost_0 : decode cX5_frost 0 = .ok (.iload_n 1, 1) := by decide +kernel
theorem dX5_frost_1 : decode cX5_frost 1 = .ok (.iconst 0, 1) := by decide +kernel
theorem dX5_frost_2 : decode cX5_frost 2 = .ok (.sipush 199, 3) := by decide +kernel
theorem dX5_frost_5 : decode cX5_frost 5 = .ok (.invokestatic 54, 3) := by decide +kernel
theorem dX5_frost_8 : decode cX5_frost 8 = .ok (.ifCond .ne 6, 3) := by decide +kernel
theorem dX5_frost_11 : decode cX5_frost 11 = .ok (.bipush (-2), 2) := by decide +kernel
theorem dX5_frost_13 : decode cX5_frost 13 = .ok (.ireturn, 1) := by decide +kernel
theorem dX5_frost_14 : decode cX5_frost 14 = .ok (.iload_n 1, 1) := by decide +kernel
theorem dX5_frost_15 : decode cX5_frost 15 = .ok (.aload_n 0, 1) := by decide +kernel
theorem dX5_frost_16 : decode cX5_frost 16 = .ok (.getfield 91, 3) := by decide +kernel
theorem dX5_frost_19 : decode cX5_frost 19 = .ok (.if_icmp .ge 6, 3) := by decide +kernel
theorem dX5_frost_22 : decode cX5_frost 22 = .ok (.bipush (-5), 2) := by decide +kernel
theorem dX5_frost_24 : decode cX5_frost 24 = .ok (.ireturn, 1) := by decide +kernel
theorem dX5_frost_25 : decode cX5_frost 25 = .ok (.aload_n 0, 1) := by decide +kernel
theorem dX5_frost_26 : decode cX5_frost 26 = .ok (.getfield 29, 3) := by decide +kernel
theorem dX5_frost_29 : decode cX5_frost 29 = .ok (.iload_n 1, 1) := by decide +kernel
theorem dX5_frost_30 : decode cX5_frost 30 = .ok (.baload, 1) := by decide +kernel
theorem dX5_frost_31 : decode cX5_frost 31 = .ok (.ifCond .eq 7, 3) := by decide +kernel
theorem dX5_frost_34 : decode cX5_frost 34 = .ok (.iconst 1, 1) := by decide +kernel
theorem dX5_frost_35 : decode cX5_frost 35 = .ok (.goto 4, 3) := by decide +kernel
theorem dX5_frost_38 : decode cX5_frost 38 = .ok (.iconst 0, 1) := by decide +kernel
theorem dX5_frost_39 : decode cX5_frost 39 = .ok (.istore_n 3, 1) := by decide +kernel
theorem dX5_frost_40 : decode cX5_frost 40 = .ok (.aload_n 0, 1) := by decide +kernel
theorem dX5_frost_41 : decode cX5_frost 41 = .ok (.getfield 29, 3) := by decide +kernel
theorem dX5_frost_44 : decode cX5_frost 44 = .ok (.iload_n 1, 1) := by decide +kernel
theorem dX5_frost_45 : decode cX5_frost 45 = .ok (.iload_n 2, 1) := by decide +kernel
theorem dX5_frost_46 : decode cX5_frost 46 = .ok (.bastore, 1) := by decide +kernel
theorem dX5_frost_47 : decode cX5_frost 47 = .ok (.iload_n 3, 1) := by decide +kernel
theorem dX5_frost_48 : decode cX5_frost 48 = .ok (.ireturn, 1) := by decide +kernel
theorem dX5_layLooks_0 : decode cX5_layLooks 0 = .ok (.iconst 0, 1) := by decide +kernel
theorem dX5_layLooks_1 : decode cX5_layLooks 1 = .ok (.istore_n 1, 1) := by decide +kernel
theorem dX5_layLooks_2 : decode cX5_layLooks 2 = .ok (.iload_n 1, 1) := by decide +kernel
theorem dX5_layLooks_3 : decode cX5_layLooks 3 = .ok (.aload_n 0, 1) := by decide +kernel
theorem dX5_layLooks_4 : decode cX5_layLooks 4 = .ok (.getfield 85, 3) := by decide +kernel
theorem dX5_layLooks_7 : decode cX5_layLooks 7 = .ok (.if_icmp .ge 25, 3) := by decide +kernel
theorem dX5_layLooks_10 : decode cX5_layLooks 10 = .ok (.aload_n 0, 1) := by decide +kernel
theorem dX5_layLooks_11 : decode cX5_layLooks 11 = .ok (.getfield 45, 3) := by decide +kernel
theorem dX5_layLooks_14 : decode cX5_layLooks 14 = .ok (.iload_n 1, 1) := by decide +kernel
theorem dX5_layLooks_15 : decode cX5_layLooks 15 = .ok (.aload_n 0, 1) := by decide +kernel
theorem dX5_layLooks_16 : decode cX5_layLooks 16 = .ok (.getfield 22, 3) := by decide +kernel
theorem dX5_layLooks_19 : decode cX5_layLooks 19 = .ok (.iconst 5, 1) := by decide +kernel
theorem dX5_layLooks_20 : decode cX5_layLooks 20 = .ok (.iload_n 1, 1) := by decide +kernel
theorem dX5_layLooks_21 : decode cX5_layLooks 21 = .ok (.imul, 1) := by decide +kernel
theorem dX5_layLooks_22 : decode cX5_layLooks 22 = .ok (.iconst 3, 1) := by decide +kernel
theorem dX5_layLooks_23 : decode cX5_layLooks 23 = .ok (.iadd, 1) := by decide +kernel
theorem dX5_layLooks_24 : decode cX5_layLooks 24 = .ok (.iaload, 1) := by decide +kernel
theorem dX5_layLooks_25 : decode cX5_layLooks 25 = .ok (.iastore, 1) := by decide +kernel
theorem dX5_layLooks_26 : decode cX5_layLooks 26 = .ok (.iinc 1 1, 3) := by decide +kernel
theorem dX5_layLooks_29 : decode cX5_layLooks 29 = .ok (.goto (-27), 3) := by decide +kernel
theorem dX5_layLooks_32 : decode cX5_layLooks 32 = .ok (.return_, 1) := by decide +kernel
theorem dX5_goWeek_0 : decode cX5_goWeek 0 = .ok (.iconst 0, 1) := by decide +kernel
theorem dX5_goWeek_1 : decode cX5_goWeek 1 = .ok (.istore_n 3, 1) := by decide +kernel
theorem dX5_goWeek_2 : decode cX5_goWeek 2 = .ok (.iconst 0, 1) := by decide +kernel
theorem dX5_goWeek_3 : decode cX5_goWeek 3 = .ok (.istore 4, 2) := by decide +kernel
theorem dX5_goWeek_5 : decode cX5_goWeek 5 = .ok (.iload 4, 2) := by decide +kernel
theorem dX5_goWeek_7 : decode cX5_goWeek 7 = .ok (.aload_n 0, 1) := by decide +kernel
theorem dX5_goWeek_8 : decode cX5_goWeek 8 = .ok (.getfield 85, 3) := by decide +kernel
theorem dX5_goWeek_11 : decode cX5_goWeek 11 = .ok (.if_icmp .ge 17, 3) := by decide +kernel
theorem dX5_goWeek_14 : decode cX5_goWeek 14 = .ok (.aload_n 0, 1) := by decide +kernel
theorem dX5_goWeek_15 : decode cX5_goWeek 15 = .ok (.getfield 48, 3) := by decide +kernel
theorem dX5_goWeek_18 : decode cX5_goWeek 18 = .ok (.iload 4, 2) := by decide +kernel
theorem dX5_goWeek_20 : decode cX5_goWeek 20 = .ok (.iconst 0, 1) := by decide +kernel
theorem dX5_goWeek_21 : decode cX5_goWeek 21 = .ok (.bastore, 1) := by decide +kernel
theorem dX5_goWeek_22 : decode cX5_goWeek 22 = .ok (.iinc 4 1, 3) := by decide +kernel
theorem dX5_goWeek_25 : decode cX5_goWeek 25 = .ok (.goto (-20), 3) := by decide +kernel
theorem dX5_goWeek_28 : decode cX5_goWeek 28 = .ok (.iload_n 2, 1) := by decide +kernel
theorem dX5_goWeek_29 : decode cX5_goWeek 29 = .ok (.istore 4, 2) := by decide +kernel
theorem dX5_goWeek_31 : decode cX5_goWeek 31 = .ok (.aload_n 0, 1) := by decide +kernel
theorem dX5_goWeek_32 : decode cX5_goWeek 32 = .ok (.getfield 29, 3) := by decide +kernel
theorem dX5_goWeek_35 : decode cX5_goWeek 35 = .ok (.iload_n 1, 1) := by decide +kernel
theorem dX5_goWeek_36 : decode cX5_goWeek 36 = .ok (.baload, 1) := by decide +kernel
theorem dX5_goWeek_37 : decode cX5_goWeek 37 = .ok (.ifCond .ne 7, 3) := by decide +kernel
theorem dX5_goWeek_40 : decode cX5_goWeek 40 = .ok (.iconst 1, 1) := by decide +kernel
theorem dX5_goWeek_41 : decode cX5_goWeek 41 = .ok (.goto 4, 3) := by decide +kernel
theorem dX5_goWeek_44 : decode cX5_goWeek 44 = .ok (.iconst 0, 1) := by decide +kernel
theorem dX5_goWeek_45 : decode cX5_goWeek 45 = .ok (.istore 5, 2) := by decide +kernel
theorem dX5_goWeek_47 : decode cX5_goWeek 47 = .ok (.iload 5, 2) := by decide +kernel
theorem dX5_goWeek_49 : decode cX5_goWeek 49 = .ok (.ifCond .eq 150, 3) := by decide +kernel
theorem dX5_goWeek_52 : decode cX5_goWeek 52 = .ok (.bipush (-6), 2) := by decide +kernel
theorem dX5_goWeek_54 : decode cX5_goWeek 54 = .ok (.istore 6, 2) := by decide +kernel
theorem dX5_goWeek_56 : decode cX5_goWeek 56 = .ok (.iconst 0, 1) := by decide +kernel
theorem dX5_goWeek_57 : decode cX5_goWeek 57 = .ok (.istore 7, 2) := by decide +kernel
theorem dX5_goWeek_59 : decode cX5_goWeek 59 = .ok (.iload 7, 2) := by decide +kernel
theorem dX5_goWeek_61 : decode cX5_goWeek 61 = .ok (.aload_n 0, 1) := by decide +kernel
theorem dX5_goWeek_62 : decode cX5_goWeek 62 = .ok (.getfield 85, 3) := by decide +kernel
theorem dX5_goWeek_65 : decode cX5_goWeek 65 = .ok (.if_icmp .ge 62, 3) := by decide +kernel
theorem dX5_goWeek_68 : decode cX5_goWeek 68 = .ok (.aload_n 0, 1) := by decide +kernel
theorem dX5_goWeek_69 : decode cX5_goWeek 69 = .ok (.getfield 48, 3) := by decide +kernel
theorem dX5_goWeek_72 : decode cX5_goWeek 72 = .ok (.iload 7, 2) := by decide +kernel
theorem dX5_goWeek_74 : decode cX5_goWeek 74 = .ok (.baload, 1) := by decide +kernel
theorem dX5_goWeek_75 : decode cX5_goWeek 75 = .ok (.ifCond .ne 42, 3) := by decide +kernel
theorem dX5_goWeek_78 : decode cX5_goWeek 78 = .ok (.aload_n 0, 1) := by decide +kernel
theorem dX5_goWeek_79 : decode cX5_goWeek 79 = .ok (.getfield 45, 3) := by decide +kernel
theorem dX5_goWeek_82 : decode cX5_goWeek 82 = .ok (.iload 7, 2) := by decide +kernel
theorem dX5_goWeek_84 : decode cX5_goWeek 84 = .ok (.iaload, 1) := by decide +kernel
theorem dX5_goWeek_85 : decode cX5_goWeek 85 = .ok (.bipush 100, 2) := by decide +kernel
theorem dX5_goWeek_87 : decode cX5_goWeek 87 = .ok (.if_icmp .ge 30, 3) := by decide +kernel
theorem dX5_goWeek_90 : decode cX5_goWeek 90 = .ok (.iload 6, 2) := by decide +kernel
theorem dX5_goWeek_92 : decode cX5_goWeek 92 = .ok (.ifCond .lt 20, 3) := by decide +kernel
theorem dX5_goWeek_95 : decode cX5_goWeek 95 = .ok (.aload_n 0, 1) := by decide +kernel
theorem dX5_goWeek_96 : decode cX5_goWeek 96 = .ok (.getfield 45, 3) := by decide +kernel
theorem dX5_goWeek_99 : decode cX5_goWeek 99 = .ok (.iload 7, 2) := by decide +kernel
theorem dX5_goWeek_101 : decode cX5_goWeek 101 = .ok (.iaload, 1) := by decide +kernel
theorem dX5_goWeek_102 : decode cX5_goWeek 102 = .ok (.aload_n 0, 1) := by decide +kernel
theorem dX5_goWeek_103 : decode cX5_goWeek 103 = .ok (.getfield 45, 3) := by decide +kernel
theorem dX5_goWeek_106 : decode cX5_goWeek 106 = .ok (.iload 6, 2) := by decide +kernel
theorem dX5_goWeek_108 : decode cX5_goWeek 108 = .ok (.iaload, 1) := by decide +kernel
theorem dX5_goWeek_109 : decode cX5_goWeek 109 = .ok (.if_icmp .ge 8, 3) := by decide +kernel
theorem dX5_goWeek_112 : decode cX5_goWeek 112 = .ok (.iload 7, 2) := by decide +kernel
theorem dX5_goWeek_114 : decode cX5_goWeek 114 = .ok (.goto 5, 3) := by decide +kernel
theorem dX5_goWeek_117 : decode cX5_goWeek 117 = .ok (.iload 6, 2) := by decide +kernel
theorem dX5_goWeek_119 : decode cX5_goWeek 119 = .ok (.istore 6, 2) := by decide +kernel
theorem dX5_goWeek_121 : decode cX5_goWeek 121 = .ok (.iinc 7 1, 3) := by decide +kernel
theorem dX5_goWeek_124 : decode cX5_goWeek 124 = .ok (.goto (-65), 3) := by decide +kernel
theorem dX5_goWeek_127 : decode cX5_goWeek 127 = .ok (.iload 6, 2) := by decide +kernel
theorem dX5_goWeek_129 : decode cX5_goWeek 129 = .ok (.ifCond .lt 23, 3) := by decide +kernel
theorem dX5_goWeek_132 : decode cX5_goWeek 132 = .ok (.aload_n 0, 1) := by decide +kernel
theorem dX5_goWeek_133 : decode cX5_goWeek 133 = .ok (.getfield 22, 3) := by decide +kernel
theorem dX5_goWeek_136 : decode cX5_goWeek 136 = .ok (.iconst 5, 1) := by decide +kernel
theorem dX5_goWeek_137 : decode cX5_goWeek 137 = .ok (.iload 6, 2) := by decide +kernel
theorem dX5_goWeek_139 : decode cX5_goWeek 139 = .ok (.imul, 1) := by decide +kernel
theorem dX5_goWeek_140 : decode cX5_goWeek 140 = .ok (.iconst 2, 1) := by decide +kernel
theorem dX5_goWeek_141 : decode cX5_goWeek 141 = .ok (.iadd, 1) := by decide +kernel
theorem dX5_goWeek_142 : decode cX5_goWeek 142 = .ok (.iaload, 1) := by decide +kernel
theorem dX5_goWeek_143 : decode cX5_goWeek 143 = .ok (.iload 4, 2) := by decide +kernel
theorem dX5_goWeek_145 : decode cX5_goWeek 145 = .ok (.if_icmp .gt 7, 3) := by decide +kernel
theorem dX5_goWeek_148 : decode cX5_goWeek 148 = .ok (.iconst 1, 1) := by decide +kernel
theorem dX5_goWeek_149 : decode cX5_goWeek 149 = .ok (.goto 4, 3) := by decide +kernel
theorem dX5_goWeek_152 : decode cX5_goWeek 152 = .ok (.iconst 0, 1) := by decide +kernel
theorem dX5_goWeek_153 : decode cX5_goWeek 153 = .ok (.istore 5, 2) := by decide +kernel
theorem dX5_goWeek_155 : decode cX5_goWeek 155 = .ok (.iload 5, 2) := by decide +kernel
theorem dX5_goWeek_157 : decode cX5_goWeek 157 = .ok (.ifCond .eq 39, 3) := by decide +kernel
theorem dX5_goWeek_160 : decode cX5_goWeek 160 = .ok (.aload_n 0, 1) := by decide +kernel
theorem dX5_goWeek_161 : decode cX5_goWeek 161 = .ok (.getfield 48, 3) := by decide +kernel
theorem dX5_goWeek_164 : decode cX5_goWeek 164 = .ok (.iload 6, 2) := by decide +kernel
theorem dX5_goWeek_166 : decode cX5_goWeek 166 = .ok (.iconst 1, 1) := by decide +kernel
theorem dX5_goWeek_167 : decode cX5_goWeek 167 = .ok (.bastore, 1) := by decide +kernel
theorem dX5_goWeek_168 : decode cX5_goWeek 168 = .ok (.aload_n 0, 1) := by decide +kernel
theorem dX5_goWeek_169 : decode cX5_goWeek 169 = .ok (.getfield 45, 3) := by decide +kernel
theorem dX5_goWeek_172 : decode cX5_goWeek 172 = .ok (.iload 6, 2) := by decide +kernel
theorem dX5_goWeek_174 : decode cX5_goWeek 174 = .ok (.bipush 100, 2) := by decide +kernel
theorem dX5_goWeek_176 : decode cX5_goWeek 176 = .ok (.iastore, 1) := by decide +kernel
theorem dX5_goWeek_177 : decode cX5_goWeek 177 = .ok (.iload 4, 2) := by decide +kernel
theorem dX5_goWeek_179 : decode cX5_goWeek 179 = .ok (.aload_n 0, 1) := by decide +kernel
theorem dX5_goWeek_180 : decode cX5_goWeek 180 = .ok (.getfield 22, 3) := by decide +kernel
theorem dX5_goWeek_183 : decode cX5_goWeek 183 = .ok (.iconst 5, 1) := by decide +kernel
theorem dX5_goWeek_184 : decode cX5_goWeek 184 = .ok (.iload 6, 2) := by decide +kernel
theorem dX5_goWeek_186 : decode cX5_goWeek 186 = .ok (.imul, 1) := by decide +kernel
theorem dX5_goWeek_187 : decode cX5_goWeek 187 = .ok (.iconst 2, 1) := by decide +kernel
theorem dX5_goWeek_188 : decode cX5_goWeek 188 = .ok (.iadd, 1) := by decide +kernel
theorem dX5_goWeek_189 : decode cX5_goWeek 189 = .ok (.iaload, 1) := by decide +kernel
theorem dX5_goWeek_190 : decode cX5_goWeek 190 = .ok (.isub, 1) := by decide +kernel
theorem dX5_goWeek_191 : decode cX5_goWeek 191 = .ok (.istore 4, 2) := by decide +kernel
theorem dX5_goWeek_193 : decode cX5_goWeek 193 = .ok (.iinc 3 1, 3) := by decide +kernel
theorem dX5_goWeek_196 : decode cX5_goWeek 196 = .ok (.goto (-149), 3) := by decide +kernel
theorem dX5_goWeek_199 : decode cX5_goWeek 199 = .ok (.iconst 0, 1) := by decide +kernel
theorem dX5_goWeek_200 : decode cX5_goWeek 200 = .ok (.istore 6, 2) := by decide +kernel
theorem dX5_goWeek_202 : decode cX5_goWeek 202 = .ok (.iload 6, 2) := by decide +kernel
theorem dX5_goWeek_204 : decode cX5_goWeek 204 = .ok (.aload_n 0, 1) := by decide +kernel
theorem dX5_goWeek_205 : decode cX5_goWeek 205 = .ok (.getfield 85, 3) := by decide +kernel
theorem dX5_goWeek_208 : decode cX5_goWeek 208 = .ok (.if_icmp .ge 53, 3) := by decide +kernel
theorem dX5_goWeek_211 : decode cX5_goWeek 211 = .ok (.aload_n 0, 1) := by decide +kernel
theorem dX5_goWeek_212 : decode cX5_goWeek 212 = .ok (.getfield 45, 3) := by decide +kernel
theorem dX5_goWeek_215 : decode cX5_goWeek 215 = .ok (.iload 6, 2) := by decide +kernel
theorem dX5_goWeek_217 : decode cX5_goWeek 217 = .ok (.iaload, 1) := by decide +kernel
theorem dX5_goWeek_218 : decode cX5_goWeek 218 = .ok (.aload_n 0, 1) := by decide +kernel
theorem dX5_goWeek_219 : decode cX5_goWeek 219 = .ok (.getfield 19, 3) := by decide +kernel
theorem dX5_goWeek_222 : decode cX5_goWeek 222 = .ok (.aload_n 0, 1) := by decide +kernel
theorem dX5_goWeek_223 : decode cX5_goWeek 223 = .ok (.getfield 22, 3) := by decide +kernel
theorem dX5_goWeek_226 : decode cX5_goWeek 226 = .ok (.iconst 5, 1) := by decide +kernel
theorem dX5_goWeek_227 : decode cX5_goWeek 227 = .ok (.iload 6, 2) := by decide +kernel
theorem dX5_goWeek_229 : decode cX5_goWeek 229 = .ok (.imul, 1) := by decide +kernel
theorem dX5_goWeek_230 : decode cX5_goWeek 230 = .ok (.iconst 1, 1) := by decide +kernel
theorem dX5_goWeek_231 : decode cX5_goWeek 231 = .ok (.iadd, 1) := by decide +kernel
theorem dX5_goWeek_232 : decode cX5_goWeek 232 = .ok (.iaload, 1) := by decide +kernel
theorem dX5_goWeek_233 : decode cX5_goWeek 233 = .ok (.iaload, 1) := by decide +kernel
theorem dX5_goWeek_234 : decode cX5_goWeek 234 = .ok (.isub, 1) := by decide +kernel
theorem dX5_goWeek_235 : decode cX5_goWeek 235 = .ok (.istore 7, 2) := by decide +kernel
theorem dX5_goWeek_237 : decode cX5_goWeek 237 = .ok (.aload_n 0, 1) := by decide +kernel
theorem dX5_goWeek_238 : decode cX5_goWeek 238 = .ok (.getfield 45, 3) := by decide +kernel
theorem dX5_goWeek_241 : decode cX5_goWeek 241 = .ok (.iload 6, 2) := by decide +kernel
theorem dX5_goWeek_243 : decode cX5_goWeek 243 = .ok (.iload 7, 2) := by decide +kernel
theorem dX5_goWeek_245 : decode cX5_goWeek 245 = .ok (.ifCond .ge 7, 3) := by decide +kernel
theorem dX5_goWeek_248 : decode cX5_goWeek 248 = .ok (.iconst 0, 1) := by decide +kernel
theorem dX5_goWeek_249 : decode cX5_goWeek 249 = .ok (.goto 5, 3) := by decide +kernel
theorem dX5_goWeek_252 : decode cX5_goWeek 252 = .ok (.iload 7, 2) := by decide +kernel
theorem dX5_goWeek_254 : decode cX5_goWeek 254 = .ok (.iastore, 1) := by decide +kernel
theorem dX5_goWeek_255 : decode cX5_goWeek 255 = .ok (.iinc 6 1, 3) := by decide +kernel
theorem dX5_goWeek_258 : decode cX5_goWeek 258 = .ok (.goto (-56), 3) := by decide +kernel
theorem dX5_goWeek_261 : decode cX5_goWeek 261 = .ok (.iload_n 3, 1) := by decide +kernel
theorem dX5_goWeek_262 : decode cX5_goWeek 262 = .ok (.ireturn, 1) := by decide +kernel
set_option maxRecDepth 20000 in
theorem ggX5_week_X5_layLooks : GoodIn wsX5_week wsX5_layLooks := goodIn_r _ [11, 3, 5, 4, 18, 19, 20, 21, 22, 23, 24, 25, 26, 27, 28, 29, 30, 31, 32, 33, 34, 35, 36, 37, 38, 39, 40, 41] (by decide +kernel) (by decide +kernel)
set_option maxRecDepth 20000 in
theorem gX5_week_X5_layLooks : GoodIn wsX5_week (wsV RX5 94 RX5 yX5_layLooks wsX5_layLooks) := goodIn_app (goodIn_of _ (by decide +kernel)) ggX5_week_X5_layLooks
set_option maxRecDepth 20000 in
theorem ggX5_week_X5_goWeek : GoodIn wsX5_week wsX5_goWeek := goodIn_r _ [15, 3, 6, 16, 5, 4, 17, 18, 19, 20, 21, 22, 23, 24, 25, 26, 27, 28, 29, 30, 31, 32, 33, 34, 35, 36, 37, 38, 39, 40, 41] (by decide +kernel) (by decide +kernel)
set_option maxRecDepth 20000 in
theorem gX5_week_X5_goWeek : GoodIn wsX5_week (wsV RX5 97 RX5 yX5_goWeek wsX5_goWeek) := goodIn_app (goodIn_of _ (by decide +kernel)) ggX5_week_X5_goWeek
theorem dX5_week_0 : decode cX5_week 0 = .ok (.aload_n 0, 1) := by decide +kernel
theorem dX5_week_1 : decode cX5_week 1 = .ok (.getfield 91, 3) := by decide +kernel
theorem dX5_week_4 : decode cX5_week 4 = .ok (.sipush 200, 3) := by decide +kernel
theorem dX5_week_7 : decode cX5_week 7 = .ok (.if_icmp .ne 6, 3) := by decide +kernel
theorem dX5_week_10 : decode cX5_week 10 = .ok (.bipush (-3), 2) := by decide +kernel
theorem dX5_week_12 : decode cX5_week 12 = .ok (.ireturn, 1) := by decide +kernel
theorem dX5_week_13 : decode cX5_week 13 = .ok (.aload_n 0, 1) := by decide +kernel
theorem dX5_week_14 : decode cX5_week 14 = .ok (.invokevirtual 94, 3) := by decide +kernel
theorem dX5_week_17 : decode cX5_week 17 = .ok (.aload_n 0, 1) := by decide +kernel
theorem dX5_week_18 : decode cX5_week 18 = .ok (.aload_n 0, 1) := by decide +kernel
theorem dX5_week_19 : decode cX5_week 19 = .ok (.getfield 91, 3) := by decide +kernel
theorem dX5_week_22 : decode cX5_week 22 = .ok (.aload_n 0, 1) := by decide +kernel
theorem dX5_week_23 : decode cX5_week 23 = .ok (.getfield 25, 3) := by decide +kernel
theorem dX5_week_26 : decode cX5_week 26 = .ok (.invokevirtual 97, 3) := by decide +kernel
theorem dX5_week_29 : decode cX5_week 29 = .ok (.istore_n 1, 1) := by decide +kernel
theorem dX5_week_30 : decode cX5_week 30 = .ok (.iconst 0, 1) := by decide +kernel
theorem dX5_week_31 : decode cX5_week 31 = .ok (.istore_n 2, 1) := by decide +kernel
theorem dX5_week_32 : decode cX5_week 32 = .ok (.iload_n 2, 1) := by decide +kernel
theorem dX5_week_33 : decode cX5_week 33 = .ok (.aload_n 0, 1) := by decide +kernel
theorem dX5_week_34 : decode cX5_week 34 = .ok (.getfield 85, 3) := by decide +kernel
theorem dX5_week_37 : decode cX5_week 37 = .ok (.if_icmp .ge 52, 3) := by decide +kernel
theorem dX5_week_40 : decode cX5_week 40 = .ok (.aload_n 0, 1) := by decide +kernel
theorem dX5_week_41 : decode cX5_week 41 = .ok (.getfield 22, 3) := by decide +kernel
theorem dX5_week_44 : decode cX5_week 44 = .ok (.iconst 5, 1) := by decide +kernel
theorem dX5_week_45 : decode cX5_week 45 = .ok (.iload_n 2, 1) := by decide +kernel
theorem dX5_week_46 : decode cX5_week 46 = .ok (.imul, 1) := by decide +kernel
theorem dX5_week_47 : decode cX5_week 47 = .ok (.iconst 3, 1) := by decide +kernel
theorem dX5_week_48 : decode cX5_week 48 = .ok (.iadd, 1) := by decide +kernel
theorem dX5_week_49 : decode cX5_week 49 = .ok (.aload_n 0, 1) := by decide +kernel
theorem dX5_week_50 : decode cX5_week 50 = .ok (.getfield 45, 3) := by decide +kernel
theorem dX5_week_53 : decode cX5_week 53 = .ok (.iload_n 2, 1) := by decide +kernel
theorem dX5_week_54 : decode cX5_week 54 = .ok (.iaload, 1) := by decide +kernel
theorem dX5_week_55 : decode cX5_week 55 = .ok (.iastore, 1) := by decide +kernel
theorem dX5_week_56 : decode cX5_week 56 = .ok (.aload_n 0, 1) := by decide +kernel
theorem dX5_week_57 : decode cX5_week 57 = .ok (.getfield 22, 3) := by decide +kernel
theorem dX5_week_60 : decode cX5_week 60 = .ok (.iconst 5, 1) := by decide +kernel
theorem dX5_week_61 : decode cX5_week 61 = .ok (.iload_n 2, 1) := by decide +kernel
theorem dX5_week_62 : decode cX5_week 62 = .ok (.imul, 1) := by decide +kernel
theorem dX5_week_63 : decode cX5_week 63 = .ok (.iconst 4, 1) := by decide +kernel
theorem dX5_week_64 : decode cX5_week 64 = .ok (.iadd, 1) := by decide +kernel
theorem dX5_week_65 : decode cX5_week 65 = .ok (.dup2, 1) := by decide +kernel
theorem dX5_week_66 : decode cX5_week 66 = .ok (.iaload, 1) := by decide +kernel
theorem dX5_week_67 : decode cX5_week 67 = .ok (.aload_n 0, 1) := by decide +kernel
theorem dX5_week_68 : decode cX5_week 68 = .ok (.getfield 48, 3) := by decide +kernel
theorem dX5_week_71 : decode cX5_week 71 = .ok (.iload_n 2, 1) := by decide +kernel
theorem dX5_week_72 : decode cX5_week 72 = .ok (.baload, 1) := by decide +kernel
theorem dX5_week_73 : decode cX5_week 73 = .ok (.ifCond .eq 7, 3) := by decide +kernel
theorem dX5_week_76 : decode cX5_week 76 = .ok (.iconst 1, 1) := by decide +kernel
theorem dX5_week_77 : decode cX5_week 77 = .ok (.goto 4, 3) := by decide +kernel
theorem dX5_week_80 : decode cX5_week 80 = .ok (.iconst 0, 1) := by decide +kernel
theorem dX5_week_81 : decode cX5_week 81 = .ok (.iadd, 1) := by decide +kernel
theorem dX5_week_82 : decode cX5_week 82 = .ok (.iastore, 1) := by decide +kernel
theorem dX5_week_83 : decode cX5_week 83 = .ok (.iinc 2 1, 3) := by decide +kernel
theorem dX5_week_86 : decode cX5_week 86 = .ok (.goto (-54), 3) := by decide +kernel
theorem dX5_week_89 : decode cX5_week 89 = .ok (.aload_n 0, 1) := by decide +kernel
theorem dX5_week_90 : decode cX5_week 90 = .ok (.dup, 1) := by decide +kernel
theorem dX5_week_91 : decode cX5_week 91 = .ok (.getfield 91, 3) := by decide +kernel
theorem dX5_week_94 : decode cX5_week 94 = .ok (.iconst 1, 1) := by decide +kernel
theorem dX5_week_95 : decode cX5_week 95 = .ok (.iadd, 1) := by decide +kernel
theorem dX5_week_96 : decode cX5_week 96 = .ok (.putfield 91, 3) := by decide +kernel
theorem dX5_week_99 : decode cX5_week 99 = .ok (.iload_n 1, 1) := by decide +kernel
theorem dX5_week_100 : decode cX5_week 100 = .ok (.ireturn, 1) := by decide +kernel
set_option maxRecDepth 20000 in
theorem ggX5_layForetold_X5_layLooks : GoodIn wsX5_layForetold wsX5_layLooks := goodIn_r _ [9, 3, 4, 10, 18, 19, 20, 21, 22, 23, 24, 25, 26, 27, 28, 29, 30, 31, 32, 33, 34, 35, 36, 37, 38, 39, 40, 41] (by decide +kernel) (by decide +kernel)
set_option maxRecDepth 20000 in
theorem gX5_layForetold_X5_layLooks : GoodIn wsX5_layForetold (wsV RX5 94 RX5 yX5_layLooks wsX5_layLooks) := goodIn_app (goodIn_of _ (by decide +kernel)) ggX5_layForetold_X5_layLooks
set_option maxRecDepth 20000 in
theorem ggX5_layForetold_X5_goWeek : GoodIn wsX5_layForetold wsX5_goWeek := goodIn_r _ [14, 3, 15, 16, 4, 10, 17, 18, 19, 20, 21, 22, 23, 24, 25, 26, 27, 28, 29, 30, 31, 32, 33, 34, 35, 36, 37, 38, 39, 40, 41] (by decide +kernel) (by decide +kernel)
set_option maxRecDepth 20000 in
theorem gX5_layForetold_X5_goWeek : GoodIn wsX5_layForetold (wsV RX5 97 RX5 yX5_goWeek wsX5_goWeek) := goodIn_app (goodIn_of _ (by decide +kernel)) ggX5_layForetold_X5_goWeek
theorem dX5_layForetold_0 : decode cX5_layForetold 0 = .ok (.aload_n 0, 1) := by decide +kernel
theorem dX5_layForetold_1 : decode cX5_layForetold 1 = .ok (.invokevirtual 94, 3) := by decide +kernel
theorem dX5_layForetold_4 : decode cX5_layForetold 4 = .ok (.aload_n 0, 1) := by decide +kernel
theorem dX5_layForetold_5 : decode cX5_layForetold 5 = .ok (.getfield 51, 3) := by decide +kernel
theorem dX5_layForetold_8 : decode cX5_layForetold 8 = .ok (.iconst 0, 1) := by decide +kernel
theorem dX5_layForetold_9 : decode cX5_layForetold 9 = .ok (.sipush 1000, 3) := by decide +kernel
theorem dX5_layForetold_12 : decode cX5_layForetold 12 = .ok (.iastore, 1) := by decide +kernel
theorem dX5_layForetold_13 : decode cX5_layForetold 13 = .ok (.aload_n 0, 1) := by decide +kernel
theorem dX5_layForetold_14 : decode cX5_layForetold 14 = .ok (.getfield 91, 3) := by decide +kernel
theorem dX5_layForetold_17 : decode cX5_layForetold 17 = .ok (.istore_n 3, 1) := by decide +kernel
theorem dX5_layForetold_18 : decode cX5_layForetold 18 = .ok (.iload_n 3, 1) := by decide +kernel
theorem dX5_layForetold_19 : decode cX5_layForetold 19 = .ok (.aload_n 0, 1) := by decide +kernel
theorem dX5_layForetold_20 : decode cX5_layForetold 20 = .ok (.getfield 91, 3) := by decide +kernel
theorem dX5_layForetold_23 : decode cX5_layForetold 23 = .ok (.iload_n 1, 1) := by decide +kernel
theorem dX5_layForetold_24 : decode cX5_layForetold 24 = .ok (.iadd, 1) := by decide +kernel
theorem dX5_layForetold_25 : decode cX5_layForetold 25 = .ok (.if_icmp .ge 79, 3) := by decide +kernel
theorem dX5_layForetold_28 : decode cX5_layForetold 28 = .ok (.aload_n 0, 1) := by decide +kernel
theorem dX5_layForetold_29 : decode cX5_layForetold 29 = .ok (.iload_n 3, 1) := by decide +kernel
theorem dX5_layForetold_30 : decode cX5_layForetold 30 = .ok (.iload_n 2, 1) := by decide +kernel
theorem dX5_layForetold_31 : decode cX5_layForetold 31 = .ok (.invokevirtual 97, 3) := by decide +kernel
theorem dX5_layForetold_34 : decode cX5_layForetold 34 = .ok (.istore 4, 2) := by decide +kernel
theorem dX5_layForetold_36 : decode cX5_layForetold 36 = .ok (.iconst 0, 1) := by decide +kernel
theorem dX5_layForetold_37 : decode cX5_layForetold 37 = .ok (.istore 5, 2) := by decide +kernel
theorem dX5_layForetold_39 : decode cX5_layForetold 39 = .ok (.iload 5, 2) := by decide +kernel
theorem dX5_layForetold_41 : decode cX5_layForetold 41 = .ok (.aload_n 0, 1) := by decide +kernel
theorem dX5_layForetold_42 : decode cX5_layForetold 42 = .ok (.getfield 85, 3) := by decide +kernel
theorem dX5_layForetold_45 : decode cX5_layForetold 45 = .ok (.if_icmp .ge 53, 3) := by decide +kernel
theorem dX5_layForetold_48 : decode cX5_layForetold 48 = .ok (.aload_n 0, 1) := by decide +kernel
theorem dX5_layForetold_49 : decode cX5_layForetold 49 = .ok (.getfield 45, 3) := by decide +kernel
theorem dX5_layForetold_52 : decode cX5_layForetold 52 = .ok (.iload 5, 2) := by decide +kernel
theorem dX5_layForetold_54 : decode cX5_layForetold 54 = .ok (.iaload, 1) := by decide +kernel
theorem dX5_layForetold_55 : decode cX5_layForetold 55 = .ok (.aload_n 0, 1) := by decide +kernel
theorem dX5_layForetold_56 : decode cX5_layForetold 56 = .ok (.getfield 51, 3) := by decide +kernel
theorem dX5_layForetold_59 : decode cX5_layForetold 59 = .ok (.iconst 0, 1) := by decide +kernel
theorem dX5_layForetold_60 : decode cX5_layForetold 60 = .ok (.iaload, 1) := by decide +kernel
theorem dX5_layForetold_61 : decode cX5_layForetold 61 = .ok (.if_icmp .ge 31, 3) := by decide +kernel
theorem dX5_layForetold_64 : decode cX5_layForetold 64 = .ok (.aload_n 0, 1) := by decide +kernel
theorem dX5_layForetold_65 : decode cX5_layForetold 65 = .ok (.getfield 51, 3) := by decide +kernel
theorem dX5_layForetold_68 : decode cX5_layForetold 68 = .ok (.iconst 0, 1) := by decide +kernel
theorem dX5_layForetold_69 : decode cX5_layForetold 69 = .ok (.aload_n 0, 1) := by decide +kernel
theorem dX5_layForetold_70 : decode cX5_layForetold 70 = .ok (.getfield 45, 3) := by decide +kernel
theorem dX5_layForetold_73 : decode cX5_layForetold 73 = .ok (.iload 5, 2) := by decide +kernel
theorem dX5_layForetold_75 : decode cX5_layForetold 75 = .ok (.iaload, 1) := by decide +kernel
theorem dX5_layForetold_76 : decode cX5_layForetold 76 = .ok (.iastore, 1) := by decide +kernel
theorem dX5_layForetold_77 : decode cX5_layForetold 77 = .ok (.aload_n 0, 1) := by decide +kernel
theorem dX5_layForetold_78 : decode cX5_layForetold 78 = .ok (.getfield 51, 3) := by decide +kernel
theorem dX5_layForetold_81 : decode cX5_layForetold 81 = .ok (.iconst 1, 1) := by decide +kernel
theorem dX5_layForetold_82 : decode cX5_layForetold 82 = .ok (.iload_n 3, 1) := by decide +kernel
theorem dX5_layForetold_83 : decode cX5_layForetold 83 = .ok (.iastore, 1) := by decide +kernel
theorem dX5_layForetold_84 : decode cX5_layForetold 84 = .ok (.aload_n 0, 1) := by decide +kernel
theorem dX5_layForetold_85 : decode cX5_layForetold 85 = .ok (.getfield 51, 3) := by decide +kernel
theorem dX5_layForetold_88 : decode cX5_layForetold 88 = .ok (.iconst 2, 1) := by decide +kernel
theorem dX5_layForetold_89 : decode cX5_layForetold 89 = .ok (.iload 5, 2) := by decide +kernel
theorem dX5_layForetold_91 : decode cX5_layForetold 91 = .ok (.iastore, 1) := by decide +kernel
theorem dX5_layForetold_92 : decode cX5_layForetold 92 = .ok (.iinc 5 1, 3) := by decide +kernel
theorem dX5_layForetold_95 : decode cX5_layForetold 95 = .ok (.goto (-56), 3) := by decide +kernel
theorem dX5_layForetold_98 : decode cX5_layForetold 98 = .ok (.iinc 3 1, 3) := by decide +kernel
theorem dX5_layForetold_101 : decode cX5_layForetold 101 = .ok (.goto (-83), 3) := by decide +kernel
theorem dX5_layForetold_104 : decode cX5_layForetold 104 = .ok (.return_, 1) := by decide +kernel
set_option maxRecDepth 20000 in
theorem ggX5_foretell_X5_in : GoodIn wsX5_foretell wsX5_in := goodIn_r _ [8] (by decide +kernel) (by decide +kernel)
set_option maxRecDepth 20000 in
theorem gX5_foretell_X5_in : GoodIn wsX5_foretell (va_wsS RX5 54 yX5_in wsX5_in) := goodIn_app (goodIn_of _ (by decide +kernel)) ggX5_foretell_X5_in
set_option maxRecDepth 20000 in
theorem ggX5_foretell_X5_layForetold : GoodIn wsX5_foretell wsX5_layForetold := goodIn_r _ [12, 4, 1, 2, 13, 14, 15, 16, 7, 17, 18, 19, 20, 21, 22, 23, 24, 25, 26, 27, 28, 29, 30, 31, 32, 33, 34, 35, 36, 37, 38, 39, 40, 41, 42, 43, 44, 45, 46, 47, 48, 49] (by decide +kernel) (by decide +kernel)
set_option maxRecDepth 20000 in
theorem gX5_foretell_X5_layForetold : GoodIn wsX5_foretell (wsV RX5 100 RX5 yX5_layForetold wsX5_layForetold) := goodIn_app (goodIn_of _ (by decide +kernel)) ggX5_foretell_X5_layForetold
theorem dX5_foretell_0 : decode cX5_foretell 0 = .ok (.iload_n 1, 1) := by decide +kernel
theorem dX5_foretell_1 : decode cX5_foretell 1 = .ok (.iconst 1, 1) := by decide +kernel
theorem dX5_foretell_2 : decode cX5_foretell 2 = .ok (.bipush 52, 2) := by decide +kernel
theorem dX5_foretell_4 : decode cX5_foretell 4 = .ok (.invokestatic 54, 3) := by decide +kernel
theorem dX5_foretell_7 : decode cX5_foretell 7 = .ok (.ifCond .eq 12, 3) := by decide +kernel
theorem dX5_foretell_10 : decode cX5_foretell 10 = .ok (.iload_n 2, 1) := by decide +kernel
theorem dX5_foretell_11 : decode cX5_foretell 11 = .ok (.iconst 0, 1) := by decide +kernel
theorem dX5_foretell_12 : decode cX5_foretell 12 = .ok (.iconst 2, 1) := by decide +kernel
theorem dX5_foretell_13 : decode cX5_foretell 13 = .ok (.invokestatic 54, 3) := by decide +kernel
theorem dX5_foretell_16 : decode cX5_foretell 16 = .ok (.ifCond .ne 6, 3) := by decide +kernel
theorem dX5_foretell_19 : decode cX5_foretell 19 = .ok (.bipush (-2), 2) := by decide +kernel
theorem dX5_foretell_21 : decode cX5_foretell 21 = .ok (.ireturn, 1) := by decide +kernel
theorem dX5_foretell_22 : decode cX5_foretell 22 = .ok (.aload_n 0, 1) := by decide +kernel
theorem dX5_foretell_23 : decode cX5_foretell 23 = .ok (.getfield 91, 3) := by decide +kernel
theorem dX5_foretell_26 : decode cX5_foretell 26 = .ok (.iload_n 1, 1) := by decide +kernel
theorem dX5_foretell_27 : decode cX5_foretell 27 = .ok (.iadd, 1) := by decide +kernel
theorem dX5_foretell_28 : decode cX5_foretell 28 = .ok (.sipush 200, 3) := by decide +kernel
theorem dX5_foretell_31 : decode cX5_foretell 31 = .ok (.if_icmp .le 6, 3) := by decide +kernel
theorem dX5_foretell_34 : decode cX5_foretell 34 = .ok (.bipush (-3), 2) := by decide +kernel
theorem dX5_foretell_36 : decode cX5_foretell 36 = .ok (.ireturn, 1) := by decide +kernel
theorem dX5_foretell_37 : decode cX5_foretell 37 = .ok (.aload_n 0, 1) := by decide +kernel
theorem dX5_foretell_38 : decode cX5_foretell 38 = .ok (.getfield 85, 3) := by decide +kernel
theorem dX5_foretell_41 : decode cX5_foretell 41 = .ok (.ifCond .ne 6, 3) := by decide +kernel
theorem dX5_foretell_44 : decode cX5_foretell 44 = .ok (.bipush (-6), 2) := by decide +kernel
theorem dX5_foretell_46 : decode cX5_foretell 46 = .ok (.ireturn, 1) := by decide +kernel
theorem dX5_foretell_47 : decode cX5_foretell 47 = .ok (.aload_n 0, 1) := by decide +kernel
theorem dX5_foretell_48 : decode cX5_foretell 48 = .ok (.iload_n 1, 1) := by decide +kernel
theorem dX5_foretell_49 : decode cX5_foretell 49 = .ok (.aload_n 0, 1) := by decide +kernel
theorem dX5_foretell_50 : decode cX5_foretell 50 = .ok (.getfield 25, 3) := by decide +kernel
theorem dX5_foretell_53 : decode cX5_foretell 53 = .ok (.invokevirtual 100, 3) := by decide +kernel
theorem dX5_foretell_56 : decode cX5_foretell 56 = .ok (.aload_n 0, 1) := by decide +kernel
theorem dX5_foretell_57 : decode cX5_foretell 57 = .ok (.getfield 51, 3) := by decide +kernel
theorem dX5_foretell_60 : decode cX5_foretell 60 = .ok (.iload_n 2, 1) := by decide +kernel
theorem dX5_foretell_61 : decode cX5_foretell 61 = .ok (.iaload, 1) := by decide +kernel
theorem dX5_foretell_62 : decode cX5_foretell 62 = .ok (.ireturn, 1) := by decide +kernel
set_option maxRecDepth 20000 in
theorem ggX5_enough_X5_in : GoodIn wsX5_enough wsX5_in := goodIn_r _ [7] (by decide +kernel) (by decide +kernel)
set_option maxRecDepth 20000 in
theorem gX5_enough_X5_in : GoodIn wsX5_enough (va_wsS RX5 54 yX5_in wsX5_in) := goodIn_app (goodIn_of _ (by decide +kernel)) ggX5_enough_X5_in
set_option maxRecDepth 20000 in
theorem ggX5_enough_X5_layForetold : GoodIn wsX5_enough wsX5_layForetold := goodIn_r _ [11, 3, 1, 2, 12, 13, 14, 15, 6, 16, 17, 18, 19, 20, 21, 22, 23, 24, 25, 26, 27, 28, 29, 30, 31, 32, 33, 34, 35, 36, 37, 38, 39, 40, 41, 42, 43, 44, 45, 46, 47, 48] (by decide +kernel) (by decide +kernel)
set_option maxRecDepth 20000 in
theorem gX5_enough_X5_layForetold : GoodIn wsX5_enough (wsV RX5 100 RX5 yX5_layForetold wsX5_layForetold) := goodIn_app (goodIn_of _ (by decide +kernel)) ggX5_enough_X5_layForetold
theorem dX5_enough_0 : decode cX5_enough 0 = .ok (.iload_n 1, 1) := by decide +kernel
theorem dX5_enough_1 : decode cX5_enough 1 = .ok (.iconst 1, 1) := by decide +kernel
theorem dX5_enough_2 : decode cX5_enough 2 = .ok (.bipush 52, 2) := by decide +kernel
theorem dX5_enough_4 : decode cX5_enough 4 = .ok (.invokestatic 54, 3) := by decide +kernel
theorem dX5_enough_7 : decode cX5_enough 7 = .ok (.ifCond .eq 13, 3) := by decide +kernel
theorem dX5_enough_10 : decode cX5_enough 10 = .ok (.iload_n 2, 1) := by decide +kernel
theorem dX5_enough_11 : decode cX5_enough 11 = .ok (.iconst 0, 1) := by decide +kernel
theorem dX5_enough_12 : decode cX5_enough 12 = .ok (.bipush 100, 2) := by decide +kernel
theorem dX5_enough_14 : decode cX5_enough 14 = .ok (.invokestatic 54, 3) := by decide +kernel
theorem dX5_enough_17 : decode cX5_enough 17 = .ok (.ifCond .ne 6, 3) := by decide +kernel
theorem dX5_enough_20 : decode cX5_enough 20 = .ok (.bipush (-2), 2) := by decide +kernel
theorem dX5_enough_22 : decode cX5_enough 22 = .ok (.ireturn, 1) := by decide +kernel
theorem dX5_enough_23 : decode cX5_enough 23 = .ok (.aload_n 0, 1) := by decide +kernel
theorem dX5_enough_24 : decode cX5_enough 24 = .ok (.getfield 91, 3) := by decide +kernel
theorem dX5_enough_27 : decode cX5_enough 27 = .ok (.iload_n 1, 1) := by decide +kernel
theorem dX5_enough_28 : decode cX5_enough 28 = .ok (.iadd, 1) := by decide +kernel
theorem dX5_enough_29 : decode cX5_enough 29 = .ok (.sipush 200, 3) := by decide +kernel
theorem dX5_enough_32 : decode cX5_enough 32 = .ok (.if_icmp .le 6, 3) := by decide +kernel
theorem dX5_enough_35 : decode cX5_enough 35 = .ok (.bipush (-3), 2) := by decide +kernel
theorem dX5_enough_37 : decode cX5_enough 37 = .ok (.ireturn, 1) := by decide +kernel
theorem dX5_enough_38 : decode cX5_enough 38 = .ok (.aload_n 0, 1) := by decide +kernel
theorem dX5_enough_39 : decode cX5_enough 39 = .ok (.getfield 85, 3) := by decide +kernel
theorem dX5_enough_42 : decode cX5_enough 42 = .ok (.ifCond .ne 6, 3) := by decide +kernel
theorem dX5_enough_45 : decode cX5_enough 45 = .ok (.bipush (-6), 2) := by decide +kernel
theorem dX5_enough_47 : decode cX5_enough 47 = .ok (.ireturn, 1) := by decide +kernel
theorem dX5_enough_48 : decode cX5_enough 48 = .ok (.iconst 0, 1) := by decide +kernel
theorem dX5_enough_49 : decode cX5_enough 49 = .ok (.istore_n 3, 1) := by decide +kernel
theorem dX5_enough_50 : decode cX5_enough 50 = .ok (.iload_n 3, 1) := by decide +kernel
theorem dX5_enough_51 : decode cX5_enough 51 = .ok (.sipush 500, 3) := by decide +kernel
theorem dX5_enough_54 : decode cX5_enough 54 = .ok (.if_icmp .gt 27, 3) := by decide +kernel
theorem dX5_enough_57 : decode cX5_enough 57 = .ok (.aload_n 0, 1) := by decide +kernel
theorem dX5_enough_58 : decode cX5_enough 58 = .ok (.iload_n 1, 1) := by decide +kernel
theorem dX5_enough_59 : decode cX5_enough 59 = .ok (.iload_n 3, 1) := by decide +kernel
theorem dX5_enough_60 : decode cX5_enough 60 = .ok (.invokevirtual 100, 3) := by decide +kernel
theorem dX5_enough_63 : decode cX5_enough 63 = .ok (.aload_n 0, 1) := by decide +kernel
theorem dX5_enough_64 : decode cX5_enough 64 = .ok (.getfield 51, 3) := by decide +kernel
theorem dX5_enough_67 : decode cX5_enough 67 = .ok (.iconst 0, 1) := by decide +kernel
theorem dX5_enough_68 : decode cX5_enough 68 = .ok (.iaload, 1) := by decide +kernel
theorem dX5_enough_69 : decode cX5_enough 69 = .ok (.iload_n 2, 1) := by decide +kernel
theorem dX5_enough_70 : decode cX5_enough 70 = .ok (.if_icmp .lt 5, 3) := by decide +kernel
theorem dX5_enough_73 : decode cX5_enough 73 = .ok (.iload_n 3, 1) := by decide +kernel
theorem dX5_enough_74 : decode cX5_enough 74 = .ok (.ireturn, 1) := by decide +kernel
theorem dX5_enough_75 : decode cX5_enough 75 = .ok (.iinc 3 1, 3) := by decide +kernel
theorem dX5_enough_78 : decode cX5_enough 78 = .ok (.goto (-28), 3) := by decide +kernel
theorem dX5_enough_81 : decode cX5_enough 81 = .ok (.bipush (-6), 2) := by decide +kernel
theorem dX5_enough_83 : decode cX5_enough 83 = .ok (.ireturn, 1) := by decide +kernel
theorem dX5_ring_0 : decode cX5_ring 0 = .ok (.aload_n 0, 1) := by decide +kernel
theorem dX5_ring_1 : decode cX5_ring 1 = .ok (.getfield 104, 3) := by decide +kernel
theorem dX5_ring_4 : decode cX5_ring 4 = .ok (.iconst 3, 1) := by decide +kernel
theorem dX5_ring_5 : decode cX5_ring 5 = .ok (.if_icmp .ne 6, 3) := by decide +kernel
theorem dX5_ring_8 : decode cX5_ring 8 = .ok (.bipush (-4), 2) := by decide +kernel
theorem dX5_ring_10 : decode cX5_ring 10 = .ok (.ireturn, 1) := by decide +kernel
theorem dX5_ring_11 : decode cX5_ring 11 = .ok (.aload_n 0, 1) := by decide +kernel
theorem dX5_ring_12 : decode cX5_ring 12 = .ok (.getfield 33, 3) := by decide +kernel
theorem dX5_ring_15 : decode cX5_ring 15 = .ok (.aload_n 0, 1) := by decide +kernel
theorem dX5_ring_16 : decode cX5_ring 16 = .ok (.getfield 104, 3) := by decide +kernel
theorem dX5_ring_19 : decode cX5_ring 19 = .ok (.iconst 0, 1) := by decide +kernel
theorem dX5_ring_20 : decode cX5_ring 20 = .ok (.iastore, 1) := by decide +kernel
theorem dX5_ring_21 : decode cX5_ring 21 = .ok (.aload_n 0, 1) := by decide +kernel
theorem dX5_ring_22 : decode cX5_ring 22 = .ok (.dup, 1) := by decide +kernel
theorem dX5_ring_23 : decode cX5_ring 23 = .ok (.getfield 104, 3) := by decide +kernel
theorem dX5_ring_26 : decode cX5_ring 26 = .ok (.iconst 1, 1) := by decide +kernel
theorem dX5_ring_27 : decode cX5_ring 27 = .ok (.iadd, 1) := by decide +kernel
theorem dX5_ring_28 : decode cX5_ring 28 = .ok (.putfield 104, 3) := by decide +kernel
theorem dX5_ring_31 : decode cX5_ring 31 = .ok (.aload_n 0, 1) := by decide +kernel
theorem dX5_ring_32 : decode cX5_ring 32 = .ok (.getfield 104, 3) := by decide +kernel
theorem dX5_ring_35 : decode cX5_ring 35 = .ok (.iconst 1, 1) := by decide +kernel
theorem dX5_ring_36 : decode cX5_ring 36 = .ok (.isub, 1) := by decide +kernel
theorem dX5_ring_37 : decode cX5_ring 37 = .ok (.ireturn, 1) := by decide +kernel
set_option maxRecDepth 20000 in
theorem ggX5_isRing_X5_in : GoodIn wsX5_isRing wsX5_in := goodIn_r _ [5] (by decide +kernel) (by decide +kernel)
set_option maxRecDepth 20000 in
theorem gX5_isRing_X5_in : GoodIn wsX5_isRing (va_wsS RX5 54 yX5_in wsX5_in) := goodIn_app (goodIn_of _ (by decide +kernel)) ggX5_isRing_X5_in
theorem dX5_isRing_0 : decode cX5_isRing 0 = .ok (.iload_n 1, 1) := by decide +kernel
theorem dX5_isRing_1 : decode cX5_isRing 1 = .ok (.iconst 0, 1) := by decide +kernel
theorem dX5_isRing_2 : decode cX5_isRing 2 = .ok (.aload_n 0, 1) := by decide +kernel
theorem dX5_isRing_3 : decode cX5_isRing 3 = .ok (.getfield 104, 3) := by decide +kernel
theorem dX5_isRing_6 : decode cX5_isRing 6 = .ok (.iconst 1, 1) := by decide +kernel
theorem dX5_isRing_7 : decode cX5_isRing 7 = .ok (.isub, 1) := by decide +kernel
theorem dX5_isRing_8 : decode cX5_isRing 8 = .ok (.invokestatic 54, 3) := by decide +kernel
theorem dX5_isRing_11 : decode cX5_isRing 11 = .ok (.ireturn, 1) := by decide +kernel
set_option maxRecDepth 20000 in
theorem ggX5_block_X5_isRing : GoodIn wsX5_block wsX5_isRing := goodIn_r _ [9, 10, 11, 12, 8, 13, 14, 15, 16, 17, 18, 19, 20, 21, 22, 23, 24, 25, 26, 27, 28, 29, 30, 31, 32, 33, 34, 35, 36, 37] (by decide +kernel) (by decide +kernel)
set_option maxRecDepth 20000 in
theorem gX5_block_X5_isRing : GoodIn wsX5_block (wsV RX5 107 RX5 yX5_isRing wsX5_isRing) := goodIn_app (goodIn_of _ (by decide +kernel)) ggX5_block_X5_isRing
set_option maxRecDepth 20000 in
theorem ggX5_block_X5_in : GoodIn wsX5_block wsX5_in := goodIn_r _ [13] (by decide +kernel) (by decide +kernel)
set_option maxRecDepth 20000 in
theorem gX5_block_X5_in : GoodIn wsX5_block (va_wsS RX5 54 yX5_in wsX5_in) := goodIn_app (goodIn_of _ (by decide +kernel)) ggX5_block_X5_in
theorem dX5_block_0 : decode cX5_block 0 = .ok (.aload_n 0, 1) := by decide +kernel
theorem dX5_block_1 : decode cX5_block 1 = .ok (.iload_n 1, 1) := by decide +kernel
theorem dX5_block_2 : decode cX5_block 2 = .ok (.invokevirtual 107, 3) := by decide +kernel
theorem dX5_block_5 : decode cX5_block 5 = .ok (.ifCond .ne 5, 3) := by decide +kernel
theorem dX5_block_8 : decode cX5_block 8 = .ok (.iconst (-1), 1) := by decide +kernel
theorem dX5_block_9 : decode cX5_block 9 = .ok (.ireturn, 1) := by decide +kernel
theorem dX5_block_10 : decode cX5_block 10 = .ok (.iload_n 2, 1) := by decide +kernel
theorem dX5_block_11 : decode cX5_block 11 = .ok (.iconst 0, 1) := by decide +kernel
theorem dX5_block_12 : decode cX5_block 12 = .ok (.bipush 29, 2) := by decide +kernel
theorem dX5_block_14 : decode cX5_block 14 = .ok (.invokestatic 54, 3) := by decide +kernel
theorem dX5_block_17 : decode cX5_block 17 = .ok (.ifCond .ne 6, 3) := by decide +kernel
theorem dX5_block_20 : decode cX5_block 20 = .ok (.bipush (-2), 2) := by decide +kernel
theorem dX5_block_22 : decode cX5_block 22 = .ok (.ireturn, 1) := by decide +kernel
theorem dX5_block_23 : decode cX5_block 23 = .ok (.iconst 0, 1) := by decide +kernel
theorem dX5_block_24 : decode cX5_block 24 = .ok (.istore_n 3, 1) := by decide +kernel
theorem dX5_block_25 : decode cX5_block 25 = .ok (.iload_n 3, 1) := by decide +kernel
theorem dX5_block_26 : decode cX5_block 26 = .ok (.aload_n 0, 1) := by decide +kernel
theorem dX5_block_27 : decode cX5_block 27 = .ok (.getfield 110, 3) := by decide +kernel
theorem dX5_block_30 : decode cX5_block 30 = .ok (.if_icmp .ge 25, 3) := by decide +kernel
theorem dX5_block_33 : decode cX5_block 33 = .ok (.aload_n 0, 1) := by decide +kernel
theorem dX5_block_34 : decode cX5_block 34 = .ok (.getfield 39, 3) := by decide +kernel
theorem dX5_block_37 : decode cX5_block 37 = .ok (.bipush 7, 2) := by decide +kernel
theorem dX5_block_39 : decode cX5_block 39 = .ok (.iload_n 3, 1) := by decide +kernel
theorem dX5_block_40 : decode cX5_block 40 = .ok (.imul, 1) := by decide +kernel
theorem dX5_block_41 : decode cX5_block 41 = .ok (.iaload, 1) := by decide +kernel
theorem dX5_block_42 : decode cX5_block 42 = .ok (.iload_n 1, 1) := by decide +kernel
theorem dX5_block_43 : decode cX5_block 43 = .ok (.if_icmp .ne 6, 3) := by decide +kernel
theorem dX5_block_46 : decode cX5_block 46 = .ok (.bipush (-3), 2) := by decide +kernel
theorem dX5_block_48 : decode cX5_block 48 = .ok (.ireturn, 1) := by decide +kernel
theorem dX5_block_49 : decode cX5_block 49 = .ok (.iinc 3 1, 3) := by decide +kernel
theorem dX5_block_52 : decode cX5_block 52 = .ok (.goto (-27), 3) := by decide +kernel
theorem dX5_block_55 : decode cX5_block 55 = .ok (.aload_n 0, 1) := by decide +kernel
theorem dX5_block_56 : decode cX5_block 56 = .ok (.getfield 33, 3) := by decide +kernel
theorem dX5_block_59 : decode cX5_block 59 = .ok (.iload_n 1, 1) := by decide +kernel
theorem dX5_block_60 : decode cX5_block 60 = .ok (.iaload, 1) := by decide +kernel
theorem dX5_block_61 : decode cX5_block 61 = .ok (.bipush 12, 2) := by decide +kernel
theorem dX5_block_63 : decode cX5_block 63 = .ok (.if_icmp .ne 6, 3) := by decide +kernel
theorem dX5_block_66 : decode cX5_block 66 = .ok (.bipush (-4), 2) := by decide +kernel
theorem dX5_block_68 : decode cX5_block 68 = .ok (.ireturn, 1) := by decide +kernel
theorem dX5_block_69 : decode cX5_block 69 = .ok (.iconst 0, 1) := by decide +kernel
theorem dX5_block_70 : decode cX5_block 70 = .ok (.istore_n 3, 1) := by decide +kernel
theorem dX5_block_71 : decode cX5_block 71 = .ok (.iload_n 3, 1) := by decide +kernel
theorem dX5_block_72 : decode cX5_block 72 = .ok (.aload_n 0, 1) := by decide +kernel
theorem dX5_block_73 : decode cX5_block 73 = .ok (.getfield 33, 3) := by decide +kernel
theorem dX5_block_76 : decode cX5_block 76 = .ok (.iload_n 1, 1) := by decide +kernel
theorem dX5_block_77 : decode cX5_block 77 = .ok (.iaload, 1) := by decide +kernel
theorem dX5_block_78 : decode cX5_block 78 = .ok (.if_icmp .ge 27, 3) := by decide +kernel
theorem dX5_block_81 : decode cX5_block 81 = .ok (.aload_n 0, 1) := by decide +kernel
theorem dX5_block_82 : decode cX5_block 82 = .ok (.getfield 36, 3) := by decide +kernel
theorem dX5_block_85 : decode cX5_block 85 = .ok (.bipush 12, 2) := by decide +kernel
theorem dX5_block_87 : decode cX5_block 87 = .ok (.iload_n 1, 1) := by decide +kernel
theorem dX5_block_88 : decode cX5_block 88 = .ok (.imul, 1) := by decide +kernel
theorem dX5_block_89 : decode cX5_block 89 = .ok (.iload_n 3, 1) := by decide +kernel
theorem dX5_block_90 : decode cX5_block 90 = .ok (.iadd, 1) := by decide +kernel
theorem dX5_block_91 : decode cX5_block 91 = .ok (.iaload, 1) := by decide +kernel
theorem dX5_block_92 : decode cX5_block 92 = .ok (.iload_n 2, 1) := by decide +kernel
theorem dX5_block_93 : decode cX5_block 93 = .ok (.if_icmp .ne 6, 3) := by decide +kernel
theorem dX5_block_96 : decode cX5_block 96 = .ok (.bipush (-5), 2) := by decide +kernel
theorem dX5_block_98 : decode cX5_block 98 = .ok (.ireturn, 1) := by decide +kernel
theorem dX5_block_99 : decode cX5_block 99 = .ok (.iinc 3 1, 3) := by decide +kernel
theorem dX5_block_102 : decode cX5_block 102 = .ok (.goto (-31), 3) := by decide +kernel
theorem dX5_block_105 : decode cX5_block 105 = .ok (.aload_n 0, 1) := by decide +kernel
theorem dX5_block_106 : decode cX5_block 106 = .ok (.getfield 36, 3) := by decide +kernel
theorem dX5_block_109 : decode cX5_block 109 = .ok (.bipush 12, 2) := by decide +kernel
theorem dX5_block_111 : decode cX5_block 111 = .ok (.iload_n 1, 1) := by decide +kernel
theorem dX5_block_112 : decode cX5_block 112 = .ok (.imul, 1) := by decide +kernel
theorem dX5_block_113 : decode cX5_block 113 = .ok (.aload_n 0, 1) := by decide +kernel
theorem dX5_block_114 : decode cX5_block 114 = .ok (.getfield 33, 3) := by decide +kernel
theorem dX5_block_117 : decode cX5_block 117 = .ok (.iload_n 1, 1) := by decide +kernel
theorem dX5_block_118 : decode cX5_block 118 = .ok (.iaload, 1) := by decide +kernel
theorem dX5_block_119 : decode cX5_block 119 = .ok (.iadd, 1) := by decide +kernel
theorem dX5_block_120 : decode cX5_block 120 = .ok (.iload_n 2, 1) := by decide +kernel
theorem dX5_block_121 : decode cX5_block 121 = .ok (.iastore, 1) := by decide +kernel
theorem dX5_block_122 : decode cX5_block 122 = .ok (.aload_n 0, 1) := by decide +kernel
theorem dX5_block_123 : decode cX5_block 123 = .ok (.getfield 33, 3) := by decide +kernel
theorem dX5_block_126 : decode cX5_block 126 = .ok (.iload_n 1, 1) := by decide +kernel
theorem dX5_block_127 : decode cX5_block 127 = .ok (.dup2, 1) := by decide +kernel
theorem dX5_block_128 : decode cX5_block 128 = .ok (.iaload, 1) := by decide +kernel
theorem dX5_block_129 : decode cX5_block 129 = .ok (.iconst 1, 1) := by decide +kernel
theorem dX5_block_130 : decode cX5_block 130 = .ok (.iadd, 1) := by decide +kernel
theorem dX5_block_131 : decode cX5_block 131 = .ok (.iastore, 1) := by decide +kernel
theorem dX5_block_132 : decode cX5_block 132 = .ok (.aload_n 0, 1) := by decide +kernel
theorem dX5_block_133 : decode cX5_block 133 = .ok (.getfield 33, 3) := by decide +kernel
theorem dX5_block_136 : decode cX5_block 136 = .ok (.iload_n 1, 1) := by decide +kernel
theorem dX5_block_137 : decode cX5_block 137 = .ok (.iaload, 1) := by decide +kernel
theorem dX5_block_138 : decode cX5_block 138 = .ok (.ireturn, 1) := by decide +kernel
theorem dX5_blockAt_0 : decode cX5_blockAt 0 = .ok (.aload_n 0, 1) := by decide +kernel
theorem dX5_blockAt_1 : decode cX5_blockAt 1 = .ok (.getfield 36, 3) := by decide +kernel
theorem dX5_blockAt_4 : decode cX5_blockAt 4 = .ok (.bipush 12, 2) := by decide +kernel
theorem dX5_blockAt_6 : decode cX5_blockAt 6 = .ok (.iload_n 1, 1) := by decide +kernel
theorem dX5_blockAt_7 : decode cX5_blockAt 7 = .ok (.imul, 1) := by decide +kernel
theorem dX5_blockAt_8 : decode cX5_blockAt 8 = .ok (.iload_n 2, 1) := by decide +kernel
theorem dX5_blockAt_9 : decode cX5_blockAt 9 = .ok (.aload_n 0, 1) := by decide +kernel
theorem dX5_blockAt_10 : decode cX5_blockAt 10 = .ok (.getfield 33, 3) := by decide +kernel
theorem dX5_blockAt_13 : decode cX5_blockAt 13 = .ok (.iload_n 1, 1) := by decide +kernel
theorem dX5_blockAt_14 : decode cX5_blockAt 14 = .ok (.iaload, 1) := by decide +kernel
theorem dX5_blockAt_15 : decode cX5_blockAt 15 = .ok (.irem, 1) := by decide +kernel
theorem dX5_blockAt_16 : decode cX5_blockAt 16 = .ok (.iadd, 1) := by decide +kernel
theorem dX5_blockAt_17 : decode cX5_blockAt 17 = .ok (.iaload, 1) := by decide +kernel
theorem dX5_blockAt_18 : decode cX5_blockAt 18 = .ok (.ireturn, 1) := by decide +kernel
set_option maxRecDepth 20000 in
theorem ggX5_blockOf_X5_blockAt : GoodIn wsX5_blockOf wsX5_blockAt := goodIn_r _ [6, 7, 8, 9, 10, 11, 12, 13, 14, 15, 16, 17, 18, 19, 20, 21, 22, 23, 24, 25, 26, 27, 28, 29, 30, 31, 32] (by decide +kernel) (by decide +kernel)
set_option maxRecDepth 20000 in
theorem gX5_blockOf_X5_blockAt : GoodIn wsX5_blockOf (wsV RX5 113 RX5 yX5_blockAt wsX5_blockAt) := goodIn_app (goodIn_of _ (by decide +kernel)) ggX5_blockOf_X5_blockAt
theorem dX5_blockOf_0 : decode cX5_blockOf 0 = .ok (.aload_n 0, 1) := by decide +kernel
theorem dX5_blockOf_1 : decode cX5_blockOf 1 = .ok (.aload_n 0, 1) := by decide +kernel
theorem dX5_blockOf_2 : decode cX5_blockOf 2 = .ok (.getfield 39, 3) := by decide +kernel
theorem dX5_blockOf_5 : decode cX5_blockOf 5 = .ok (.bipush 7, 2) := by decide +kernel
theorem dX5_blockOf_7 : decode cX5_blockOf 7 = .ok (.iload_n 1, 1) := by decide +kernel
theorem dX5_blockOf_8 : decode cX5_blockOf 8 = .ok (.imul, 1) := by decide +kernel
theorem dX5_blockOf_9 : decode cX5_blockOf 9 = .ok (.iaload, 1) := by decide +kernel
theorem dX5_blockOf_10 : decode cX5_blockOf 10 = .ok (.aload_n 0, 1) := by decide +kernel
theorem dX5_blockOf_11 : decode cX5_blockOf 11 = .ok (.getfield 39, 3) := by decide +kernel
theorem dX5_blockOf_14 : decode cX5_blockOf 14 = .ok (.bipush 7, 2) := by decide +kernel
theorem dX5_blockOf_16 : decode cX5_blockOf 16 = .ok (.iload_n 1, 1) := by decide +kernel
theorem dX5_blockOf_17 : decode cX5_blockOf 17 = .ok (.imul, 1) := by decide +kernel
theorem dX5_blockOf_18 : decode cX5_blockOf 18 = .ok (.iconst 1, 1) := by decide +kernel
theorem dX5_blockOf_19 : decode cX5_blockOf 19 = .ok (.iadd, 1) := by decide +kernel
theorem dX5_blockOf_20 : decode cX5_blockOf 20 = .ok (.iaload, 1) := by decide +kernel
theorem dX5_blockOf_21 : decode cX5_blockOf 21 = .ok (.invokevirtual 113, 3) := by decide +kernel
theorem dX5_blockOf_24 : decode cX5_blockOf 24 = .ok (.ireturn, 1) := by decide +kernel
set_option maxRecDepth 20000 in
theorem ggX5_nextOf_X5_blockAt : GoodIn wsX5_nextOf wsX5_blockAt := goodIn_r _ [6, 7, 8, 9, 10, 11, 12, 13, 14, 15, 16, 17, 18, 19, 20, 21, 22, 23, 24, 25, 26, 27, 28, 29, 30, 31, 32] (by decide +kernel) (by decide +kernel)
set_option maxRecDepth 20000 in
theorem gX5_nextOf_X5_blockAt : GoodIn wsX5_nextOf (wsV RX5 113 RX5 yX5_blockAt wsX5_blockAt) := goodIn_app (goodIn_of _ (by decide +kernel)) ggX5_nextOf_X5_blockAt
theorem dX5_nextOf_0 : decode cX5_nextOf 0 = .ok (.aload_n 0, 1) := by decide +kernel
theorem dX5_nextOf_1 : decode cX5_nextOf 1 = .ok (.aload_n 0, 1) := by decide +kernel
theorem dX5_nextOf_2 : decode cX5_nextOf 2 = .ok (.getfield 39, 3) := by decide +kernel
theorem dX5_nextOf_5 : decode cX5_nextOf 5 = .ok (.bipush 7, 2) := by decide +kernel
theorem dX5_nextOf_7 : decode cX5_nextOf 7 = .ok (.iload_n 1, 1) := by decide +kernel
theorem dX5_nextOf_8 : decode cX5_nextOf 8 = .ok (.imul, 1) := by decide +kernel
theorem dX5_nextOf_9 : decode cX5_nextOf 9 = .ok (.iaload, 1) := by decide +kernel
theorem dX5_nextOf_10 : decode cX5_nextOf 10 = .ok (.aload_n 0, 1) := by decide +kernel
theorem dX5_nextOf_11 : decode cX5_nextOf 11 = .ok (.getfield 39, 3) := by decide +kernel
theorem dX5_nextOf_14 : decode cX5_nextOf 14 = .ok (.bipush 7, 2) := by decide +kernel
theorem dX5_nextOf_16 : decode cX5_nextOf 16 = .ok (.iload_n 1, 1) := by decide +kernel
theorem dX5_nextOf_17 : decode cX5_nextOf 17 = .ok (.imul, 1) := by decide +kernel
theorem dX5_nextOf_18 : decode cX5_nextOf 18 = .ok (.iconst 1, 1) := by decide +kernel
theorem dX5_nextOf_19 : decode cX5_nextOf 19 = .ok (.iadd, 1) := by decide +kernel
theorem dX5_nextOf_20 : decode cX5_nextOf 20 = .ok (.iaload, 1) := by decide +kernel
theorem dX5_nextOf_21 : decode cX5_nextOf 21 = .ok (.iconst 1, 1) := by decide +kernel
theorem dX5_nextOf_22 : decode cX5_nextOf 22 = .ok (.iadd, 1) := by decide +kernel
theorem dX5_nextOf_23 : decode cX5_nextOf 23 = .ok (.invokevirtual 113, 3) := by decide +kernel
theorem dX5_nextOf_26 : decode cX5_nextOf 26 = .ok (.ireturn, 1) := by decide +kernel
set_option maxRecDepth 20000 in
theorem ggX5_trainIn_X5_blockOf : GoodIn wsX5_trainIn wsX5_blockOf := goodIn_r _ [6, 7, 8, 9, 10, 5, 11, 12, 13, 14, 15, 16, 17, 18, 19, 20, 21, 22, 23, 24, 25, 26, 27, 28, 29, 30, 31, 32, 33, 34, 35, 36, 37] (by decide +kernel) (by decide +kernel)
set_option maxRecDepth 20000 in
theorem gX5_trainIn_X5_blockOf : GoodIn wsX5_trainIn (wsV RX5 116 RX5 yX5_blockOf wsX5_blockOf) := goodIn_app (goodIn_of _ (by decide +kernel)) ggX5_trainIn_X5_blockOf
theorem dX5_trainIn_0 : decode cX5_trainIn 0 = .ok (.iconst 0, 1) := by decide +kernel
theorem dX5_trainIn_1 : decode cX5_trainIn 1 = .ok (.istore_n 2, 1) := by decide +kernel
theorem dX5_trainIn_2 : decode cX5_trainIn 2 = .ok (.iload_n 2, 1) := by decide +kernel
theorem dX5_trainIn_3 : decode cX5_trainIn 3 = .ok (.aload_n 0, 1) := by decide +kernel
theorem dX5_trainIn_4 : decode cX5_trainIn 4 = .ok (.getfield 110, 3) := by decide +kernel
theorem dX5_trainIn_7 : decode cX5_trainIn 7 = .ok (.if_icmp .ge 20, 3) := by decide +kernel
theorem dX5_trainIn_10 : decode cX5_trainIn 10 = .ok (.aload_n 0, 1) := by decide +kernel
theorem dX5_trainIn_11 : decode cX5_trainIn 11 = .ok (.iload_n 2, 1) := by decide +kernel
theorem dX5_trainIn_12 : decode cX5_trainIn 12 = .ok (.invokevirtual 116, 3) := by decide +kernel
theorem dX5_trainIn_15 : decode cX5_trainIn 15 = .ok (.iload_n 1, 1) := by decide +kernel
theorem dX5_trainIn_16 : decode cX5_trainIn 16 = .ok (.if_icmp .ne 5, 3) := by decide +kernel
theorem dX5_trainIn_19 : decode cX5_trainIn 19 = .ok (.iload_n 2, 1) := by decide +kernel
theorem dX5_trainIn_20 : decode cX5_trainIn 20 = .ok (.ireturn, 1) := by decide +kernel
theorem dX5_trainIn_21 : decode cX5_trainIn 21 = .ok (.iinc 2 1, 3) := by decide +kernel
theorem dX5_trainIn_24 : decode cX5_trainIn 24 = .ok (.goto (-22), 3) := by decide +kernel
theorem dX5_trainIn_27 : decode cX5_trainIn 27 = .ok (.bipush (-6), 2) := by decide +kernel
theorem dX5_trainIn_29 : decode cX5_trainIn 29 = .ok (.ireturn, 1) := by decide +kernel
set_option maxRecDepth 20000 in
theorem ggX5_train_X5_isRing : GoodIn wsX5_train wsX5_isRing := goodIn_r _ [8, 9, 10, 11, 7, 12, 26, 27, 28, 29, 30, 31, 32, 33, 34, 35, 36, 37, 38, 39, 40, 41, 42, 43, 44, 45, 46, 47, 48, 49] (by decide +kernel) (by decide +kernel)
set_option maxRecDepth 20000 in
theorem gX5_train_X5_isRing : GoodIn wsX5_train (wsV RX5 107 RX5 yX5_isRing wsX5_isRing) := goodIn_app (goodIn_of _ (by decide +kernel)) ggX5_train_X5_isRing
set_option maxRecDepth 20000 in
theorem ggX5_train_X5_in : GoodIn wsX5_train wsX5_in := goodIn_r _ [12] (by decide +kernel) (by decide +kernel)
set_option maxRecDepth 20000 in
theorem gX5_train_X5_in : GoodIn wsX5_train (va_wsS RX5 54 yX5_in wsX5_in) := goodIn_app (goodIn_of _ (by decide +kernel)) ggX5_train_X5_in
set_option maxRecDepth 20000 in
theorem ggX5_train_X5_blockAt : GoodIn wsX5_train wsX5_blockAt := goodIn_r _ [16, 17, 1, 26, 27, 28, 29, 30, 31, 32, 33, 34, 35, 36, 37, 38, 39, 40, 41, 42, 43, 44, 45, 46, 47, 48, 49] (by decide +kernel) (by decide +kernel)
set_option maxRecDepth 20000 in
theorem gX5_train_X5_blockAt : GoodIn wsX5_train (wsV RX5 113 RX5 yX5_blockAt wsX5_blockAt) := goodIn_app (goodIn_of _ (by decide +kernel)) ggX5_train_X5_blockAt
set_option maxRecDepth 20000 in
theorem ggX5_train_X5_trainIn : GoodIn wsX5_train wsX5_trainIn := goodIn_r _ [21, 2, 22, 23, 24, 7, 25, 3, 13, 14, 15, 16, 17, 1, 26, 27, 28, 29, 30, 31, 32, 33, 34, 35, 36, 37, 38, 39, 40, 41, 42, 43, 44, 45, 46, 47, 48, 49] (by decide +kernel) (by decide +kernel)
set_option maxRecDepth 20000 in
theorem gX5_train_X5_trainIn : GoodIn wsX5_train (wsV RX5 120 RX5 yX5_trainIn wsX5_trainIn) := goodIn_app (goodIn_of _ (by decide +kernel)) ggX5_train_X5_trainIn
theorem dX5_train_0 : decode cX5_train 0 = .ok (.aload_n 0, 1) := by decide +kernel
theorem dX5_train_1 : decode cX5_train 1 = .ok (.iload_n 1, 1) := by decide +kernel
theorem dX5_train_2 : decode cX5_train 2 = .ok (.invokevirtual 107, 3) := by decide +kernel
theorem dX5_train_5 : decode cX5_train 5 = .ok (.ifCond .ne 5, 3) := by decide +kernel
theorem dX5_train_8 : decode cX5_train 8 = .ok (.iconst (-1), 1) := by decide +kernel
theorem dX5_train_9 : decode cX5_train 9 = .ok (.ireturn, 1) := by decide +kernel
theorem dX5_train_10 : decode cX5_train 10 = .ok (.iload_n 2, 1) := by decide +kernel
theorem dX5_train_11 : decode cX5_train 11 = .ok (.iconst 0, 1) := by decide +kernel
theorem dX5_train_12 : decode cX5_train 12 = .ok (.bipush 11, 2) := by decide +kernel
theorem dX5_train_14 : decode cX5_train 14 = .ok (.invokestatic 54, 3) := by decide +kernel
theorem dX5_train_17 : decode cX5_train 17 = .ok (.ifCond .eq 33, 3) := by decide +kernel
theorem dX5_train_20 : decode cX5_train 20 = .ok (.aload_n 0, 1) := by decide +kernel
theorem dX5_train_21 : decode cX5_train 21 = .ok (.getfield 33, 3) := by decide +kernel
theorem dX5_train_24 : decode cX5_train 24 = .ok (.iload_n 1, 1) := by decide +kernel
theorem dX5_train_25 : decode cX5_train 25 = .ok (.iaload, 1) := by decide +kernel
theorem dX5_train_26 : decode cX5_train 26 = .ok (.iconst 1, 1) := by decide +kernel
theorem dX5_train_27 : decode cX5_train 27 = .ok (.if_icmp .le 13, 3) := by decide +kernel
theorem dX5_train_30 : decode cX5_train 30 = .ok (.iload_n 2, 1) := by decide +kernel
theorem dX5_train_31 : decode cX5_train 31 = .ok (.aload_n 0, 1) := by decide +kernel
theorem dX5_train_32 : decode cX5_train 32 = .ok (.getfield 33, 3) := by decide +kernel
theorem dX5_train_35 : decode cX5_train 35 = .ok (.iload_n 1, 1) := by decide +kernel
theorem dX5_train_36 : decode cX5_train 36 = .ok (.iaload, 1) := by decide +kernel
theorem dX5_train_37 : decode cX5_train 37 = .ok (.if_icmp .ge 13, 3) := by decide +kernel
theorem dX5_train_40 : decode cX5_train 40 = .ok (.iload_n 3, 1) := by decide +kernel
theorem dX5_train_41 : decode cX5_train 41 = .ok (.iconst 1, 1) := by decide +kernel
theorem dX5_train_42 : decode cX5_train 42 = .ok (.bipush 9, 2) := by decide +kernel
theorem dX5_train_44 : decode cX5_train 44 = .ok (.invokestatic 54, 3) := by decide +kernel
theorem dX5_train_47 : decode cX5_train 47 = .ok (.ifCond .ne 6, 3) := by decide +kernel
theorem dX5_train_50 : decode cX5_train 50 = .ok (.bipush (-2), 2) := by decide +kernel
theorem dX5_train_52 : decode cX5_train 52 = .ok (.ireturn, 1) := by decide +kernel
theorem dX5_train_53 : decode cX5_train 53 = .ok (.aload_n 0, 1) := by decide +kernel
theorem dX5_train_54 : decode cX5_train 54 = .ok (.getfield 33, 3) := by decide +kernel
theorem dX5_train_57 : decode cX5_train 57 = .ok (.iload_n 1, 1) := by decide +kernel
theorem dX5_train_58 : decode cX5_train 58 = .ok (.iaload, 1) := by decide +kernel
theorem dX5_train_59 : decode cX5_train 59 = .ok (.iconst 2, 1) := by decide +kernel
theorem dX5_train_60 : decode cX5_train 60 = .ok (.if_icmp .ge 6, 3) := by decide +kernel
theorem dX5_train_63 : decode cX5_train 63 = .ok (.bipush (-3), 2) := by decide +kernel
theorem dX5_train_65 : decode cX5_train 65 = .ok (.ireturn, 1) := by decide +kernel
theorem dX5_train_66 : decode cX5_train 66 = .ok (.aload_n 0, 1) := by decide +kernel
theorem dX5_train_67 : decode cX5_train 67 = .ok (.getfield 110, 3) := by decide +kernel
theorem dX5_train_70 : decode cX5_train 70 = .ok (.iconst 4, 1) := by decide +kernel
theorem dX5_train_71 : decode cX5_train 71 = .ok (.if_icmp .ne 6, 3) := by decide +kernel
theorem dX5_train_74 : decode cX5_train 74 = .ok (.bipush (-4), 2) := by decide +kernel
theorem dX5_train_76 : decode cX5_train 76 = .ok (.ireturn, 1) := by decide +kernel
theorem dX5_train_77 : decode cX5_train 77 = .ok (.aload_n 0, 1) := by decide +kernel
theorem dX5_train_78 : decode cX5_train 78 = .ok (.aload_n 0, 1) := by decide +kernel
theorem dX5_train_79 : decode cX5_train 79 = .ok (.iload_n 1, 1) := by decide +kernel
theorem dX5_train_80 : decode cX5_train 80 = .ok (.iload_n 2, 1) := by decide +kernel
theorem dX5_train_81 : decode cX5_train 81 = .ok (.invokevirtual 113, 3) := by decide +kernel
theorem dX5_train_84 : decode cX5_train 84 = .ok (.invokevirtual 120, 3) := by decide +kernel
theorem dX5_train_87 : decode cX5_train 87 = .ok (.ifCond .lt 6, 3) := by decide +kernel
theorem dX5_train_90 : decode cX5_train 90 = .ok (.bipush (-5), 2) := by decide +kernel
theorem dX5_train_92 : decode cX5_train 92 = .ok (.ireturn, 1) := by decide +kernel
theorem dX5_train_93 : decode cX5_train 93 = .ok (.bipush 7, 2) := by decide +kernel
theorem dX5_train_95 : decode cX5_train 95 = .ok (.aload_n 0, 1) := by decide +kernel
theorem dX5_train_96 : decode cX5_train 96 = .ok (.getfield 110, 3) := by decide +kernel
theorem dX5_train_99 : decode cX5_train 99 = .ok (.imul, 1) := by decide +kernel
theorem dX5_train_100 : decode cX5_train 100 = .ok (.istore 4, 2) := by decide +kernel
theorem dX5_train_102 : decode cX5_train 102 = .ok (.aload_n 0, 1) := by decide +kernel
theorem dX5_train_103 : decode cX5_train 103 = .ok (.getfield 39, 3) := by decide +kernel
theorem dX5_train_106 : decode cX5_train 106 = .ok (.iload 4, 2) := by decide +kernel
theorem dX5_train_108 : decode cX5_train 108 = .ok (.iload_n 1, 1) := by decide +kernel
theorem dX5_train_109 : decode cX5_train 109 = .ok (.iastore, 1) := by decide +kernel
theorem dX5_train_110 : decode cX5_train 110 = .ok (.aload_n 0, 1) := by decide +kernel
theorem dX5_train_111 : decode cX5_train 111 = .ok (.getfield 39, 3) := by decide +kernel
theorem dX5_train_114 : decode cX5_train 114 = .ok (.iload 4, 2) := by decide +kernel
theorem dX5_train_116 : decode cX5_train 116 = .ok (.iconst 1, 1) := by decide +kernel
theorem dX5_train_117 : decode cX5_train 117 = .ok (.iadd, 1) := by decide +kernel
theorem dX5_train_118 : decode cX5_train 118 = .ok (.iload_n 2, 1) := by decide +kernel
theorem dX5_train_119 : decode cX5_train 119 = .ok (.iastore, 1) := by decide +kernel
theorem dX5_train_120 : decode cX5_train 120 = .ok (.aload_n 0, 1) := by decide +kernel
theorem dX5_train_121 : decode cX5_train 121 = .ok (.getfield 39, 3) := by decide +kernel
theorem dX5_train_124 : decode cX5_train 124 = .ok (.iload 4, 2) := by decide +kernel
theorem dX5_train_126 : decode cX5_train 126 = .ok (.iconst 2, 1) := by decide +kernel
theorem dX5_train_127 : decode cX5_train 127 = .ok (.iadd, 1) := by decide +kernel
theorem dX5_train_128 : decode cX5_train 128 = .ok (.iload_n 3, 1) := by decide +kernel
theorem dX5_train_129 : decode cX5_train 129 = .ok (.iastore, 1) := by decide +kernel
theorem dX5_train_130 : decode cX5_train 130 = .ok (.iconst 3, 1) := by decide +kernel
theorem dX5_train_131 : decode cX5_train 131 = .ok (.istore 5, 2) := by decide +kernel
theorem dX5_train_133 : decode cX5_train 133 = .ok (.iload 5, 2) := by decide +kernel
theorem dX5_train_135 : decode cX5_train 135 = .ok (.bipush 7, 2) := by decide +kernel
theorem dX5_train_137 : decode cX5_train 137 = .ok (.if_icmp .ge 20, 3) := by decide +kernel
theorem dX5_train_140 : decode cX5_train 140 = .ok (.aload_n 0, 1) := by decide +kernel
theorem dX5_train_141 : decode cX5_train 141 = .ok (.getfield 39, 3) := by decide +kernel
theorem dX5_train_144 : decode cX5_train 144 = .ok (.iload 4, 2) := by decide +kernel
theorem dX5_train_146 : decode cX5_train 146 = .ok (.iload 5, 2) := by decide +kernel
theorem dX5_train_148 : decode cX5_train 148 = .ok (.iadd, 1) := by decide +kernel
theorem dX5_train_149 : decode cX5_train 149 = .ok (.iconst 0, 1) := by decide +kernel
theorem dX5_train_150 : decode cX5_train 150 = .ok (.iastore, 1) := by decide +kernel
theorem dX5_train_151 : decode cX5_train 151 = .ok (.iinc 5 1, 3) := by decide +kernel
theorem dX5_train_154 : decode cX5_train 154 = .ok (.goto (-21), 3) := by decide +kernel
theorem dX5_train_157 : decode cX5_train 157 = .ok (.aload_n 0, 1) := by decide +kernel
theorem dX5_train_158 : decode cX5_train 158 = .ok (.dup, 1) := by decide +kernel
theorem dX5_train_159 : decode cX5_train 159 = .ok (.getfield 110, 3) := by decide +kernel
theorem dX5_train_162 : decode cX5_train 162 = .ok (.iconst 1, 1) := by decide +kernel
theorem dX5_train_163 : decode cX5_train 163 = .ok (.iadd, 1) := by decide +kernel
theorem dX5_train_164 : decode cX5_train 164 = .ok (.putfield 110, 3) := by decide +kernel
theorem dX5_train_167 : decode cX5_train 167 = .ok (.aload_n 0, 1) := by decide +kernel
theorem dX5_train_168 : decode cX5_train 168 = .ok (.getfield 110, 3) := by decide +kernel
theorem dX5_train_171 : decode cX5_train 171 = .ok (.iconst 1, 1) := by decide +kernel
theorem dX5_train_172 : decode cX5_train 172 = .ok (.isub, 1) := by decide +kernel
theorem dX5_train_173 : decode cX5_train 173 = .ok (.ireturn, 1) := by decide +kernel
set_option maxRecDepth 20000 in
theorem ggX5_isTrain_X5_in : GoodIn wsX5_isTrain wsX5_in := goodIn_r _ [5] (by decide +kernel) (by decide +kernel)
set_option maxRecDepth 20000 in
theorem gX5_isTrain_X5_in : GoodIn wsX5_isTrain (va_wsS RX5 54 yX5_in wsX5_in) := goodIn_app (goodIn_of _ (by decide +kernel)) ggX5_isTrain_X5_in
theorem dX5_isTrain_0 : decode cX5_isTrain 0 = .ok (.iload_n 1, 1) := by decide +kernel
theorem dX5_isTrain_1 : decode cX5_isTrain 1 = .ok (.iconst 0, 1) := by decide +kernel
theorem dX5_isTrain_2 : decode cX5_isTrain 2 = .ok (.aload_n 0, 1) := by decide +kernel
theorem dX5_isTrain_3 : decode cX5_isTrain 3 = .ok (.getfield 110, 3) := by decide +kernel
theorem dX5_isTrain_6 : decode cX5_isTrain 6 = .ok (.iconst 1, 1) := by decide +kernel
theorem dX5_isTrain_7 : decode cX5_isTrain 7 = .ok (.isub, 1) := by decide +kernel
theorem dX5_isTrain_8 : decode cX5_isTrain 8 = .ok (.invokestatic 54, 3) := by decide +kernel
theorem dX5_isTrain_11 : decode cX5_isTrain 11 = .ok (.ireturn, 1) := by decide +kernel
set_option maxRecDepth 20000 in
theorem ggX5_stick_X5_isTrain : GoodIn wsX5_stick wsX5_isTrain := goodIn_r _ [6, 7, 8, 9, 5, 10, 11, 12, 13, 14, 15, 16, 17, 18, 19, 20, 21, 22, 23, 24, 25, 26, 27, 28, 29, 30, 31, 32, 33, 34] (by decide +kernel) (by decide +kernel)
set_option maxRecDepth 20000 in
theorem gX5_stick_X5_isTrain : GoodIn wsX5_stick (wsV RX5 123 RX5 yX5_isTrain wsX5_isTrain) := goodIn_app (goodIn_of _ (by decide +kernel)) ggX5_stick_X5_isTrain
theorem dX5_stick_0 : decode cX5_stick 0 = .ok (.aload_n 0, 1) := by decide +kernel
theorem dX5_stick_1 : decode cX5_stick 1 = .ok (.iload_n 1, 1) := by decide +kernel
theorem dX5_stick_2 : decode cX5_stick 2 = .ok (.invokevirtual 123, 3) := by decide +kernel
theorem dX5_stick_5 : decode cX5_stick 5 = .ok (.ifCond .ne 5, 3) := by decide +kernel
theorem dX5_stick_8 : decode cX5_stick 8 = .ok (.iconst (-1), 1) := by decide +kernel
theorem dX5_stick_9 : decode cX5_stick 9 = .ok (.ireturn, 1) := by decide +kernel
theorem dX5_stick_10 : decode cX5_stick 10 = .ok (.aload_n 0, 1) := by decide +kernel
theorem dX5_stick_11 : decode cX5_stick 11 = .ok (.getfield 39, 3) := by decide +kernel
theorem dX5_stick_14 : decode cX5_stick 14 = .ok (.bipush 7, 2) := by decide +kernel
theorem dX5_stick_16 : decode cX5_stick 16 = .ok (.iload_n 1, 1) := by decide +kernel
theorem dX5_stick_17 : decode cX5_stick 17 = .ok (.imul, 1) := by decide +kernel
theorem dX5_stick_18 : decode cX5_stick 18 = .ok (.iconst 4, 1) := by decide +kernel
theorem dX5_stick_19 : decode cX5_stick 19 = .ok (.iadd, 1) := by decide +kernel
theorem dX5_stick_20 : decode cX5_stick 20 = .ok (.iaload, 1) := by decide +kernel
theorem dX5_stick_21 : decode cX5_stick 21 = .ok (.istore_n 3, 1) := by decide +kernel
theorem dX5_stick_22 : decode cX5_stick 22 = .ok (.aload_n 0, 1) := by decide +kernel
theorem dX5_stick_23 : decode cX5_stick 23 = .ok (.getfield 39, 3) := by decide +kernel
theorem dX5_stick_26 : decode cX5_stick 26 = .ok (.bipush 7, 2) := by decide +kernel
theorem dX5_stick_28 : decode cX5_stick 28 = .ok (.iload_n 1, 1) := by decide +kernel
theorem dX5_stick_29 : decode cX5_stick 29 = .ok (.imul, 1) := by decide +kernel
theorem dX5_stick_30 : decode cX5_stick 30 = .ok (.iconst 4, 1) := by decide +kernel
theorem dX5_stick_31 : decode cX5_stick 31 = .ok (.iadd, 1) := by decide +kernel
theorem dX5_stick_32 : decode cX5_stick 32 = .ok (.iload_n 2, 1) := by decide +kernel
theorem dX5_stick_33 : decode cX5_stick 33 = .ok (.ifCond .eq 7, 3) := by decide +kernel
theorem dX5_stick_36 : decode cX5_stick 36 = .ok (.iconst 1, 1) := by decide +kernel
theorem dX5_stick_37 : decode cX5_stick 37 = .ok (.goto 4, 3) := by decide +kernel
theorem dX5_stick_40 : decode cX5_stick 40 = .ok (.iconst 0, 1) := by decide +kernel
theorem dX5_stick_41 : decode cX5_stick 41 = .ok (.iastore, 1) := by decide +kernel
theorem dX5_stick_42 : decode cX5_stick 42 = .ok (.iload_n 3, 1) := by decide +kernel
theorem dX5_stick_43 : decode cX5_stick 43 = .ok (.ireturn, 1) := by decide +kernel
set_option maxRecDepth 20000 in
theorem ggX5_run_X5_in : GoodIn wsX5_run wsX5_in := goodIn_r _ [8] (by decide +kernel) (by decide +kernel)
set_option maxRecDepth 20000 in
theorem gX5_run_X5_in : GoodIn wsX5_run (va_wsS RX5 54 yX5_in wsX5_in) := goodIn_app (goodIn_of _ (by decide +kernel)) ggX5_run_X5_in
set_option maxRecDepth 20000 in
theorem ggX5_run_X5_nextOf : GoodIn wsX5_run wsX5_nextOf := goodIn_r _ [12, 2, 13, 14, 15, 7, 16, 17, 3, 26, 27, 28, 29, 30, 31, 32, 33, 34, 35, 36, 37, 38, 39, 40, 41, 42, 43, 44, 45, 46, 47, 48, 49] (by decide +kernel) (by decide +kernel)
set_option maxRecDepth 20000 in
theorem gX5_run_X5_nextOf : GoodIn wsX5_run (wsV RX5 126 RX5 yX5_nextOf wsX5_nextOf) := goodIn_app (goodIn_of _ (by decide +kernel)) ggX5_run_X5_nextOf
set_option maxRecDepth 20000 in
theorem ggX5_run_X5_trainIn : GoodIn wsX5_run wsX5_trainIn := goodIn_r _ [21, 1, 22, 23, 24, 7, 25, 2, 13, 14, 15, 16, 17, 3, 26, 27, 28, 29, 30, 31, 32, 33, 34, 35, 36, 37, 38, 39, 40, 41, 42, 43, 44, 45, 46, 47, 48, 49] (by decide +kernel) (by decide +kernel)
set_option maxRecDepth 20000 in
theorem gX5_run_X5_trainIn : GoodIn wsX5_run (wsV RX5 120 RX5 yX5_trainIn wsX5_trainIn) := goodIn_app (goodIn_of _ (by decide +kernel)) ggX5_run_X5_trainIn
theorem dX5_run_0 : decode cX5_run 0 = .ok (.iload_n 1, 1) := by decide +kernel
theorem dX5_run_1 : decode cX5_run 1 = .ok (.iconst 1, 1) := by decide +kernel
theorem dX5_run_2 : decode cX5_run 2 = .ok (.sipush 500, 3) := by decide +kernel
theorem dX5_run_5 : decode cX5_run 5 = .ok (.invokestatic 54, 3) := by decide +kernel
theorem dX5_run_8 : decode cX5_run 8 = .ok (.ifCond .ne 6, 3) := by decide +kernel
theorem dX5_run_11 : decode cX5_run 11 = .ok (.bipush (-2), 2) := by decide +kernel
theorem dX5_run_13 : decode cX5_run 13 = .ok (.ireturn, 1) := by decide +kernel
theorem dX5_run_14 : decode cX5_run 14 = .ok (.iconst 0, 1) := by decide +kernel
theorem dX5_run_15 : decode cX5_run 15 = .ok (.istore_n 2, 1) := by decide +kernel
theorem dX5_run_16 : decode cX5_run 16 = .ok (.iconst 0, 1) := by decide +kernel
theorem dX5_run_17 : decode cX5_run 17 = .ok (.istore_n 3, 1) := by decide +kernel
theorem dX5_run_18 : decode cX5_run 18 = .ok (.iload_n 3, 1) := by decide +kernel
theorem dX5_run_19 : decode cX5_run 19 = .ok (.iload_n 1, 1) := by decide +kernel
theorem dX5_run_20 : decode cX5_run 20 = .ok (.if_icmp .ge 179, 3) := by decide +kernel
theorem dX5_run_23 : decode cX5_run 23 = .ok (.iconst 0, 1) := by decide +kernel
theorem dX5_run_24 : decode cX5_run 24 = .ok (.istore 4, 2) := by decide +kernel
theorem dX5_run_26 : decode cX5_run 26 = .ok (.iload 4, 2) := by decide +kernel
theorem dX5_run_28 : decode cX5_run 28 = .ok (.aload_n 0, 1) := by decide +kernel
theorem dX5_run_29 : decode cX5_run 29 = .ok (.getfield 110, 3) := by decide +kernel
theorem dX5_run_32 : decode cX5_run 32 = .ok (.if_icmp .ge 151, 3) := by decide +kernel
theorem dX5_run_35 : decode cX5_run 35 = .ok (.bipush 7, 2) := by decide +kernel
theorem dX5_run_37 : decode cX5_run 37 = .ok (.iload 4, 2) := by decide +kernel
theorem dX5_run_39 : decode cX5_run 39 = .ok (.imul, 1) := by decide +kernel
theorem dX5_run_40 : decode cX5_run 40 = .ok (.istore 5, 2) := by decide +kernel
theorem dX5_run_42 : decode cX5_run 42 = .ok (.aload_n 0, 1) := by decide +kernel
theorem dX5_run_43 : decode cX5_run 43 = .ok (.getfield 39, 3) := by decide +kernel
theorem dX5_run_46 : decode cX5_run 46 = .ok (.iload 5, 2) := by decide +kernel
theorem dX5_run_48 : decode cX5_run 48 = .ok (.iconst 4, 1) := by decide +kernel
theorem dX5_run_49 : decode cX5_run 49 = .ok (.iadd, 1) := by decide +kernel
theorem dX5_run_50 : decode cX5_run 50 = .ok (.iaload, 1) := by decide +kernel
theorem dX5_run_51 : decode cX5_run 51 = .ok (.ifCond .ne 126, 3) := by decide +kernel
theorem dX5_run_54 : decode cX5_run 54 = .ok (.aload_n 0, 1) := by decide +kernel
theorem dX5_run_55 : decode cX5_run 55 = .ok (.getfield 39, 3) := by decide +kernel
theorem dX5_run_58 : decode cX5_run 58 = .ok (.iload 5, 2) := by decide +kernel
theorem dX5_run_60 : decode cX5_run 60 = .ok (.iconst 3, 1) := by decide +kernel
theorem dX5_run_61 : decode cX5_run 61 = .ok (.iadd, 1) := by decide +kernel
theorem dX5_run_62 : decode cX5_run 62 = .ok (.dup2, 1) := by decide +kernel
theorem dX5_run_63 : decode cX5_run 63 = .ok (.iaload, 1) := by decide +kernel
theorem dX5_run_64 : decode cX5_run 64 = .ok (.iconst 1, 1) := by decide +kernel
theorem dX5_run_65 : decode cX5_run 65 = .ok (.iadd, 1) := by decide +kernel
theorem dX5_run_66 : decode cX5_run 66 = .ok (.iastore, 1) := by decide +kernel
theorem dX5_run_67 : decode cX5_run 67 = .ok (.aload_n 0, 1) := by decide +kernel
theorem dX5_run_68 : decode cX5_run 68 = .ok (.getfield 39, 3) := by decide +kernel
theorem dX5_run_71 : decode cX5_run 71 = .ok (.iload 5, 2) := by decide +kernel
theorem dX5_run_73 : decode cX5_run 73 = .ok (.iconst 3, 1) := by decide +kernel
theorem dX5_run_74 : decode cX5_run 74 = .ok (.iadd, 1) := by decide +kernel
theorem dX5_run_75 : decode cX5_run 75 = .ok (.iaload, 1) := by decide +kernel
theorem dX5_run_76 : decode cX5_run 76 = .ok (.aload_n 0, 1) := by decide +kernel
theorem dX5_run_77 : decode cX5_run 77 = .ok (.getfield 39, 3) := by decide +kernel
theorem dX5_run_80 : decode cX5_run 80 = .ok (.iload 5, 2) := by decide +kernel
theorem dX5_run_82 : decode cX5_run 82 = .ok (.iconst 2, 1) := by decide +kernel
theorem dX5_run_83 : decode cX5_run 83 = .ok (.iadd, 1) := by decide +kernel
theorem dX5_run_84 : decode cX5_run 84 = .ok (.iaload, 1) := by decide +kernel
theorem dX5_run_85 : decode cX5_run 85 = .ok (.if_icmp .lt 92, 3) := by decide +kernel
theorem dX5_run_88 : decode cX5_run 88 = .ok (.aload_n 0, 1) := by decide +kernel
theorem dX5_run_89 : decode cX5_run 89 = .ok (.aload_n 0, 1) := by decide +kernel
theorem dX5_run_90 : decode cX5_run 90 = .ok (.iload 4, 2) := by decide +kernel
theorem dX5_run_92 : decode cX5_run 92 = .ok (.invokevirtual 126, 3) := by decide +kernel
theorem dX5_run_95 : decode cX5_run 95 = .ok (.invokevirtual 120, 3) := by decide +kernel
theorem dX5_run_98 : decode cX5_run 98 = .ok (.ifCond .ge 66, 3) := by decide +kernel
theorem dX5_run_101 : decode cX5_run 101 = .ok (.aload_n 0, 1) := by decide +kernel
theorem dX5_run_102 : decode cX5_run 102 = .ok (.getfield 39, 3) := by decide +kernel
theorem dX5_run_105 : decode cX5_run 105 = .ok (.iload 5, 2) := by decide +kernel
theorem dX5_run_107 : decode cX5_run 107 = .ok (.iconst 1, 1) := by decide +kernel
theorem dX5_run_108 : decode cX5_run 108 = .ok (.iadd, 1) := by decide +kernel
theorem dX5_run_109 : decode cX5_run 109 = .ok (.aload_n 0, 1) := by decide +kernel
theorem dX5_run_110 : decode cX5_run 110 = .ok (.getfield 39, 3) := by decide +kernel
theorem dX5_run_113 : decode cX5_run 113 = .ok (.iload 5, 2) := by decide +kernel
theorem dX5_run_115 : decode cX5_run 115 = .ok (.iconst 1, 1) := by decide +kernel
theorem dX5_run_116 : decode cX5_run 116 = .ok (.iadd, 1) := by decide +kernel
theorem dX5_run_117 : decode cX5_run 117 = .ok (.iaload, 1) := by decide +kernel
theorem dX5_run_118 : decode cX5_run 118 = .ok (.iconst 1, 1) := by decide +kernel
theorem dX5_run_119 : decode cX5_run 119 = .ok (.iadd, 1) := by decide +kernel
theorem dX5_run_120 : decode cX5_run 120 = .ok (.aload_n 0, 1) := by decide +kernel
theorem dX5_run_121 : decode cX5_run 121 = .ok (.getfield 33, 3) := by decide +kernel
theorem dX5_run_124 : decode cX5_run 124 = .ok (.aload_n 0, 1) := by decide +kernel
theorem dX5_run_125 : decode cX5_run 125 = .ok (.getfield 39, 3) := by decide +kernel
theorem dX5_run_128 : decode cX5_run 128 = .ok (.iload 5, 2) := by decide +kernel
theorem dX5_run_130 : decode cX5_run 130 = .ok (.iaload, 1) := by decide +kernel
theorem dX5_run_131 : decode cX5_run 131 = .ok (.iaload, 1) := by decide +kernel
theorem dX5_run_132 : decode cX5_run 132 = .ok (.irem, 1) := by decide +kernel
theorem dX5_run_133 : decode cX5_run 133 = .ok (.iastore, 1) := by decide +kernel
theorem dX5_run_134 : decode cX5_run 134 = .ok (.aload_n 0, 1) := by decide +kernel
theorem dX5_run_135 : decode cX5_run 135 = .ok (.getfield 39, 3) := by decide +kernel
theorem dX5_run_138 : decode cX5_run 138 = .ok (.iload 5, 2) := by decide +kernel
theorem dX5_run_140 : decode cX5_run 140 = .ok (.iconst 3, 1) := by decide +kernel
theorem dX5_run_141 : decode cX5_run 141 = .ok (.iadd, 1) := by decide +kernel
theorem dX5_run_142 : decode cX5_run 142 = .ok (.iconst 0, 1) := by decide +kernel
theorem dX5_run_143 : decode cX5_run 143 = .ok (.iastore, 1) := by decide +kernel
theorem dX5_run_144 : decode cX5_run 144 = .ok (.aload_n 0, 1) := by decide +kernel
theorem dX5_run_145 : decode cX5_run 145 = .ok (.getfield 39, 3) := by decide +kernel
theorem dX5_run_148 : decode cX5_run 148 = .ok (.iload 5, 2) := by decide +kernel
theorem dX5_run_150 : decode cX5_run 150 = .ok (.bipush 6, 2) := by decide +kernel
theorem dX5_run_152 : decode cX5_run 152 = .ok (.iadd, 1) := by decide +kernel
theorem dX5_run_153 : decode cX5_run 153 = .ok (.dup2, 1) := by decide +kernel
theorem dX5_run_154 : decode cX5_run 154 = .ok (.iaload, 1) := by decide +kernel
theorem dX5_run_155 : decode cX5_run 155 = .ok (.iconst 1, 1) := by decide +kernel
theorem dX5_run_156 : decode cX5_run 156 = .ok (.iadd, 1) := by decide +kernel
theorem dX5_run_157 : decode cX5_run 157 = .ok (.iastore, 1) := by decide +kernel
theorem dX5_run_158 : decode cX5_run 158 = .ok (.iinc 2 1, 3) := by decide +kernel
theorem dX5_run_161 : decode cX5_run 161 = .ok (.goto 16, 3) := by decide +kernel
theorem dX5_run_164 : decode cX5_run 164 = .ok (.aload_n 0, 1) := by decide +kernel
theorem dX5_run_165 : decode cX5_run 165 = .ok (.getfield 39, 3) := by decide +kernel
theorem dX5_run_168 : decode cX5_run 168 = .ok (.iload 5, 2) := by decide +kernel
theorem dX5_run_170 : decode cX5_run 170 = .ok (.iconst 5, 1) := by decide +kernel
theorem dX5_run_171 : decode cX5_run 171 = .ok (.iadd, 1) := by decide +kernel
theorem dX5_run_172 : decode cX5_run 172 = .ok (.dup2, 1) := by decide +kernel
theorem dX5_run_173 : decode cX5_run 173 = .ok (.iaload, 1) := by decide +kernel
theorem dX5_run_174 : decode cX5_run 174 = .ok (.iconst 1, 1) := by decide +kernel
theorem dX5_run_175 : decode cX5_run 175 = .ok (.iadd, 1) := by decide +kernel
theorem dX5_run_176 : decode cX5_run 176 = .ok (.iastore, 1) := by decide +kernel
theorem dX5_run_177 : decode cX5_run 177 = .ok (.iinc 4 1, 3) := by decide +kernel
theorem dX5_run_180 : decode cX5_run 180 = .ok (.goto (-154), 3) := by decide +kernel
theorem dX5_run_183 : decode cX5_run 183 = .ok (.aload_n 0, 1) := by decide +kernel
theorem dX5_run_184 : decode cX5_run 184 = .ok (.dup, 1) := by decide +kernel
theorem dX5_run_185 : decode cX5_run 185 = .ok (.getfield 129, 3) := by decide +kernel
theorem dX5_run_188 : decode cX5_run 188 = .ok (.iconst 1, 1) := by decide +kernel
theorem dX5_run_189 : decode cX5_run 189 = .ok (.iadd, 1) := by decide +kernel
theorem dX5_run_190 : decode cX5_run 190 = .ok (.putfield 129, 3) := by decide +kernel
theorem dX5_run_193 : decode cX5_run 193 = .ok (.iinc 3 1, 3) := by decide +kernel
theorem dX5_run_196 : decode cX5_run 196 = .ok (.goto (-178), 3) := by decide +kernel
theorem dX5_run_199 : decode cX5_run 199 = .ok (.iload_n 2, 1) := by decide +kernel
theorem dX5_run_200 : decode cX5_run 200 = .ok (.ireturn, 1) := by decide +kernel
set_option maxRecDepth 20000 in
theorem ggX5_trainOf_X5_isTrain : GoodIn wsX5_trainOf wsX5_isTrain := goodIn_r _ [6, 7, 8, 9, 5, 10, 29, 30, 31, 32, 33, 34, 35, 36, 37, 38, 39, 40, 41, 42, 43, 44, 45, 46, 47, 48, 49, 50, 51, 52] (by decide +kernel) (by decide +kernel)
set_option maxRecDepth 20000 in
theorem gX5_trainOf_X5_isTrain : GoodIn wsX5_trainOf (wsV RX5 123 RX5 yX5_isTrain wsX5_isTrain) := goodIn_app (goodIn_of _ (by decide +kernel)) ggX5_trainOf_X5_isTrain
set_option maxRecDepth 20000 in
theorem ggX5_trainOf_X5_blockOf : GoodIn wsX5_trainOf wsX5_blockOf := goodIn_r _ [14, 1, 15, 16, 17, 5, 18, 19, 20, 29, 30, 31, 32, 33, 34, 35, 36, 37, 38, 39, 40, 41, 42, 43, 44, 45, 46, 47, 48, 49, 50, 51, 52] (by decide +kernel) (by decide +kernel)
set_option maxRecDepth 20000 in
theorem gX5_trainOf_X5_blockOf : GoodIn wsX5_trainOf (wsV RX5 116 RX5 yX5_blockOf wsX5_blockOf) := goodIn_app (goodIn_of _ (by decide +kernel)) ggX5_trainOf_X5_blockOf
set_option maxRecDepth 20000 in
theorem ggX5_trainOf_X5_nextOf : GoodIn wsX5_trainOf wsX5_nextOf := goodIn_r _ [24, 1, 15, 16, 17, 5, 18, 19, 20, 29, 30, 31, 32, 33, 34, 35, 36, 37, 38, 39, 40, 41, 42, 43, 44, 45, 46, 47, 48, 49, 50, 51, 52] (by decide +kernel) (by decide +kernel)
set_option maxRecDepth 20000 in
theorem gX5_trainOf_X5_nextOf : GoodIn wsX5_trainOf (wsV RX5 126 RX5 yX5_nextOf wsX5_nextOf) := goodIn_app (goodIn_of _ (by decide +kernel)) ggX5_trainOf_X5_nextOf
set_option maxRecDepth 20000 in
theorem ggX5_trainOf_X5_trainIn : GoodIn wsX5_trainOf wsX5_trainIn := goodIn_r _ [28, 7, 11, 12, 13, 5, 14, 1, 15, 16, 17, 18, 19, 20, 29, 30, 31, 32, 33, 34, 35, 36, 37, 38, 39, 40, 41, 42, 43, 44, 45, 46, 47, 48, 49, 50, 51, 52] (by decide +kernel) (by decide +kernel)
set_option maxRecDepth 20000 in
theorem gX5_trainOf_X5_trainIn : GoodIn wsX5_trainOf (wsV RX5 120 RX5 yX5_trainIn wsX5_trainIn) := goodIn_app (goodIn_of _ (by decide +kernel)) ggX5_trainOf_X5_trainIn
theorem dX5_trainOf_0 : decode cX5_trainOf 0 = .ok (.aload_n 0, 1) := by decide +kernel
theorem dX5_trainOf_1 : decode cX5_trainOf 1 = .ok (.iload_n 1, 1) := by decide +kernel
theorem dX5_trainOf_2 : decode cX5_trainOf 2 = .ok (.invokevirtual 123, 3) := by decide +kernel
theorem dX5_trainOf_5 : decode cX5_trainOf 5 = .ok (.ifCond .ne 5, 3) := by decide +kernel
theorem dX5_trainOf_8 : decode cX5_trainOf 8 = .ok (.iconst (-1), 1) := by decide +kernel
theorem dX5_trainOf_9 : decode cX5_trainOf 9 = .ok (.ireturn, 1) := by decide +kernel
theorem dX5_trainOf_10 : decode cX5_trainOf 10 = .ok (.bipush 7, 2) := by decide +kernel
theorem dX5_trainOf_12 : decode cX5_trainOf 12 = .ok (.iload_n 1, 1) := by decide +kernel
theorem dX5_trainOf_13 : decode cX5_trainOf 13 = .ok (.imul, 1) := by decide +kernel
theorem dX5_trainOf_14 : decode cX5_trainOf 14 = .ok (.istore_n 3, 1) := by decide +kernel
theorem dX5_trainOf_15 : decode cX5_trainOf 15 = .ok (.iload_n 2, 1) := by decide +kernel
theorem dX5_trainOf_16 : decode cX5_trainOf 16 = .ok (.tableswitch 117 0 7 #[48, 55, 64, 70, 79, 88, 97, 107], 48) := by decide +kernel
theorem dX5_trainOf_64 : decode cX5_trainOf 64 = .ok (.aload_n 0, 1) := by decide +kernel
theorem dX5_trainOf_65 : decode cX5_trainOf 65 = .ok (.getfield 39, 3) := by decide +kernel
theorem dX5_trainOf_68 : decode cX5_trainOf 68 = .ok (.iload_n 3, 1) := by decide +kernel
theorem dX5_trainOf_69 : decode cX5_trainOf 69 = .ok (.iaload, 1) := by decide +kernel
theorem dX5_trainOf_70 : decode cX5_trainOf 70 = .ok (.ireturn, 1) := by decide +kernel
theorem dX5_trainOf_71 : decode cX5_trainOf 71 = .ok (.aload_n 0, 1) := by decide +kernel
theorem dX5_trainOf_72 : decode cX5_trainOf 72 = .ok (.getfield 39, 3) := by decide +kernel
theorem dX5_trainOf_75 : decode cX5_trainOf 75 = .ok (.iload_n 3, 1) := by decide +kernel
theorem dX5_trainOf_76 : decode cX5_trainOf 76 = .ok (.iconst 1, 1) := by decide +kernel
theorem dX5_trainOf_77 : decode cX5_trainOf 77 = .ok (.iadd, 1) := by decide +kernel
theorem dX5_trainOf_78 : decode cX5_trainOf 78 = .ok (.iaload, 1) := by decide +kernel
theorem dX5_trainOf_79 : decode cX5_trainOf 79 = .ok (.ireturn, 1) := by decide +kernel
theorem dX5_trainOf_80 : decode cX5_trainOf 80 = .ok (.aload_n 0, 1) := by decide +kernel
theorem dX5_trainOf_81 : decode cX5_trainOf 81 = .ok (.iload_n 1, 1) := by decide +kernel
theorem dX5_trainOf_82 : decode cX5_trainOf 82 = .ok (.invokevirtual 116, 3) := by decide +kernel
theorem dX5_trainOf_85 : decode cX5_trainOf 85 = .ok (.ireturn, 1) := by decide +kernel
theorem dX5_trainOf_86 : decode cX5_trainOf 86 = .ok (.aload_n 0, 1) := by decide +kernel
theorem dX5_trainOf_87 : decode cX5_trainOf 87 = .ok (.getfield 39, 3) := by decide +kernel
theorem dX5_trainOf_90 : decode cX5_trainOf 90 = .ok (.iload_n 3, 1) := by decide +kernel
theorem dX5_trainOf_91 : decode cX5_trainOf 91 = .ok (.iconst 3, 1) := by decide +kernel
theorem dX5_trainOf_92 : decode cX5_trainOf 92 = .ok (.iadd, 1) := by decide +kernel
theorem dX5_trainOf_93 : decode cX5_trainOf 93 = .ok (.iaload, 1) := by decide +kernel
theorem dX5_trainOf_94 : decode cX5_trainOf 94 = .ok (.ireturn, 1) := by decide +kernel
theorem dX5_trainOf_95 : decode cX5_trainOf 95 = .ok (.aload_n 0, 1) := by decide +kernel
theorem dX5_trainOf_96 : decode cX5_trainOf 96 = .ok (.getfield 39, 3) := by decide +kernel
theorem dX5_trainOf_99 : decode cX5_trainOf 99 = .ok (.iload_n 3, 1) := by decide +kernel
theorem dX5_trainOf_100 : decode cX5_trainOf 100 = .ok (.iconst 4, 1) := by decide +kernel
theorem dX5_trainOf_101 : decode cX5_trainOf 101 = .ok (.iadd, 1) := by decide +kernel
theorem dX5_trainOf_102 : decode cX5_trainOf 102 = .ok (.iaload, 1) := by decide +kernel
theorem dX5_trainOf_103 : decode cX5_trainOf 103 = .ok (.ireturn, 1) := by decide +kernel
theorem dX5_trainOf_104 : decode cX5_trainOf 104 = .ok (.aload_n 0, 1) := by decide +kernel
theorem dX5_trainOf_105 : decode cX5_trainOf 105 = .ok (.getfield 39, 3) := by decide +kernel
theorem dX5_trainOf_108 : decode cX5_trainOf 108 = .ok (.iload_n 3, 1) := by decide +kernel
theorem dX5_trainOf_109 : decode cX5_trainOf 109 = .ok (.iconst 5, 1) := by decide +kernel
theorem dX5_trainOf_110 : decode cX5_trainOf 110 = .ok (.iadd, 1) := by decide +kernel
theorem dX5_trainOf_111 : decode cX5_trainOf 111 = .ok (.iaload, 1) := by decide +kernel
theorem dX5_trainOf_112 : decode cX5_trainOf 112 = .ok (.ireturn, 1) := by decide +kernel
theorem dX5_trainOf_113 : decode cX5_trainOf 113 = .ok (.aload_n 0, 1) := by decide +kernel
theorem dX5_trainOf_114 : decode cX5_trainOf 114 = .ok (.getfield 39, 3) := by decide +kernel
theorem dX5_trainOf_117 : decode cX5_trainOf 117 = .ok (.iload_n 3, 1) := by decide +kernel
theorem dX5_trainOf_118 : decode cX5_trainOf 118 = .ok (.bipush 6, 2) := by decide +kernel
theorem dX5_trainOf_120 : decode cX5_trainOf 120 = .ok (.iadd, 1) := by decide +kernel
theorem dX5_trainOf_121 : decode cX5_trainOf 121 = .ok (.iaload, 1) := by decide +kernel
theorem dX5_trainOf_122 : decode cX5_trainOf 122 = .ok (.ireturn, 1) := by decide +kernel
theorem dX5_trainOf_123 : decode cX5_trainOf 123 = .ok (.aload_n 0, 1) := by decide +kernel
theorem dX5_trainOf_124 : decode cX5_trainOf 124 = .ok (.aload_n 0, 1) := by decide +kernel
theorem dX5_trainOf_125 : decode cX5_trainOf 125 = .ok (.iload_n 1, 1) := by decide +kernel
theorem dX5_trainOf_126 : decode cX5_trainOf 126 = .ok (.invokevirtual 126, 3) := by decide +kernel
theorem dX5_trainOf_129 : decode cX5_trainOf 129 = .ok (.invokevirtual 120, 3) := by decide +kernel
theorem dX5_trainOf_132 : decode cX5_trainOf 132 = .ok (.ireturn, 1) := by decide +kernel
theorem dX5_trainOf_133 : decode cX5_trainOf 133 = .ok (.bipush (-2), 2) := by decide +kernel
theorem dX5_trainOf_135 : decode cX5_trainOf 135 = .ok (.ireturn, 1) := by decide +kernel
set_option maxRecDepth 20000 in
theorem ggX5_stands_X5_nextOf : GoodIn wsX5_stands wsX5_nextOf := goodIn_r _ [7, 2, 8, 9, 10, 6, 11, 12, 13, 22, 23, 24, 25, 26, 27, 28, 29, 30, 31, 32, 33, 34, 35, 36, 37, 38, 39, 40, 41, 42, 43, 44, 45] (by decide +kernel) (by decide +kernel)
set_option maxRecDepth 20000 in
theorem gX5_stands_X5_nextOf : GoodIn wsX5_stands (wsV RX5 126 RX5 yX5_nextOf wsX5_nextOf) := goodIn_app (goodIn_of _ (by decide +kernel)) ggX5_stands_X5_nextOf
set_option maxRecDepth 20000 in
theorem ggX5_stands_X5_trainIn : GoodIn wsX5_stands wsX5_trainIn := goodIn_r _ [17, 1, 18, 19, 20, 6, 21, 2, 8, 9, 10, 11, 12, 13, 22, 23, 24, 25, 26, 27, 28, 29, 30, 31, 32, 33, 34, 35, 36, 37, 38, 39, 40, 41, 42, 43, 44, 45] (by decide +kernel) (by decide +kernel)
set_option maxRecDepth 20000 in
theorem gX5_stands_X5_trainIn : GoodIn wsX5_stands (wsV RX5 120 RX5 yX5_trainIn wsX5_trainIn) := goodIn_app (goodIn_of _ (by decide +kernel)) ggX5_stands_X5_trainIn
theorem dX5_stands_0 : decode cX5_stands 0 = .ok (.iconst 1, 1) := by decide +kernel
theorem dX5_stands_1 : decode cX5_stands 1 = .ok (.aload_n 0, 1) := by decide +kernel
theorem dX5_stands_2 : decode cX5_stands 2 = .ok (.getfield 110, 3) := by decide +kernel
theorem dX5_stands_5 : decode cX5_stands 5 = .ok (.ishl, 1) := by decide +kernel
theorem dX5_stands_6 : decode cX5_stands 6 = .ok (.iconst 1, 1) := by decide +kernel
theorem dX5_stands_7 : decode cX5_stands 7 = .ok (.isub, 1) := by decide +kernel
theorem dX5_stands_8 : decode cX5_stands 8 = .ok (.istore_n 1, 1) := by decide +kernel
theorem dX5_stands_9 : decode cX5_stands 9 = .ok (.iconst 1, 1) := by decide +kernel
theorem dX5_stands_10 : decode cX5_stands 10 = .ok (.istore_n 2, 1) := by decide +kernel
theorem dX5_stands_11 : decode cX5_stands 11 = .ok (.iload_n 2, 1) := by decide +kernel
theorem dX5_stands_12 : decode cX5_stands 12 = .ok (.ifCond .eq 96, 3) := by decide +kernel
theorem dX5_stands_15 : decode cX5_stands 15 = .ok (.iconst 0, 1) := by decide +kernel
theorem dX5_stands_16 : decode cX5_stands 16 = .ok (.istore_n 2, 1) := by decide +kernel
theorem dX5_stands_17 : decode cX5_stands 17 = .ok (.iconst 0, 1) := by decide +kernel
theorem dX5_stands_18 : decode cX5_stands 18 = .ok (.istore_n 3, 1) := by decide +kernel
theorem dX5_stands_19 : decode cX5_stands 19 = .ok (.iload_n 3, 1) := by decide +kernel
theorem dX5_stands_20 : decode cX5_stands 20 = .ok (.aload_n 0, 1) := by decide +kernel
theorem dX5_stands_21 : decode cX5_stands 21 = .ok (.getfield 110, 3) := by decide +kernel
theorem dX5_stands_24 : decode cX5_stands 24 = .ok (.if_icmp .ge 81, 3) := by decide +kernel
theorem dX5_stands_27 : decode cX5_stands 27 = .ok (.aload_n 0, 1) := by decide +kernel
theorem dX5_stands_28 : decode cX5_stands 28 = .ok (.aload_n 0, 1) := by decide +kernel
theorem dX5_stands_29 : decode cX5_stands 29 = .ok (.iload_n 3, 1) := by decide +kernel
theorem dX5_stands_30 : decode cX5_stands 30 = .ok (.invokevirtual 126, 3) := by decide +kernel
theorem dX5_stands_33 : decode cX5_stands 33 = .ok (.invokevirtual 120, 3) := by decide +kernel
theorem dX5_stands_36 : decode cX5_stands 36 = .ok (.istore 4, 2) := by decide +kernel
theorem dX5_stands_38 : decode cX5_stands 38 = .ok (.aload_n 0, 1) := by decide +kernel
theorem dX5_stands_39 : decode cX5_stands 39 = .ok (.getfield 39, 3) := by decide +kernel
theorem dX5_stands_42 : decode cX5_stands 42 = .ok (.bipush 7, 2) := by decide +kernel
theorem dX5_stands_44 : decode cX5_stands 44 = .ok (.iload_n 3, 1) := by decide +kernel
theorem dX5_stands_45 : decode cX5_stands 45 = .ok (.imul, 1) := by decide +kernel
theorem dX5_stands_46 : decode cX5_stands 46 = .ok (.iconst 4, 1) := by decide +kernel
theorem dX5_stands_47 : decode cX5_stands 47 = .ok (.iadd, 1) := by decide +kernel
theorem dX5_stands_48 : decode cX5_stands 48 = .ok (.iaload, 1) := by decide +kernel
theorem dX5_stands_49 : decode cX5_stands 49 = .ok (.iconst 1, 1) := by decide +kernel
theorem dX5_stands_50 : decode cX5_stands 50 = .ok (.if_icmp .eq 18, 3) := by decide +kernel
theorem dX5_stands_53 : decode cX5_stands 53 = .ok (.iload 4, 2) := by decide +kernel
theorem dX5_stands_55 : decode cX5_stands 55 = .ok (.ifCond .lt 17, 3) := by decide +kernel
theorem dX5_stands_58 : decode cX5_stands 58 = .ok (.iload_n 1, 1) := by decide +kernel
theorem dX5_stands_59 : decode cX5_stands 59 = .ok (.iload 4, 2) := by decide +kernel
theorem dX5_stands_61 : decode cX5_stands 61 = .ok (.ishr, 1) := by decide +kernel
theorem dX5_stands_62 : decode cX5_stands 62 = .ok (.iconst 1, 1) := by decide +kernel
theorem dX5_stands_63 : decode cX5_stands 63 = .ok (.iand, 1) := by decide +kernel
theorem dX5_stands_64 : decode cX5_stands 64 = .ok (.iconst 1, 1) := by decide +kernel
theorem dX5_stands_65 : decode cX5_stands 65 = .ok (.if_icmp .ne 7, 3) := by decide +kernel
theorem dX5_stands_68 : decode cX5_stands 68 = .ok (.iconst 1, 1) := by decide +kernel
theorem dX5_stands_69 : decode cX5_stands 69 = .ok (.goto 4, 3) := by decide +kernel
theorem dX5_stands_72 : decode cX5_stands 72 = .ok (.iconst 0, 1) := by decide +kernel
theorem dX5_stands_73 : decode cX5_stands 73 = .ok (.istore 5, 2) := by decide +kernel
theorem dX5_stands_75 : decode cX5_stands 75 = .ok (.iload_n 1, 1) := by decide +kernel
theorem dX5_stands_76 : decode cX5_stands 76 = .ok (.iload_n 3, 1) := by decide +kernel
theorem dX5_stands_77 : decode cX5_stands 77 = .ok (.ishr, 1) := by decide +kernel
theorem dX5_stands_78 : decode cX5_stands 78 = .ok (.iconst 1, 1) := by decide +kernel
theorem dX5_stands_79 : decode cX5_stands 79 = .ok (.iand, 1) := by decide +kernel
theorem dX5_stands_80 : decode cX5_stands 80 = .ok (.iconst 1, 1) := by decide +kernel
theorem dX5_stands_81 : decode cX5_stands 81 = .ok (.if_icmp .ne 18, 3) := by decide +kernel
theorem dX5_stands_84 : decode cX5_stands 84 = .ok (.iload 5, 2) := by decide +kernel
theorem dX5_stands_86 : decode cX5_stands 86 = .ok (.ifCond .ne 13, 3) := by decide +kernel
theorem dX5_stands_89 : decode cX5_stands 89 = .ok (.iload_n 1, 1) := by decide +kernel
theorem dX5_stands_90 : decode cX5_stands 90 = .ok (.iconst 1, 1) := by decide +kernel
theorem dX5_stands_91 : decode cX5_stands 91 = .ok (.iload_n 3, 1) := by decide +kernel
theorem dX5_stands_92 : decode cX5_stands 92 = .ok (.ishl, 1) := by decide +kernel
theorem dX5_stands_93 : decode cX5_stands 93 = .ok (.iconst (-1), 1) := by decide +kernel
theorem dX5_stands_94 : decode cX5_stands 94 = .ok (.ixor, 1) := by decide +kernel
theorem dX5_stands_95 : decode cX5_stands 95 = .ok (.iand, 1) := by decide +kernel
theorem dX5_stands_96 : decode cX5_stands 96 = .ok (.istore_n 1, 1) := by decide +kernel
theorem dX5_stands_97 : decode cX5_stands 97 = .ok (.iconst 1, 1) := by decide +kernel
theorem dX5_stands_98 : decode cX5_stands 98 = .ok (.istore_n 2, 1) := by decide +kernel
theorem dX5_stands_99 : decode cX5_stands 99 = .ok (.iinc 3 1, 3) := by decide +kernel
theorem dX5_stands_102 : decode cX5_stands 102 = .ok (.goto (-83), 3) := by decide +kernel
theorem dX5_stands_105 : decode cX5_stands 105 = .ok (.goto (-94), 3) := by decide +kernel
theorem dX5_stands_108 : decode cX5_stands 108 = .ok (.iload_n 1, 1) := by decide +kernel
theorem dX5_stands_109 : decode cX5_stands 109 = .ok (.ireturn, 1) := by decide +kernel
theorem dX5_figure_0 : decode cX5_figure 0 = .ok (.aload_n 0, 1) := by decide +kernel
theorem dX5_figure_1 : decode cX5_figure 1 = .ok (.getfield 132, 3) := by decide +kernel
theorem dX5_figure_4 : decode cX5_figure 4 = .ok (.bipush 12, 2) := by decide +kernel
theorem dX5_figure_6 : decode cX5_figure 6 = .ok (.if_icmp .ne 6, 3) := by decide +kernel
theorem dX5_figure_9 : decode cX5_figure 9 = .ok (.bipush (-4), 2) := by decide +kernel
theorem dX5_figure_11 : decode cX5_figure 11 = .ok (.ireturn, 1) := by decide +kernel
theorem dX5_figure_12 : decode cX5_figure 12 = .ok (.aload_n 0, 1) := by decide +kernel
theorem dX5_figure_13 : decode cX5_figure 13 = .ok (.dup, 1) := by decide +kernel
theorem dX5_figure_14 : decode cX5_figure 14 = .ok (.getfield 132, 3) := by decide +kernel
theorem dX5_figure_17 : decode cX5_figure 17 = .ok (.iconst 1, 1) := by decide +kernel
theorem dX5_figure_18 : decode cX5_figure 18 = .ok (.iadd, 1) := by decide +kernel
theorem dX5_figure_19 : decode cX5_figure 19 = .ok (.putfield 132, 3) := by decide +kernel
theorem dX5_figure_22 : decode cX5_figure 22 = .ok (.aload_n 0, 1) := by decide +kernel
theorem dX5_figure_23 : decode cX5_figure 23 = .ok (.getfield 132, 3) := by decide +kernel
theorem dX5_figure_26 : decode cX5_figure 26 = .ok (.iconst 1, 1) := by decide +kernel
theorem dX5_figure_27 : decode cX5_figure 27 = .ok (.isub, 1) := by decide +kernel
theorem dX5_figure_28 : decode cX5_figure 28 = .ok (.ireturn, 1) := by decide +kernel
set_option maxRecDepth 20000 in
theorem ggX5_isFigure_X5_in : GoodIn wsX5_isFigure wsX5_in := goodIn_r _ [5] (by decide +kernel) (by decide +kernel)
set_option maxRecDepth 20000 in
theorem gX5_isFigure_X5_in : GoodIn wsX5_isFigure (va_wsS RX5 54 yX5_in wsX5_in) := goodIn_app (goodIn_of _ (by decide +kernel)) ggX5_isFigure_X5_in
theorem dX5_isFigure_0 : decode cX5_isFigure 0 = .ok (.iload_n 1, 1) := by decide +kernel
theorem dX5_isFigure_1 : decode cX5_isFigure 1 = .ok (.iconst 0, 1) := by decide +kernel
theorem dX5_isFigure_2 : decode cX5_isFigure 2 = .ok (.aload_n 0, 1) := by decide +kernel
theorem dX5_isFigure_3 : decode cX5_isFigure 3 = .ok (.getfield 132, 3) := by decide +kernel
theorem dX5_isFigure_6 : decode cX5_isFigure 6 = .ok (.iconst 1, 1) := by decide +kernel
theorem dX5_isFigure_7 : decode cX5_isFigure 7 = .ok (.isub, 1) := by decide +kernel
theorem dX5_isFigure_8 : decode cX5_isFigure 8 = .ok (.invokestatic 54, 3) := by decide +kernel
theorem dX5_isFigure_11 : decode cX5_isFigure 11 = .ok (.ireturn, 1) := by decide +kernel
set_option maxRecDepth 20000 in
theorem ggX5_isPlace_X5_in : GoodIn wsX5_isPlace wsX5_in := goodIn_r _ [4] (by decide +kernel) (by decide +kernel)
set_option maxRecDepth 20000 in
theorem gX5_isPlace_X5_in : GoodIn wsX5_isPlace (va_wsS RX5 54 yX5_in wsX5_in) := goodIn_app (goodIn_of _ (by decide +kernel)) ggX5_isPlace_X5_in
theorem dX5_isPlace_0 : decode cX5_isPlace 0 = .ok (.iload_n 0, 1) := by decide +kernel
theorem dX5_isPlace_1 : decode cX5_isPlace 1 = .ok (.iconst (-1), 1) := by decide +kernel
theorem dX5_isPlace_2 : decode cX5_isPlace 2 = .ok (.bipush 99, 2) := by decide +kernel
theorem dX5_isPlace_4 : decode cX5_isPlace 4 = .ok (.invokestatic 54, 3) := by decide +kernel
theorem dX5_isPlace_7 : decode cX5_isPlace 7 = .ok (.ireturn, 1) := by decide +kernel
set_option maxRecDepth 20000 in
theorem ggX5_note_X5_isFigure : GoodIn wsX5_note wsX5_isFigure := goodIn_r _ [7, 8, 9, 10, 6, 11, 18, 19, 20, 21, 22, 23, 24, 25, 26, 27, 28, 29, 30, 31, 32, 33, 34, 35, 36, 37, 38, 39, 40, 41] (by decide +kernel) (by decide +kernel)
set_option maxRecDepth 20000 in
theorem gX5_note_X5_isFigure : GoodIn wsX5_note (wsV RX5 135 RX5 yX5_isFigure wsX5_isFigure) := goodIn_app (goodIn_of _ (by decide +kernel)) ggX5_note_X5_isFigure
set_option maxRecDepth 20000 in
theorem ggX5_note_X5_isDay : GoodIn wsX5_note wsX5_isDay := goodIn_r _ [14, 9, 10, 6, 11] (by decide +kernel) (by decide +kernel)
set_option maxRecDepth 20000 in
theorem gX5_note_X5_isDay : GoodIn wsX5_note (va_wsS RX5 58 yX5_isDay wsX5_isDay) := goodIn_app (goodIn_of _ (by decide +kernel)) ggX5_note_X5_isDay
set_option maxRecDepth 20000 in
theorem ggX5_note_X5_isPlace : GoodIn wsX5_note wsX5_isPlace := goodIn_r _ [17, 9, 10, 6, 11] (by decide +kernel) (by decide +kernel)
set_option maxRecDepth 20000 in
theorem gX5_note_X5_isPlace : GoodIn wsX5_note (va_wsS RX5 138 yX5_isPlace wsX5_isPlace) := goodIn_app (goodIn_of _ (by decide +kernel)) ggX5_note_X5_isPlace
theorem dX5_note_0 : decode cX5_note 0 = .ok (.aload_n 0, 1) := by decide +kernel
theorem dX5_note_1 : decode cX5_note 1 = .ok (.iload_n 1, 1) := by decide +kernel
theorem dX5_note_2 : decode cX5_note 2 = .ok (.invokevirtual 135, 3) := by decide +kernel
theorem dX5_note_5 : decode cX5_note 5 = .ok (.ifCond .ne 5, 3) := by decide +kernel
theorem dX5_note_8 : decode cX5_note 8 = .ok (.iconst (-1), 1) := by decide +kernel
theorem dX5_note_9 : decode cX5_note 9 = .ok (.ireturn, 1) := by decide +kernel
theorem dX5_note_10 : decode cX5_note 10 = .ok (.iload_n 2, 1) := by decide +kernel
theorem dX5_note_11 : decode cX5_note 11 = .ok (.invokestatic 58, 3) := by decide +kernel
theorem dX5_note_14 : decode cX5_note 14 = .ok (.ifCond .eq 18, 3) := by decide +kernel
theorem dX5_note_17 : decode cX5_note 17 = .ok (.iload_n 3, 1) := by decide +kernel
theorem dX5_note_18 : decode cX5_note 18 = .ok (.invokestatic 58, 3) := by decide +kernel
theorem dX5_note_21 : decode cX5_note 21 = .ok (.ifCond .eq 11, 3) := by decide +kernel
theorem dX5_note_24 : decode cX5_note 24 = .ok (.iload 4, 2) := by decide +kernel
theorem dX5_note_26 : decode cX5_note 26 = .ok (.invokestatic 138, 3) := by decide +kernel
theorem dX5_note_29 : decode cX5_note 29 = .ok (.ifCond .ne 6, 3) := by decide +kernel
theorem dX5_note_32 : decode cX5_note 32 = .ok (.bipush (-2), 2) := by decide +kernel
theorem dX5_note_34 : decode cX5_note 34 = .ok (.ireturn, 1) := by decide +kernel
theorem dX5_note_35 : decode cX5_note 35 = .ok (.aload_n 0, 1) := by decide +kernel
theorem dX5_note_36 : decode cX5_note 36 = .ok (.getfield 141, 3) := by decide +kernel
theorem dX5_note_39 : decode cX5_note 39 = .ok (.bipush 60, 2) := by decide +kernel
theorem dX5_note_41 : decode cX5_note 41 = .ok (.if_icmp .ne 6, 3) := by decide +kernel
theorem dX5_note_44 : decode cX5_note 44 = .ok (.bipush (-4), 2) := by decide +kernel
theorem dX5_note_46 : decode cX5_note 46 = .ok (.ireturn, 1) := by decide +kernel
theorem dX5_note_47 : decode cX5_note 47 = .ok (.iload_n 2, 1) := by decide +kernel
theorem dX5_note_48 : decode cX5_note 48 = .ok (.iload_n 3, 1) := by decide +kernel
theorem dX5_note_49 : decode cX5_note 49 = .ok (.if_icmp .gt 27, 3) := by decide +kernel
theorem dX5_note_52 : decode cX5_note 52 = .ok (.aload_n 0, 1) := by decide +kernel
theorem dX5_note_53 : decode cX5_note 53 = .ok (.getfield 141, 3) := by decide +kernel
theorem dX5_note_56 : decode cX5_note 56 = .ok (.ifCond .le 23, 3) := by decide +kernel
theorem dX5_note_59 : decode cX5_note 59 = .ok (.aload_n 0, 1) := by decide +kernel
theorem dX5_note_60 : decode cX5_note 60 = .ok (.getfield 42, 3) := by decide +kernel
theorem dX5_note_63 : decode cX5_note 63 = .ok (.iconst 4, 1) := by decide +kernel
theorem dX5_note_64 : decode cX5_note 64 = .ok (.aload_n 0, 1) := by decide +kernel
theorem dX5_note_65 : decode cX5_note 65 = .ok (.getfield 141, 3) := by decide +kernel
theorem dX5_note_68 : decode cX5_note 68 = .ok (.imul, 1) := by decide +kernel
theorem dX5_note_69 : decode cX5_note 69 = .ok (.iconst 2, 1) := by decide +kernel
theorem dX5_note_70 : decode cX5_note 70 = .ok (.isub, 1) := by decide +kernel
theorem dX5_note_71 : decode cX5_note 71 = .ok (.iaload, 1) := by decide +kernel
theorem dX5_note_72 : decode cX5_note 72 = .ok (.iload_n 3, 1) := by decide +kernel
theorem dX5_note_73 : decode cX5_note 73 = .ok (.if_icmp .le 6, 3) := by decide +kernel
theorem dX5_note_76 : decode cX5_note 76 = .ok (.bipush (-5), 2) := by decide +kernel
theorem dX5_note_78 : decode cX5_note 78 = .ok (.ireturn, 1) := by decide +kernel
theorem dX5_note_79 : decode cX5_note 79 = .ok (.aload_n 0, 1) := by decide +kernel
theorem dX5_note_80 : decode cX5_note 80 = .ok (.getfield 42, 3) := by decide +kernel
theorem dX5_note_83 : decode cX5_note 83 = .ok (.iconst 4, 1) := by decide +kernel
theorem dX5_note_84 : decode cX5_note 84 = .ok (.aload_n 0, 1) := by decide +kernel
theorem dX5_note_85 : decode cX5_note 85 = .ok (.getfield 141, 3) := by decide +kernel
theorem dX5_note_88 : decode cX5_note 88 = .ok (.imul, 1) := by decide +kernel
theorem dX5_note_89 : decode cX5_note 89 = .ok (.iload_n 1, 1) := by decide +kernel
theorem dX5_note_90 : decode cX5_note 90 = .ok (.iastore, 1) := by decide +kernel
theorem dX5_note_91 : decode cX5_note 91 = .ok (.aload_n 0, 1) := by decide +kernel
theorem dX5_note_92 : decode cX5_note 92 = .ok (.getfield 42, 3) := by decide +kernel
theorem dX5_note_95 : decode cX5_note 95 = .ok (.iconst 4, 1) := by decide +kernel
theorem dX5_note_96 : decode cX5_note 96 = .ok (.aload_n 0, 1) := by decide +kernel
theorem dX5_note_97 : decode cX5_note 97 = .ok (.getfield 141, 3) := by decide +kernel
theorem dX5_note_100 : decode cX5_note 100 = .ok (.imul, 1) := by decide +kernel
theorem dX5_note_101 : decode cX5_note 101 = .ok (.iconst 1, 1) := by decide +kernel
theorem dX5_note_102 : decode cX5_note 102 = .ok (.iadd, 1) := by decide +kernel
theorem dX5_note_103 : decode cX5_note 103 = .ok (.iload_n 2, 1) := by decide +kernel
theorem dX5_note_104 : decode cX5_note 104 = .ok (.iastore, 1) := by decide +kernel
theorem dX5_note_105 : decode cX5_note 105 = .ok (.aload_n 0, 1) := by decide +kernel
theorem dX5_note_106 : decode cX5_note 106 = .ok (.getfield 42, 3) := by decide +kernel
theorem dX5_note_109 : decode cX5_note 109 = .ok (.iconst 4, 1) := by decide +kernel
theorem dX5_note_110 : decode cX5_note 110 = .ok (.aload_n 0, 1) := by decide +kernel
theorem dX5_note_111 : decode cX5_note 111 = .ok (.getfield 141, 3) := by decide +kernel
theorem dX5_note_114 : decode cX5_note 114 = .ok (.imul, 1) := by decide +kernel
theorem dX5_note_115 : decode cX5_note 115 = .ok (.iconst 2, 1) := by decide +kernel
theorem dX5_note_116 : decode cX5_note 116 = .ok (.iadd, 1) := by decide +kernel
theorem dX5_note_117 : decode cX5_note 117 = .ok (.iload_n 3, 1) := by decide +kernel
theorem dX5_note_118 : decode cX5_note 118 = .ok (.iastore, 1) := by decide +kernel
theorem dX5_note_119 : decode cX5_note 119 = .ok (.aload_n 0, 1) := by decide +kernel
theorem dX5_note_120 : decode cX5_note 120 = .ok (.getfield 42, 3) := by decide +kernel
theorem dX5_note_123 : decode cX5_note 123 = .ok (.iconst 4, 1) := by decide +kernel
theorem dX5_note_124 : decode cX5_note 124 = .ok (.aload_n 0, 1) := by decide +kernel
theorem dX5_note_125 : decode cX5_note 125 = .ok (.getfield 141, 3) := by decide +kernel
theorem dX5_note_128 : decode cX5_note 128 = .ok (.imul, 1) := by decide +kernel
theorem dX5_note_129 : decode cX5_note 129 = .ok (.iconst 3, 1) := by decide +kernel
theorem dX5_note_130 : decode cX5_note 130 = .ok (.iadd, 1) := by decide +kernel
theorem dX5_note_131 : decode cX5_note 131 = .ok (.iload 4, 2) := by decide +kernel
theorem dX5_note_133 : decode cX5_note 133 = .ok (.iastore, 1) := by decide +kernel
theorem dX5_note_134 : decode cX5_note 134 = .ok (.aload_n 0, 1) := by decide +kernel
theorem dX5_note_135 : decode cX5_note 135 = .ok (.dup, 1) := by decide +kernel
theorem dX5_note_136 : decode cX5_note 136 = .ok (.getfield 141, 3) := by decide +kernel
theorem dX5_note_139 : decode cX5_note 139 = .ok (.iconst 1, 1) := by decide +kernel
theorem dX5_note_140 : decode cX5_note 140 = .ok (.iadd, 1) := by decide +kernel
theorem dX5_note_141 : decode cX5_note 141 = .ok (.putfield 141, 3) := by decide +kernel
theorem dX5_note_144 : decode cX5_note 144 = .ok (.aload_n 0, 1) := by decide +kernel
theorem dX5_note_145 : decode cX5_note 145 = .ok (.getfield 141, 3) := by decide +kernel
theorem dX5_note_148 : decode cX5_note 148 = .ok (.ireturn, 1) := by decide +kernel
theorem dX5_placeBy_0 : decode cX5_placeBy 0 = .ok (.bipush (-6), 2) := by decide +kernel
theorem dX5_placeBy_2 : decode cX5_placeBy 2 = .ok (.istore 5, 2) := by decide +kernel
theorem dX5_placeBy_4 : decode cX5_placeBy 4 = .ok (.iconst 0, 1) := by decide +kernel
theorem dX5_placeBy_5 : decode cX5_placeBy 5 = .ok (.istore 6, 2) := by decide +kernel
theorem dX5_placeBy_7 : decode cX5_placeBy 7 = .ok (.iload 6, 2) := by decide +kernel
theorem dX5_placeBy_9 : decode cX5_placeBy 9 = .ok (.iload_n 3, 1) := by decide +kernel
theorem dX5_placeBy_10 : decode cX5_placeBy 10 = .ok (.if_icmp .ge 104, 3) := by decide +kernel
theorem dX5_placeBy_13 : decode cX5_placeBy 13 = .ok (.aload_n 0, 1) := by decide +kernel
theorem dX5_placeBy_14 : decode cX5_placeBy 14 = .ok (.getfield 42, 3) := by decide +kernel
theorem dX5_placeBy_17 : decode cX5_placeBy 17 = .ok (.iconst 4, 1) := by decide +kernel
theorem dX5_placeBy_18 : decode cX5_placeBy 18 = .ok (.iload 6, 2) := by decide +kernel
theorem dX5_placeBy_20 : decode cX5_placeBy 20 = .ok (.imul, 1) := by decide +kernel
theorem dX5_placeBy_21 : decode cX5_placeBy 21 = .ok (.iaload, 1) := by decide +kernel
theorem dX5_placeBy_22 : decode cX5_placeBy 22 = .ok (.iload_n 1, 1) := by decide +kernel
theorem dX5_placeBy_23 : decode cX5_placeBy 23 = .ok (.if_icmp .ne 38, 3) := by decide +kernel
theorem dX5_placeBy_26 : decode cX5_placeBy 26 = .ok (.aload_n 0, 1) := by decide +kernel
theorem dX5_placeBy_27 : decode cX5_placeBy 27 = .ok (.getfield 42, 3) := by decide +kernel
theorem dX5_placeBy_30 : decode cX5_placeBy 30 = .ok (.iconst 4, 1) := by decide +kernel
theorem dX5_placeBy_31 : decode cX5_placeBy 31 = .ok (.iload 6, 2) := by decide +kernel
theorem dX5_placeBy_33 : decode cX5_placeBy 33 = .ok (.imul, 1) := by decide +kernel
theorem dX5_placeBy_34 : decode cX5_placeBy 34 = .ok (.iconst 1, 1) := by decide +kernel
theorem dX5_placeBy_35 : decode cX5_placeBy 35 = .ok (.iadd, 1) := by decide +kernel
theorem dX5_placeBy_36 : decode cX5_placeBy 36 = .ok (.iaload, 1) := by decide +kernel
theorem dX5_placeBy_37 : decode cX5_placeBy 37 = .ok (.iload_n 2, 1) := by decide +kernel
theorem dX5_placeBy_38 : decode cX5_placeBy 38 = .ok (.if_icmp .gt 23, 3) := by decide +kernel
theorem dX5_placeBy_41 : decode cX5_placeBy 41 = .ok (.aload_n 0, 1) := by decide +kernel
theorem dX5_placeBy_42 : decode cX5_placeBy 42 = .ok (.getfield 42, 3) := by decide +kernel
theorem dX5_placeBy_45 : decode cX5_placeBy 45 = .ok (.iconst 4, 1) := by decide +kernel
theorem dX5_placeBy_46 : decode cX5_placeBy 46 = .ok (.iload 6, 2) := by decide +kernel
theorem dX5_placeBy_48 : decode cX5_placeBy 48 = .ok (.imul, 1) := by decide +kernel
theorem dX5_placeBy_49 : decode cX5_placeBy 49 = .ok (.iconst 2, 1) := by decide +kernel
theorem dX5_placeBy_50 : decode cX5_placeBy 50 = .ok (.iadd, 1) := by decide +kernel
theorem dX5_placeBy_51 : decode cX5_placeBy 51 = .ok (.iaload, 1) := by decide +kernel
theorem dX5_placeBy_52 : decode cX5_placeBy 52 = .ok (.iload 4, 2) := by decide +kernel
theorem dX5_placeBy_54 : decode cX5_placeBy 54 = .ok (.if_icmp .gt 7, 3) := by decide +kernel
theorem dX5_placeBy_57 : decode cX5_placeBy 57 = .ok (.iconst 1, 1) := by decide +kernel
theorem dX5_placeBy_58 : decode cX5_placeBy 58 = .ok (.goto 4, 3) := by decide +kernel
theorem dX5_placeBy_61 : decode cX5_placeBy 61 = .ok (.iconst 0, 1) := by decide +kernel
theorem dX5_placeBy_62 : decode cX5_placeBy 62 = .ok (.istore 7, 2) := by decide +kernel
theorem dX5_placeBy_64 : decode cX5_placeBy 64 = .ok (.iload 7, 2) := by decide +kernel
theorem dX5_placeBy_66 : decode cX5_placeBy 66 = .ok (.ifCond .eq 38, 3) := by decide +kernel
theorem dX5_placeBy_69 : decode cX5_placeBy 69 = .ok (.iload 5, 2) := by decide +kernel
theorem dX5_placeBy_71 : decode cX5_placeBy 71 = .ok (.ifCond .lt 28, 3) := by decide +kernel
theorem dX5_placeBy_74 : decode cX5_placeBy 74 = .ok (.aload_n 0, 1) := by decide +kernel
theorem dX5_placeBy_75 : decode cX5_placeBy 75 = .ok (.getfield 42, 3) := by decide +kernel
theorem dX5_placeBy_78 : decode cX5_placeBy 78 = .ok (.iconst 4, 1) := by decide +kernel
theorem dX5_placeBy_79 : decode cX5_placeBy 79 = .ok (.iload 6, 2) := by decide +kernel
theorem dX5_placeBy_81 : decode cX5_placeBy 81 = .ok (.imul, 1) := by decide +kernel
theorem dX5_placeBy_82 : decode cX5_placeBy 82 = .ok (.iconst 1, 1) := by decide +kernel
theorem dX5_placeBy_83 : decode cX5_placeBy 83 = .ok (.iadd, 1) := by decide +kernel
theorem dX5_placeBy_84 : decode cX5_placeBy 84 = .ok (.iaload, 1) := by decide +kernel
theorem dX5_placeBy_85 : decode cX5_placeBy 85 = .ok (.aload_n 0, 1) := by decide +kernel
theorem dX5_placeBy_86 : decode cX5_placeBy 86 = .ok (.getfield 42, 3) := by decide +kernel
theorem dX5_placeBy_89 : decode cX5_placeBy 89 = .ok (.iconst 4, 1) := by decide +kernel
theorem dX5_placeBy_90 : decode cX5_placeBy 90 = .ok (.iload 5, 2) := by decide +kernel
theorem dX5_placeBy_92 : decode cX5_placeBy 92 = .ok (.imul, 1) := by decide +kernel
theorem dX5_placeBy_93 : decode cX5_placeBy 93 = .ok (.iconst 1, 1) := by decide +kernel
theorem dX5_placeBy_94 : decode cX5_placeBy 94 = .ok (.iadd, 1) := by decide +kernel
theorem dX5_placeBy_95 : decode cX5_placeBy 95 = .ok (.iaload, 1) := by decide +kernel
theorem dX5_placeBy_96 : decode cX5_placeBy 96 = .ok (.if_icmp .lt 8, 3) := by decide +kernel
theorem dX5_placeBy_99 : decode cX5_placeBy 99 = .ok (.iload 6, 2) := by decide +kernel
theorem dX5_placeBy_101 : decode cX5_placeBy 101 = .ok (.goto 5, 3) := by decide +kernel
theorem dX5_placeBy_104 : decode cX5_placeBy 104 = .ok (.iload 5, 2) := by decide +kernel
theorem dX5_placeBy_106 : decode cX5_placeBy 106 = .ok (.istore 5, 2) := by decide +kernel
theorem dX5_placeBy_108 : decode cX5_placeBy 108 = .ok (.iinc 6 1, 3) := by decide +kernel
theorem dX5_placeBy_111 : decode cX5_placeBy 111 = .ok (.goto (-104), 3) := by decide +kernel
theorem dX5_placeBy_114 : decode cX5_placeBy 114 = .ok (.iload 5, 2) := by decide +kernel
theorem dX5_placeBy_116 : decode cX5_placeBy 116 = .ok (.ifCond .ge 8, 3) := by decide +kernel
theorem dX5_placeBy_119 : decode cX5_placeBy 119 = .ok (.bipush (-6), 2) := by decide +kernel
theorem dX5_placeBy_121 : decode cX5_placeBy 121 = .ok (.goto 14, 3) := by decide +kernel
theorem dX5_placeBy_124 : decode cX5_placeBy 124 = .ok (.aload_n 0, 1) := by decide +kernel
theorem dX5_placeBy_125 : decode cX5_placeBy 125 = .ok (.getfield 42, 3) := by decide +kernel
theorem dX5_placeBy_128 : decode cX5_placeBy 128 = .ok (.iconst 4, 1) := by decide +kernel
theorem dX5_placeBy_129 : decode cX5_placeBy 129 = .ok (.iload 5, 2) := by decide +kernel
theorem dX5_placeBy_131 : decode cX5_placeBy 131 = .ok (.imul, 1) := by decide +kernel
theorem dX5_placeBy_132 : decode cX5_placeBy 132 = .ok (.iconst 3, 1) := by decide +kernel
theorem dX5_placeBy_133 : decode cX5_placeBy 133 = .ok (.iadd, 1) := by decide +kernel
theorem dX5_placeBy_134 : decode cX5_placeBy 134 = .ok (.iaload, 1) := by decide +kernel
theorem dX5_placeBy_135 : decode cX5_placeBy 135 = .ok (.ireturn, 1) := by decide +kernel
set_option maxRecDepth 20000 in
theorem ggX5_where_X5_isFigure : GoodIn wsX5_where wsX5_isFigure := goodIn_r _ [6, 7, 8, 9, 5, 10, 19, 20, 21, 22, 23, 24, 25, 26, 27, 28, 29, 30, 31, 32, 33, 34, 35, 36, 37, 38, 39, 40, 41, 42] (by decide +kernel) (by decide +kernel)
set_option maxRecDepth 20000 in
theorem gX5_where_X5_isFigure : GoodIn wsX5_where (wsV RX5 135 RX5 yX5_isFigure wsX5_isFigure) := goodIn_app (goodIn_of _ (by decide +kernel)) ggX5_where_X5_isFigure
set_option maxRecDepth 20000 in
theorem ggX5_where_X5_isDay : GoodIn wsX5_where wsX5_isDay := goodIn_r _ [13, 8, 9, 5, 10] (by decide +kernel) (by decide +kernel)
set_option maxRecDepth 20000 in
theorem gX5_where_X5_isDay : GoodIn wsX5_where (va_wsS RX5 58 yX5_isDay wsX5_isDay) := goodIn_app (goodIn_of _ (by decide +kernel)) ggX5_where_X5_isDay
set_option maxRecDepth 20000 in
theorem ggX5_where_X5_placeBy : GoodIn wsX5_where wsX5_placeBy := goodIn_r _ [17, 18, 19, 20, 21, 22, 23, 24, 25, 26, 27, 28, 29, 30, 31, 32, 33, 34, 35, 36, 37, 38, 39, 40, 41, 42] (by decide +kernel) (by decide +kernel)
set_option maxRecDepth 20000 in
theorem gX5_where_X5_placeBy : GoodIn wsX5_where (wsV RX5 144 RX5 yX5_placeBy wsX5_placeBy) := goodIn_app (goodIn_of _ (by decide +kernel)) ggX5_where_X5_placeBy
theorem dX5_where_0 : decode cX5_where 0 = .ok (.aload_n 0, 1) := by decide +kernel
theorem dX5_where_1 : decode cX5_where 1 = .ok (.iload_n 1, 1) := by decide +kernel
theorem dX5_where_2 : decode cX5_where 2 = .ok (.invokevirtual 135, 3) := by decide +kernel
theorem dX5_where_5 : decode cX5_where 5 = .ok (.ifCond .ne 6, 3) := by decide +kernel
theorem dX5_where_8 : decode cX5_where 8 = .ok (.bipush (-101), 2) := by decide +kernel
theorem dX5_where_10 : decode cX5_where 10 = .ok (.ireturn, 1) := by decide +kernel
theorem dX5_where_11 : decode cX5_where 11 = .ok (.iload_n 2, 1) := by decide +kernel
theorem dX5_where_12 : decode cX5_where 12 = .ok (.invokestatic 58, 3) := by decide +kernel
theorem dX5_where_15 : decode cX5_where 15 = .ok (.ifCond .eq 24, 3) := by decide +kernel
theorem dX5_where_18 : decode cX5_where 18 = .ok (.iload_n 3, 1) := by decide +kernel
theorem dX5_where_19 : decode cX5_where 19 = .ok (.invokestatic 58, 3) := by decide +kernel
theorem dX5_where_22 : decode cX5_where 22 = .ok (.ifCond .eq 17, 3) := by decide +kernel
theorem dX5_where_25 : decode cX5_where 25 = .ok (.aload_n 0, 1) := by decide +kernel
theorem dX5_where_26 : decode cX5_where 26 = .ok (.iload_n 1, 1) := by decide +kernel
theorem dX5_where_27 : decode cX5_where 27 = .ok (.iload_n 2, 1) := by decide +kernel
theorem dX5_where_28 : decode cX5_where 28 = .ok (.aload_n 0, 1) := by decide +kernel
theorem dX5_where_29 : decode cX5_where 29 = .ok (.getfield 141, 3) := by decide +kernel
theorem dX5_where_32 : decode cX5_where 32 = .ok (.iload_n 3, 1) := by decide +kernel
theorem dX5_where_33 : decode cX5_where 33 = .ok (.invokevirtual 144, 3) := by decide +kernel
theorem dX5_where_36 : decode cX5_where 36 = .ok (.goto 5, 3) := by decide +kernel
theorem dX5_where_39 : decode cX5_where 39 = .ok (.bipush (-102), 2) := by decide +kernel
theorem dX5_where_41 : decode cX5_where 41 = .ok (.ireturn, 1) := by decide +kernel
set_option maxRecDepth 20000 in
theorem ggX5_at_X5_isPlace : GoodIn wsX5_at wsX5_isPlace := goodIn_r _ [6, 7, 8, 5, 9] (by decide +kernel) (by decide +kernel)
set_option maxRecDepth 20000 in
theorem gX5_at_X5_isPlace : GoodIn wsX5_at (va_wsS RX5 138 yX5_isPlace wsX5_isPlace) := goodIn_app (goodIn_of _ (by decide +kernel)) ggX5_at_X5_isPlace
set_option maxRecDepth 20000 in
theorem ggX5_at_X5_isDay : GoodIn wsX5_at wsX5_isDay := goodIn_r _ [12, 7, 8, 5, 9] (by decide +kernel) (by decide +kernel)
set_option maxRecDepth 20000 in
theorem gX5_at_X5_isDay : GoodIn wsX5_at (va_wsS RX5 58 yX5_isDay wsX5_isDay) := goodIn_app (goodIn_of _ (by decide +kernel)) ggX5_at_X5_isDay
set_option maxRecDepth 20000 in
theorem ggX5_at_X5_placeBy : GoodIn wsX5_at wsX5_placeBy := goodIn_r _ [16, 17, 18, 19, 20, 21, 22, 23, 24, 25, 26, 27, 28, 29, 30, 31, 32, 33, 34, 35, 36, 37, 38, 39, 40, 41] (by decide +kernel) (by decide +kernel)
set_option maxRecDepth 20000 in
theorem gX5_at_X5_placeBy : GoodIn wsX5_at (wsV RX5 144 RX5 yX5_placeBy wsX5_placeBy) := goodIn_app (goodIn_of _ (by decide +kernel)) ggX5_at_X5_placeBy
theorem dX5_at_0 : decode cX5_at 0 = .ok (.iload_n 1, 1) := by decide +kernel
theorem dX5_at_1 : decode cX5_at 1 = .ok (.invokestatic 138, 3) := by decide +kernel
theorem dX5_at_4 : decode cX5_at 4 = .ok (.ifCond .eq 17, 3) := by decide +kernel
theorem dX5_at_7 : decode cX5_at 7 = .ok (.iload_n 2, 1) := by decide +kernel
theorem dX5_at_8 : decode cX5_at 8 = .ok (.invokestatic 58, 3) := by decide +kernel
theorem dX5_at_11 : decode cX5_at 11 = .ok (.ifCond .eq 10, 3) := by decide +kernel
theorem dX5_at_14 : decode cX5_at 14 = .ok (.iload_n 3, 1) := by decide +kernel
theorem dX5_at_15 : decode cX5_at 15 = .ok (.invokestatic 58, 3) := by decide +kernel
theorem dX5_at_18 : decode cX5_at 18 = .ok (.ifCond .ne 6, 3) := by decide +kernel
theorem dX5_at_21 : decode cX5_at 21 = .ok (.bipush (-2), 2) := by decide +kernel
theorem dX5_at_23 : decode cX5_at 23 = .ok (.ireturn, 1) := by decide +kernel
theorem dX5_at_24 : decode cX5_at 24 = .ok (.iconst 0, 1) := by decide +kernel
theorem dX5_at_25 : decode cX5_at 25 = .ok (.istore 4, 2) := by decide +kernel
theorem dX5_at_27 : decode cX5_at 27 = .ok (.iconst 0, 1) := by decide +kernel
theorem dX5_at_28 : decode cX5_at 28 = .ok (.istore 5, 2) := by decide +kernel
theorem dX5_at_30 : decode cX5_at 30 = .ok (.iload 5, 2) := by decide +kernel
theorem dX5_at_32 : decode cX5_at 32 = .ok (.aload_n 0, 1) := by decide +kernel
theorem dX5_at_33 : decode cX5_at 33 = .ok (.getfield 132, 3) := by decide +kernel
theorem dX5_at_36 : decode cX5_at 36 = .ok (.if_icmp .ge 38, 3) := by decide +kernel
theorem dX5_at_39 : decode cX5_at 39 = .ok (.iload 4, 2) := by decide +kernel
theorem dX5_at_41 : decode cX5_at 41 = .ok (.aload_n 0, 1) := by decide +kernel
theorem dX5_at_42 : decode cX5_at 42 = .ok (.iload 5, 2) := by decide +kernel
theorem dX5_at_44 : decode cX5_at 44 = .ok (.iload_n 2, 1) := by decide +kernel
theorem dX5_at_45 : decode cX5_at 45 = .ok (.aload_n 0, 1) := by decide +kernel
theorem dX5_at_46 : decode cX5_at 46 = .ok (.getfield 141, 3) := by decide +kernel
theorem dX5_at_49 : decode cX5_at 49 = .ok (.iload_n 3, 1) := by decide +kernel
theorem dX5_at_50 : decode cX5_at 50 = .ok (.invokevirtual 144, 3) := by decide +kernel
theorem dX5_at_53 : decode cX5_at 53 = .ok (.iload_n 1, 1) := by decide +kernel
theorem dX5_at_54 : decode cX5_at 54 = .ok (.if_icmp .ne 10, 3) := by decide +kernel
theorem dX5_at_57 : decode cX5_at 57 = .ok (.iconst 1, 1) := by decide +kernel
theorem dX5_at_58 : decode cX5_at 58 = .ok (.iload 5, 2) := by decide +kernel
theorem dX5_at_60 : decode cX5_at 60 = .ok (.ishl, 1) := by decide +kernel
theorem dX5_at_61 : decode cX5_at 61 = .ok (.goto 4, 3) := by decide +kernel
theorem dX5_at_64 : decode cX5_at 64 = .ok (.iconst 0, 1) := by decide +kernel
theorem dX5_at_65 : decode cX5_at 65 = .ok (.ior, 1) := by decide +kernel
theorem dX5_at_66 : decode cX5_at 66 = .ok (.istore 4, 2) := by decide +kernel
theorem dX5_at_68 : decode cX5_at 68 = .ok (.iinc 5 1, 3) := by decide +kernel
theorem dX5_at_71 : decode cX5_at 71 = .ok (.goto (-41), 3) := by decide +kernel
theorem dX5_at_74 : decode cX5_at 74 = .ok (.iload 4, 2) := by decide +kernel
theorem dX5_at_76 : decode cX5_at 76 = .ok (.ireturn, 1) := by decide +kernel
set_option maxRecDepth 20000 in
theorem ggX5_turns_X5_isFigure : GoodIn wsX5_turns wsX5_isFigure := goodIn_r _ [6, 7, 8, 9, 5, 10, 19, 20, 21, 22, 23, 24, 25, 26, 27, 28, 29, 30, 31, 32, 33, 34, 35, 36, 37, 38, 39, 40, 41, 42] (by decide +kernel) (by decide +kernel)
set_option maxRecDepth 20000 in
theorem gX5_turns_X5_isFigure : GoodIn wsX5_turns (wsV RX5 135 RX5 yX5_isFigure wsX5_isFigure) := goodIn_app (goodIn_of _ (by decide +kernel)) ggX5_turns_X5_isFigure
set_option maxRecDepth 20000 in
theorem ggX5_turns_X5_isDay : GoodIn wsX5_turns wsX5_isDay := goodIn_r _ [13, 8, 9, 5, 10] (by decide +kernel) (by decide +kernel)
set_option maxRecDepth 20000 in
theorem gX5_turns_X5_isDay : GoodIn wsX5_turns (va_wsS RX5 58 yX5_isDay wsX5_isDay) := goodIn_app (goodIn_of _ (by decide +kernel)) ggX5_turns_X5_isDay
set_option maxRecDepth 20000 in
theorem ggX5_turns_X5_placeBy : GoodIn wsX5_turns wsX5_placeBy := goodIn_r _ [17, 18, 19, 20, 21, 22, 23, 24, 25, 26, 27, 28, 29, 30, 31, 32, 33, 34, 35, 36, 37, 38, 39, 40, 41, 42] (by decide +kernel) (by decide +kernel)
set_option maxRecDepth 20000 in
theorem gX5_turns_X5_placeBy : GoodIn wsX5_turns (wsV RX5 144 RX5 yX5_placeBy wsX5_placeBy) := goodIn_app (goodIn_of _ (by decide +kernel)) ggX5_turns_X5_placeBy
theorem dX5_turns_0 : decode cX5_turns 0 = .ok (.aload_n 0, 1) := by decide +kernel
theorem dX5_turns_1 : decode cX5_turns 1 = .ok (.iload_n 1, 1) := by decide +kernel
theorem dX5_turns_2 : decode cX5_turns 2 = .ok (.invokevirtual 135, 3) := by decide +kernel
theorem dX5_turns_5 : decode cX5_turns 5 = .ok (.ifCond .ne 5, 3) := by decide +kernel
theorem dX5_turns_8 : decode cX5_turns 8 = .ok (.iconst (-1), 1) := by decide +kernel
theorem dX5_turns_9 : decode cX5_turns 9 = .ok (.ireturn, 1) := by decide +kernel
theorem dX5_turns_10 : decode cX5_turns 10 = .ok (.iload_n 2, 1) := by decide +kernel
theorem dX5_turns_11 : decode cX5_turns 11 = .ok (.invokestatic 58, 3) := by decide +kernel
theorem dX5_turns_14 : decode cX5_turns 14 = .ok (.ifCond .ne 6, 3) := by decide +kernel
theorem dX5_turns_17 : decode cX5_turns 17 = .ok (.bipush (-2), 2) := by decide +kernel
theorem dX5_turns_19 : decode cX5_turns 19 = .ok (.ireturn, 1) := by decide +kernel
theorem dX5_turns_20 : decode cX5_turns 20 = .ok (.iconst 0, 1) := by decide +kernel
theorem dX5_turns_21 : decode cX5_turns 21 = .ok (.istore_n 3, 1) := by decide +kernel
theorem dX5_turns_22 : decode cX5_turns 22 = .ok (.iconst 0, 1) := by decide +kernel
theorem dX5_turns_23 : decode cX5_turns 23 = .ok (.istore 4, 2) := by decide +kernel
theorem dX5_turns_25 : decode cX5_turns 25 = .ok (.iload 4, 2) := by decide +kernel
theorem dX5_turns_27 : decode cX5_turns 27 = .ok (.aload_n 0, 1) := by decide +kernel
theorem dX5_turns_28 : decode cX5_turns 28 = .ok (.getfield 141, 3) := by decide +kernel
theorem dX5_turns_31 : decode cX5_turns 31 = .ok (.if_icmp .ge 44, 3) := by decide +kernel
theorem dX5_turns_34 : decode cX5_turns 34 = .ok (.iload_n 3, 1) := by decide +kernel
theorem dX5_turns_35 : decode cX5_turns 35 = .ok (.aload_n 0, 1) := by decide +kernel
theorem dX5_turns_36 : decode cX5_turns 36 = .ok (.iload_n 1, 1) := by decide +kernel
theorem dX5_turns_37 : decode cX5_turns 37 = .ok (.iload_n 2, 1) := by decide +kernel
theorem dX5_turns_38 : decode cX5_turns 38 = .ok (.iload 4, 2) := by decide +kernel
theorem dX5_turns_40 : decode cX5_turns 40 = .ok (.sipush 3000, 3) := by decide +kernel
theorem dX5_turns_43 : decode cX5_turns 43 = .ok (.invokevirtual 144, 3) := by decide +kernel
theorem dX5_turns_46 : decode cX5_turns 46 = .ok (.aload_n 0, 1) := by decide +kernel
theorem dX5_turns_47 : decode cX5_turns 47 = .ok (.iload_n 1, 1) := by decide +kernel
theorem dX5_turns_48 : decode cX5_turns 48 = .ok (.iload_n 2, 1) := by decide +kernel
theorem dX5_turns_49 : decode cX5_turns 49 = .ok (.iload 4, 2) := by decide +kernel
theorem dX5_turns_51 : decode cX5_turns 51 = .ok (.iconst 1, 1) := by decide +kernel
theorem dX5_turns_52 : decode cX5_turns 52 = .ok (.iadd, 1) := by decide +kernel
theorem dX5_turns_53 : decode cX5_turns 53 = .ok (.sipush 3000, 3) := by decide +kernel
theorem dX5_turns_56 : decode cX5_turns 56 = .ok (.invokevirtual 144, 3) := by decide +kernel
theorem dX5_turns_59 : decode cX5_turns 59 = .ok (.if_icmp .eq 7, 3) := by decide +kernel
theorem dX5_turns_62 : decode cX5_turns 62 = .ok (.iconst 1, 1) := by decide +kernel
theorem dX5_turns_63 : decode cX5_turns 63 = .ok (.goto 4, 3) := by decide +kernel
theorem dX5_turns_66 : decode cX5_turns 66 = .ok (.iconst 0, 1) := by decide +kernel
theorem dX5_turns_67 : decode cX5_turns 67 = .ok (.iadd, 1) := by decide +kernel
theorem dX5_turns_68 : decode cX5_turns 68 = .ok (.istore_n 3, 1) := by decide +kernel
theorem dX5_turns_69 : decode cX5_turns 69 = .ok (.iinc 4 1, 3) := by decide +kernel
theorem dX5_turns_72 : decode cX5_turns 72 = .ok (.goto (-47), 3) := by decide +kernel
theorem dX5_turns_75 : decode cX5_turns 75 = .ok (.iload_n 3, 1) := by decide +kernel
theorem dX5_turns_76 : decode cX5_turns 76 = .ok (.ireturn, 1) := by decide +kernel
theorem dX5_told_0 : decode cX5_told 0 = .ok (.iload_n 1, 1) := by decide +kernel
theorem dX5_told_1 : decode cX5_told 1 = .ok (.tableswitch 105 0 9 #[55, 60, 65, 70, 75, 80, 85, 90, 95, 100], 55) := by decide +kernel
theorem dX5_told_56 : decode cX5_told 56 = .ok (.aload_n 0, 1) := by decide +kernel
theorem dX5_told_57 : decode cX5_told 57 = .ok (.getfield 62, 3) := by decide +kernel
theorem dX5_told_60 : decode cX5_told 60 = .ok (.ireturn, 1) := by decide +kernel
theorem dX5_told_61 : decode cX5_told 61 = .ok (.aload_n 0, 1) := by decide +kernel
theorem dX5_told_62 : decode cX5_told 62 = .ok (.getfield 70, 3) := by decide +kernel
theorem dX5_told_65 : decode cX5_told 65 = .ok (.ireturn, 1) := by decide +kernel
theorem dX5_told_66 : decode cX5_told 66 = .ok (.aload_n 0, 1) := by decide +kernel
theorem dX5_told_67 : decode cX5_told 67 = .ok (.getfield 85, 3) := by decide +kernel
theorem dX5_told_70 : decode cX5_told 70 = .ok (.ireturn, 1) := by decide +kernel
theorem dX5_told_71 : decode cX5_told 71 = .ok (.aload_n 0, 1) := by decide +kernel
theorem dX5_told_72 : decode cX5_told 72 = .ok (.getfield 91, 3) := by decide +kernel
theorem dX5_told_75 : decode cX5_told 75 = .ok (.ireturn, 1) := by decide +kernel
theorem dX5_told_76 : decode cX5_told 76 = .ok (.aload_n 0, 1) := by decide +kernel
theorem dX5_told_77 : decode cX5_told 77 = .ok (.getfield 25, 3) := by decide +kernel
theorem dX5_told_80 : decode cX5_told 80 = .ok (.ireturn, 1) := by decide +kernel
theorem dX5_told_81 : decode cX5_told 81 = .ok (.aload_n 0, 1) := by decide +kernel
theorem dX5_told_82 : decode cX5_told 82 = .ok (.getfield 104, 3) := by decide +kernel
theorem dX5_told_85 : decode cX5_told 85 = .ok (.ireturn, 1) := by decide +kernel
theorem dX5_told_86 : decode cX5_told 86 = .ok (.aload_n 0, 1) := by decide +kernel
theorem dX5_told_87 : decode cX5_told 87 = .ok (.getfield 110, 3) := by decide +kernel
theorem dX5_told_90 : decode cX5_told 90 = .ok (.ireturn, 1) := by decide +kernel
theorem dX5_told_91 : decode cX5_told 91 = .ok (.aload_n 0, 1) := by decide +kernel
theorem dX5_told_92 : decode cX5_told 92 = .ok (.getfield 129, 3) := by decide +kernel
theorem dX5_told_95 : decode cX5_told 95 = .ok (.ireturn, 1) := by decide +kernel
theorem dX5_told_96 : decode cX5_told 96 = .ok (.aload_n 0, 1) := by decide +kernel
theorem dX5_told_97 : decode cX5_told 97 = .ok (.getfield 132, 3) := by decide +kernel
theorem dX5_told_100 : decode cX5_told 100 = .ok (.ireturn, 1) := by decide +kernel
theorem dX5_told_101 : decode cX5_told 101 = .ok (.aload_n 0, 1) := by decide +kernel
theorem dX5_told_102 : decode cX5_told 102 = .ok (.getfield 141, 3) := by decide +kernel
theorem dX5_told_105 : decode cX5_told 105 = .ok (.ireturn, 1) := by decide +kernel
theorem dX5_told_106 : decode cX5_told 106 = .ok (.bipush (-2), 2) := by decide +kernel
theorem dX5_told_108 : decode cX5_told 108 = .ok (.ireturn, 1) := by decide +kernel
theorem dJ9_min_7cf53_0 : decode cJ9_min_7cf53 0 = .ok (.iload_n 0, 1) := by decide +kernel
theorem dJ9_min_7cf53_1 : decode cJ9_min_7cf53 1 = .ok (.iload_n 1, 1) := by decide +kernel
theorem dJ9_min_7cf53_2 : decode cJ9_min_7cf53 2 = .ok (.if_icmp .gt 7, 3) := by decide +kernel
theorem dJ9_min_7cf53_5 : decode cJ9_min_7cf53 5 = .ok (.iload_n 0, 1) := by decide +kernel
theorem dJ9_min_7cf53_6 : decode cJ9_min_7cf53 6 = .ok (.goto 4, 3) := by decide +kernel
theorem dJ9_min_7cf53_9 : decode cJ9_min_7cf53 9 = .ok (.iload_n 1, 1) := by decide +kernel
theorem dJ9_min_7cf53_10 : decode cJ9_min_7cf53 10 = .ok (.ireturn, 1) := by decide +kernel
