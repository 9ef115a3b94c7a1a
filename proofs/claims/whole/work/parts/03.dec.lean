theorem dX0_init_0 : decode cX0_init 0 = .ok (.aload_n 0, 1) := by decide +kernel
theorem dX0_init_1 : decode cX0_init 1 = .ok (.invokespecial 3, 3) := by decide +kernel
theorem dX0_init_4 : decode cX0_init 4 = .ok (.aload_n 0, 1) := by decide +kernel
theorem dX0_init_5 : decode cX0_init 5 = .ok (.bipush 60, 2) := by decide +kernel
theorem dX0_init_7 : decode cX0_init 7 = .ok (.newarray .int, 2) := by decide +kernel
theorem dX0_init_9 : decode cX0_init 9 = .ok (.putfield 11, 3) := by decide +kernel
theorem dX0_init_12 : decode cX0_init 12 = .ok (.aload_n 0, 1) := by decide +kernel
theorem dX0_init_13 : decode cX0_init 13 = .ok (.bipush 60, 2) := by decide +kernel
theorem dX0_init_15 : decode cX0_init 15 = .ok (.newarray .int, 2) := by decide +kernel
theorem dX0_init_17 : decode cX0_init 17 = .ok (.putfield 15, 3) := by decide +kernel
theorem dX0_init_20 : decode cX0_init 20 = .ok (.aload_n 0, 1) := by decide +kernel
theorem dX0_init_21 : decode cX0_init 21 = .ok (.bipush 60, 2) := by decide +kernel
theorem dX0_init_23 : decode cX0_init 23 = .ok (.newarray .int, 2) := by decide +kernel
theorem dX0_init_25 : decode cX0_init 25 = .ok (.putfield 18, 3) := by decide +kernel
theorem dX0_init_28 : decode cX0_init 28 = .ok (.aload_n 0, 1) := by decide +kernel
theorem dX0_init_29 : decode cX0_init 29 = .ok (.bipush 60, 2) := by decide +kernel
theorem dX0_init_31 : decode cX0_init 31 = .ok (.newarray .int, 2) := by decide +kernel
theorem dX0_init_33 : decode cX0_init 33 = .ok (.putfield 21, 3) := by decide +kernel
theorem dX0_init_36 : decode cX0_init 36 = .ok (.return_, 1) := by decide +kernel
theorem dX0_addFigure_0 : decode cX0_addFigure 0 = .ok (.aload_n 0, 1) := by decide +kernel
theorem dX0_addFigure_1 : decode cX0_addFigure 1 = .ok (.getfield 24, 3) := by decide +kernel
theorem dX0_addFigure_4 : decode cX0_addFigure 4 = .ok (.bipush 12, 2) := by decide +kernel
theorem dX0_addFigure_6 : decode cX0_addFigure 6 = .ok (.if_icmp .lt 6, 3) := by decide +kernel
theorem dX0_addFigure_9 : decode cX0_addFigure 9 = .ok (.bipush (-4), 2) := by decide +kernel
theorem dX0_addFigure_11 : decode cX0_addFigure 11 = .ok (.ireturn, 1) := by decide +kernel
theorem dX0_addFigure_12 : decode cX0_addFigure 12 = .ok (.aload_n 0, 1) := by decide +kernel
theorem dX0_addFigure_13 : decode cX0_addFigure 13 = .ok (.dup, 1) := by decide +kernel
theorem dX0_addFigure_14 : decode cX0_addFigure 14 = .ok (.getfield 24, 3) := by decide +kernel
theorem dX0_addFigure_17 : decode cX0_addFigure 17 = .ok (.iconst 1, 1) := by decide +kernel
theorem dX0_addFigure_18 : decode cX0_addFigure 18 = .ok (.iadd, 1) := by decide +kernel
theorem dX0_addFigure_19 : decode cX0_addFigure 19 = .ok (.putfield 24, 3) := by decide +kernel
theorem dX0_addFigure_22 : decode cX0_addFigure 22 = .ok (.aload_n 0, 1) := by decide +kernel
theorem dX0_addFigure_23 : decode cX0_addFigure 23 = .ok (.getfield 24, 3) := by decide +kernel
theorem dX0_addFigure_26 : decode cX0_addFigure 26 = .ok (.iconst 1, 1) := by decide +kernel
theorem dX0_addFigure_27 : decode cX0_addFigure 27 = .ok (.isub, 1) := by decide +kernel
theorem dX0_addFigure_28 : decode cX0_addFigure 28 = .ok (.ireturn, 1) := by decide +kernel
set_option maxRecDepth 20000 in
theorem ggX0_addNote_X0_isFigure : GoodIn wsX0_addNote wsX0_isFigure := goodIn_r _ [10, 11, 12, 13, 14, 18, 19, 20, 21, 22, 23] (by decide +kernel) (by decide +kernel)
set_option maxRecDepth 20000 in
theorem gX0_addNote_X0_isFigure : GoodIn wsX0_addNote (wsV RX0 28 RX0 yX0_isFigure wsX0_isFigure) := goodIn_app (goodIn_of _ (by decide +kernel)) ggX0_addNote_X0_isFigure
set_option maxRecDepth 20000 in
theorem ggX0_addNote_X4_isDay : GoodIn wsX0_addNote wsX4_isDay := goodIn_r _ [16, 17, 12, 13, 14] (by decide +kernel) (by decide +kernel)
set_option maxRecDepth 20000 in
theorem gX0_addNote_X4_isDay_n32 : GoodIn wsX0_addNote (wsX4_isDay) := ggX0_addNote_X4_isDay
set_option maxRecDepth 20000 in
theorem ggX0_addNote_X4_isWithin : GoodIn wsX0_addNote wsX4_isWithin := goodIn_r _ [14] (by decide +kernel) (by decide +kernel)
set_option maxRecDepth 20000 in
theorem gX0_addNote_X4_isWithin_n35 : GoodIn wsX0_addNote (wsX4_isWithin) := ggX0_addNote_X4_isWithin
theorem dX0_addNote_0 : decode cX0_addNote 0 = .ok (.aload_n 0, 1) := by decide +kernel
theorem dX0_addNote_1 : decode cX0_addNote 1 = .ok (.iload_n 1, 1) := by decide +kernel
theorem dX0_addNote_2 : decode cX0_addNote 2 = .ok (.invokevirtual 28, 3) := by decide +kernel
theorem dX0_addNote_5 : decode cX0_addNote 5 = .ok (.ifCond .ne 5, 3) := by decide +kernel
theorem dX0_addNote_8 : decode cX0_addNote 8 = .ok (.iconst (-1), 1) := by decide +kernel
theorem dX0_addNote_9 : decode cX0_addNote 9 = .ok (.ireturn, 1) := by decide +kernel
theorem dX0_addNote_10 : decode cX0_addNote 10 = .ok (.iload_n 2, 1) := by decide +kernel
theorem dX0_addNote_11 : decode cX0_addNote 11 = .ok (.invokestatic 32, 3) := by decide +kernel
theorem dX0_addNote_14 : decode cX0_addNote 14 = .ok (.ifCond .eq 21, 3) := by decide +kernel
theorem dX0_addNote_17 : decode cX0_addNote 17 = .ok (.iload_n 3, 1) := by decide +kernel
theorem dX0_addNote_18 : decode cX0_addNote 18 = .ok (.invokestatic 32, 3) := by decide +kernel
theorem dX0_addNote_21 : decode cX0_addNote 21 = .ok (.ifCond .eq 14, 3) := by decide +kernel
theorem dX0_addNote_24 : decode cX0_addNote 24 = .ok (.iload 4, 2) := by decide +kernel
theorem dX0_addNote_26 : decode cX0_addNote 26 = .ok (.iconst (-1), 1) := by decide +kernel
theorem dX0_addNote_27 : decode cX0_addNote 27 = .ok (.bipush 99, 2) := by decide +kernel
theorem dX0_addNote_29 : decode cX0_addNote 29 = .ok (.invokestatic 35, 3) := by decide +kernel
theorem dX0_addNote_32 : decode cX0_addNote 32 = .ok (.ifCond .ne 6, 3) := by decide +kernel
theorem dX0_addNote_35 : decode cX0_addNote 35 = .ok (.bipush (-2), 2) := by decide +kernel
theorem dX0_addNote_37 : decode cX0_addNote 37 = .ok (.ireturn, 1) := by decide +kernel
theorem dX0_addNote_38 : decode cX0_addNote 38 = .ok (.aload_n 0, 1) := by decide +kernel
theorem dX0_addNote_39 : decode cX0_addNote 39 = .ok (.getfield 39, 3) := by decide +kernel
theorem dX0_addNote_42 : decode cX0_addNote 42 = .ok (.bipush 60, 2) := by decide +kernel
theorem dX0_addNote_44 : decode cX0_addNote 44 = .ok (.if_icmp .lt 6, 3) := by decide +kernel
theorem dX0_addNote_47 : decode cX0_addNote 47 = .ok (.bipush (-4), 2) := by decide +kernel
theorem dX0_addNote_49 : decode cX0_addNote 49 = .ok (.ireturn, 1) := by decide +kernel
theorem dX0_addNote_50 : decode cX0_addNote 50 = .ok (.iload_n 2, 1) := by decide +kernel
theorem dX0_addNote_51 : decode cX0_addNote 51 = .ok (.iload_n 3, 1) := by decide +kernel
theorem dX0_addNote_52 : decode cX0_addNote 52 = .ok (.if_icmp .gt 25, 3) := by decide +kernel
theorem dX0_addNote_55 : decode cX0_addNote 55 = .ok (.aload_n 0, 1) := by decide +kernel
theorem dX0_addNote_56 : decode cX0_addNote 56 = .ok (.getfield 39, 3) := by decide +kernel
theorem dX0_addNote_59 : decode cX0_addNote 59 = .ok (.ifCond .le 21, 3) := by decide +kernel
theorem dX0_addNote_62 : decode cX0_addNote 62 = .ok (.iload_n 3, 1) := by decide +kernel
theorem dX0_addNote_63 : decode cX0_addNote 63 = .ok (.aload_n 0, 1) := by decide +kernel
theorem dX0_addNote_64 : decode cX0_addNote 64 = .ok (.getfield 18, 3) := by decide +kernel
theorem dX0_addNote_67 : decode cX0_addNote 67 = .ok (.aload_n 0, 1) := by decide +kernel
theorem dX0_addNote_68 : decode cX0_addNote 68 = .ok (.getfield 39, 3) := by decide +kernel
theorem dX0_addNote_71 : decode cX0_addNote 71 = .ok (.iconst 1, 1) := by decide +kernel
theorem dX0_addNote_72 : decode cX0_addNote 72 = .ok (.isub, 1) := by decide +kernel
theorem dX0_addNote_73 : decode cX0_addNote 73 = .ok (.iaload, 1) := by decide +kernel
theorem dX0_addNote_74 : decode cX0_addNote 74 = .ok (.if_icmp .ge 6, 3) := by decide +kernel
theorem dX0_addNote_77 : decode cX0_addNote 77 = .ok (.bipush (-5), 2) := by decide +kernel
theorem dX0_addNote_79 : decode cX0_addNote 79 = .ok (.ireturn, 1) := by decide +kernel
theorem dX0_addNote_80 : decode cX0_addNote 80 = .ok (.aload_n 0, 1) := by decide +kernel
theorem dX0_addNote_81 : decode cX0_addNote 81 = .ok (.getfield 11, 3) := by decide +kernel
theorem dX0_addNote_84 : decode cX0_addNote 84 = .ok (.aload_n 0, 1) := by decide +kernel
theorem dX0_addNote_85 : decode cX0_addNote 85 = .ok (.getfield 39, 3) := by decide +kernel
theorem dX0_addNote_88 : decode cX0_addNote 88 = .ok (.iload_n 1, 1) := by decide +kernel
theorem dX0_addNote_89 : decode cX0_addNote 89 = .ok (.iastore, 1) := by decide +kernel
theorem dX0_addNote_90 : decode cX0_addNote 90 = .ok (.aload_n 0, 1) := by decide +kernel
theorem dX0_addNote_91 : decode cX0_addNote 91 = .ok (.getfield 15, 3) := by decide +kernel
theorem dX0_addNote_94 : decode cX0_addNote 94 = .ok (.aload_n 0, 1) := by decide +kernel
theorem dX0_addNote_95 : decode cX0_addNote 95 = .ok (.getfield 39, 3) := by decide +kernel
theorem dX0_addNote_98 : decode cX0_addNote 98 = .ok (.iload_n 2, 1) := by decide +kernel
theorem dX0_addNote_99 : decode cX0_addNote 99 = .ok (.iastore, 1) := by decide +kernel
theorem dX0_addNote_100 : decode cX0_addNote 100 = .ok (.aload_n 0, 1) := by decide +kernel
theorem dX0_addNote_101 : decode cX0_addNote 101 = .ok (.getfield 18, 3) := by decide +kernel
theorem dX0_addNote_104 : decode cX0_addNote 104 = .ok (.aload_n 0, 1) := by decide +kernel
theorem dX0_addNote_105 : decode cX0_addNote 105 = .ok (.getfield 39, 3) := by decide +kernel
theorem dX0_addNote_108 : decode cX0_addNote 108 = .ok (.iload_n 3, 1) := by decide +kernel
theorem dX0_addNote_109 : decode cX0_addNote 109 = .ok (.iastore, 1) := by decide +kernel
theorem dX0_addNote_110 : decode cX0_addNote 110 = .ok (.aload_n 0, 1) := by decide +kernel
theorem dX0_addNote_111 : decode cX0_addNote 111 = .ok (.getfield 21, 3) := by decide +kernel
theorem dX0_addNote_114 : decode cX0_addNote 114 = .ok (.aload_n 0, 1) := by decide +kernel
theorem dX0_addNote_115 : decode cX0_addNote 115 = .ok (.getfield 39, 3) := by decide +kernel
theorem dX0_addNote_118 : decode cX0_addNote 118 = .ok (.iload 4, 2) := by decide +kernel
theorem dX0_addNote_120 : decode cX0_addNote 120 = .ok (.iastore, 1) := by decide +kernel
theorem dX0_addNote_121 : decode cX0_addNote 121 = .ok (.aload_n 0, 1) := by decide +kernel
theorem dX0_addNote_122 : decode cX0_addNote 122 = .ok (.dup, 1) := by decide +kernel
theorem dX0_addNote_123 : decode cX0_addNote 123 = .ok (.getfield 39, 3) := by decide +kernel
theorem dX0_addNote_126 : decode cX0_addNote 126 = .ok (.iconst 1, 1) := by decide +kernel
theorem dX0_addNote_127 : decode cX0_addNote 127 = .ok (.iadd, 1) := by decide +kernel
theorem dX0_addNote_128 : decode cX0_addNote 128 = .ok (.putfield 39, 3) := by decide +kernel
theorem dX0_addNote_131 : decode cX0_addNote 131 = .ok (.aload_n 0, 1) := by decide +kernel
theorem dX0_addNote_132 : decode cX0_addNote 132 = .ok (.getfield 39, 3) := by decide +kernel
theorem dX0_addNote_135 : decode cX0_addNote 135 = .ok (.ireturn, 1) := by decide +kernel
set_option maxRecDepth 20000 in
theorem ggX0_whereIs_X0_isFigure : GoodIn wsX0_whereIs wsX0_isFigure := goodIn_r _ [5, 6, 7, 8, 9, 30, 31, 32, 33, 34, 35] (by decide +kernel) (by decide +kernel)
set_option maxRecDepth 20000 in
theorem gX0_whereIs_X0_isFigure : GoodIn wsX0_whereIs (wsV RX0 28 RX0 yX0_isFigure wsX0_isFigure) := goodIn_app (goodIn_of _ (by decide +kernel)) ggX0_whereIs_X0_isFigure
set_option maxRecDepth 20000 in
theorem ggX0_whereIs_X4_isDay : GoodIn wsX0_whereIs wsX4_isDay := goodIn_r _ [11, 12, 7, 8, 9] (by decide +kernel) (by decide +kernel)
set_option maxRecDepth 20000 in
theorem gX0_whereIs_X4_isDay_n32 : GoodIn wsX0_whereIs (wsX4_isDay) := ggX0_whereIs_X4_isDay
set_option maxRecDepth 20000 in
theorem ggX0_whereIs_X0_placeOn : GoodIn wsX0_whereIs wsX0_placeOn := goodIn_r _ [16, 17, 18, 19, 20, 21, 22, 4, 23, 24, 25, 26, 27, 28, 29, 30, 31, 32, 33, 34, 35] (by decide +kernel) (by decide +kernel)
set_option maxRecDepth 20000 in
theorem gX0_whereIs_X0_placeOn : GoodIn wsX0_whereIs (wsV RX0 42 RX0 yX0_placeOn wsX0_placeOn) := goodIn_app (goodIn_of _ (by decide +kernel)) ggX0_whereIs_X0_placeOn
theorem dX0_whereIs_0 : decode cX0_whereIs 0 = .ok (.aload_n 0, 1) := by decide +kernel
theorem dX0_whereIs_1 : decode cX0_whereIs 1 = .ok (.iload_n 1, 1) := by decide +kernel
theorem dX0_whereIs_2 : decode cX0_whereIs 2 = .ok (.invokevirtual 28, 3) := by decide +kernel
theorem dX0_whereIs_5 : decode cX0_whereIs 5 = .ok (.ifCond .ne 6, 3) := by decide +kernel
theorem dX0_whereIs_8 : decode cX0_whereIs 8 = .ok (.bipush (-101), 2) := by decide +kernel
theorem dX0_whereIs_10 : decode cX0_whereIs 10 = .ok (.ireturn, 1) := by decide +kernel
theorem dX0_whereIs_11 : decode cX0_whereIs 11 = .ok (.iload_n 2, 1) := by decide +kernel
theorem dX0_whereIs_12 : decode cX0_whereIs 12 = .ok (.invokestatic 32, 3) := by decide +kernel
theorem dX0_whereIs_15 : decode cX0_whereIs 15 = .ok (.ifCond .eq 10, 3) := by decide +kernel
theorem dX0_whereIs_18 : decode cX0_whereIs 18 = .ok (.iload_n 3, 1) := by decide +kernel
theorem dX0_whereIs_19 : decode cX0_whereIs 19 = .ok (.invokestatic 32, 3) := by decide +kernel
theorem dX0_whereIs_22 : decode cX0_whereIs 22 = .ok (.ifCond .ne 6, 3) := by decide +kernel
theorem dX0_whereIs_25 : decode cX0_whereIs 25 = .ok (.bipush (-102), 2) := by decide +kernel
theorem dX0_whereIs_27 : decode cX0_whereIs 27 = .ok (.ireturn, 1) := by decide +kernel
theorem dX0_whereIs_28 : decode cX0_whereIs 28 = .ok (.aload_n 0, 1) := by decide +kernel
theorem dX0_whereIs_29 : decode cX0_whereIs 29 = .ok (.iload_n 1, 1) := by decide +kernel
theorem dX0_whereIs_30 : decode cX0_whereIs 30 = .ok (.iload_n 2, 1) := by decide +kernel
theorem dX0_whereIs_31 : decode cX0_whereIs 31 = .ok (.iload_n 3, 1) := by decide +kernel
theorem dX0_whereIs_32 : decode cX0_whereIs 32 = .ok (.invokevirtual 42, 3) := by decide +kernel
theorem dX0_whereIs_35 : decode cX0_whereIs 35 = .ok (.ireturn, 1) := by decide +kernel
set_option maxRecDepth 20000 in
theorem ggX0_figuresAt_X4_isWithin : GoodIn wsX0_figuresAt wsX4_isWithin := goodIn_r _ [4] (by decide +kernel) (by decide +kernel)
set_option maxRecDepth 20000 in
theorem gX0_figuresAt_X4_isWithin_n35 : GoodIn wsX0_figuresAt (wsX4_isWithin) := ggX0_figuresAt_X4_isWithin
set_option maxRecDepth 20000 in
theorem ggX0_figuresAt_X4_isDay : GoodIn wsX0_figuresAt wsX4_isDay := goodIn_r _ [6, 7, 2, 3, 4] (by decide +kernel) (by decide +kernel)
set_option maxRecDepth 20000 in
theorem gX0_figuresAt_X4_isDay_n32 : GoodIn wsX0_figuresAt (wsX4_isDay) := ggX0_figuresAt_X4_isDay
set_option maxRecDepth 20000 in
theorem ggX0_figuresAt_X0_placeOn : GoodIn wsX0_figuresAt wsX0_placeOn := goodIn_r _ [12, 13, 14, 15, 16, 17, 18, 11, 19, 20, 21, 22, 23, 24, 25, 26, 27, 28, 29, 30, 31] (by decide +kernel) (by decide +kernel)
set_option maxRecDepth 20000 in
theorem gX0_figuresAt_X0_placeOn : GoodIn wsX0_figuresAt (wsV RX0 42 RX0 yX0_placeOn wsX0_placeOn) := goodIn_app (goodIn_of _ (by decide +kernel)) ggX0_figuresAt_X0_placeOn
theorem dX0_figuresAt_0 : decode cX0_figuresAt 0 = .ok (.iload_n 1, 1) := by decide +kernel
theorem dX0_figuresAt_1 : decode cX0_figuresAt 1 = .ok (.iconst (-1), 1) := by decide +kernel
theorem dX0_figuresAt_2 : decode cX0_figuresAt 2 = .ok (.bipush 99, 2) := by decide +kernel
theorem dX0_figuresAt_4 : decode cX0_figuresAt 4 = .ok (.invokestatic 35, 3) := by decide +kernel
theorem dX0_figuresAt_7 : decode cX0_figuresAt 7 = .ok (.ifCond .eq 17, 3) := by decide +kernel
theorem dX0_figuresAt_10 : decode cX0_figuresAt 10 = .ok (.iload_n 2, 1) := by decide +kernel
theorem dX0_figuresAt_11 : decode cX0_figuresAt 11 = .ok (.invokestatic 32, 3) := by decide +kernel
theorem dX0_figuresAt_14 : decode cX0_figuresAt 14 = .ok (.ifCond .eq 10, 3) := by decide +kernel
theorem dX0_figuresAt_17 : decode cX0_figuresAt 17 = .ok (.iload_n 3, 1) := by decide +kernel
theorem dX0_figuresAt_18 : decode cX0_figuresAt 18 = .ok (.invokestatic 32, 3) := by decide +kernel
theorem dX0_figuresAt_21 : decode cX0_figuresAt 21 = .ok (.ifCond .ne 6, 3) := by decide +kernel
theorem dX0_figuresAt_24 : decode cX0_figuresAt 24 = .ok (.bipush (-2), 2) := by decide +kernel
theorem dX0_figuresAt_26 : decode cX0_figuresAt 26 = .ok (.ireturn, 1) := by decide +kernel
theorem dX0_figuresAt_27 : decode cX0_figuresAt 27 = .ok (.iconst 0, 1) := by decide +kernel
theorem dX0_figuresAt_28 : decode cX0_figuresAt 28 = .ok (.istore 4, 2) := by decide +kernel
theorem dX0_figuresAt_30 : decode cX0_figuresAt 30 = .ok (.iconst 0, 1) := by decide +kernel
theorem dX0_figuresAt_31 : decode cX0_figuresAt 31 = .ok (.istore 5, 2) := by decide +kernel
theorem dX0_figuresAt_33 : decode cX0_figuresAt 33 = .ok (.iload 5, 2) := by decide +kernel
theorem dX0_figuresAt_35 : decode cX0_figuresAt 35 = .ok (.aload_n 0, 1) := by decide +kernel
theorem dX0_figuresAt_36 : decode cX0_figuresAt 36 = .ok (.getfield 24, 3) := by decide +kernel
theorem dX0_figuresAt_39 : decode cX0_figuresAt 39 = .ok (.if_icmp .ge 30, 3) := by decide +kernel
theorem dX0_figuresAt_42 : decode cX0_figuresAt 42 = .ok (.aload_n 0, 1) := by decide +kernel
theorem dX0_figuresAt_43 : decode cX0_figuresAt 43 = .ok (.iload 5, 2) := by decide +kernel
theorem dX0_figuresAt_45 : decode cX0_figuresAt 45 = .ok (.iload_n 2, 1) := by decide +kernel
theorem dX0_figuresAt_46 : decode cX0_figuresAt 46 = .ok (.iload_n 3, 1) := by decide +kernel
theorem dX0_figuresAt_47 : decode cX0_figuresAt 47 = .ok (.invokevirtual 42, 3) := by decide +kernel
theorem dX0_figuresAt_50 : decode cX0_figuresAt 50 = .ok (.iload_n 1, 1) := by decide +kernel
theorem dX0_figuresAt_51 : decode cX0_figuresAt 51 = .ok (.if_icmp .ne 12, 3) := by decide +kernel
theorem dX0_figuresAt_54 : decode cX0_figuresAt 54 = .ok (.iload 4, 2) := by decide +kernel
theorem dX0_figuresAt_56 : decode cX0_figuresAt 56 = .ok (.iconst 1, 1) := by decide +kernel
theorem dX0_figuresAt_57 : decode cX0_figuresAt 57 = .ok (.iload 5, 2) := by decide +kernel
theorem dX0_figuresAt_59 : decode cX0_figuresAt 59 = .ok (.ishl, 1) := by decide +kernel
theorem dX0_figuresAt_60 : decode cX0_figuresAt 60 = .ok (.ior, 1) := by decide +kernel
theorem dX0_figuresAt_61 : decode cX0_figuresAt 61 = .ok (.istore 4, 2) := by decide +kernel
theorem dX0_figuresAt_63 : decode cX0_figuresAt 63 = .ok (.iinc 5 1, 3) := by decide +kernel
theorem dX0_figuresAt_66 : decode cX0_figuresAt 66 = .ok (.goto (-33), 3) := by decide +kernel
theorem dX0_figuresAt_69 : decode cX0_figuresAt 69 = .ok (.iload 4, 2) := by decide +kernel
theorem dX0_figuresAt_71 : decode cX0_figuresAt 71 = .ok (.ireturn, 1) := by decide +kernel
set_option maxRecDepth 20000 in
theorem ggX0_turnsOf_X0_isFigure : GoodIn wsX0_turnsOf wsX0_isFigure := goodIn_r _ [7, 8, 9, 10, 11, 25, 26, 27, 28, 29, 30] (by decide +kernel) (by decide +kernel)
set_option maxRecDepth 20000 in
theorem gX0_turnsOf_X0_isFigure : GoodIn wsX0_turnsOf (wsV RX0 28 RX0 yX0_isFigure wsX0_isFigure) := goodIn_app (goodIn_of _ (by decide +kernel)) ggX0_turnsOf_X0_isFigure
set_option maxRecDepth 20000 in
theorem ggX0_turnsOf_X4_isDay : GoodIn wsX0_turnsOf wsX4_isDay := goodIn_r _ [13, 14, 9, 10, 11] (by decide +kernel) (by decide +kernel)
set_option maxRecDepth 20000 in
theorem gX0_turnsOf_X4_isDay_n32 : GoodIn wsX0_turnsOf (wsX4_isDay) := ggX0_turnsOf_X4_isDay
set_option maxRecDepth 20000 in
theorem ggX0_turnsOf_X0_tellsOf : GoodIn wsX0_turnsOf wsX0_tellsOf := goodIn_r _ [18, 19, 20, 25, 26, 27, 28, 29, 30] (by decide +kernel) (by decide +kernel)
set_option maxRecDepth 20000 in
theorem gX0_turnsOf_X0_tellsOf : GoodIn wsX0_turnsOf (wsV RX0 46 RX0 yX0_tellsOf wsX0_tellsOf) := goodIn_app (goodIn_of _ (by decide +kernel)) ggX0_turnsOf_X0_tellsOf
set_option maxRecDepth 20000 in
theorem ggX0_turnsOf_X0_prevails : GoodIn wsX0_turnsOf wsX0_prevails := goodIn_r _ [24, 20, 25, 26, 27, 28, 29, 30] (by decide +kernel) (by decide +kernel)
set_option maxRecDepth 20000 in
theorem gX0_turnsOf_X0_prevails : GoodIn wsX0_turnsOf (wsV RX0 49 RX0 yX0_prevails wsX0_prevails) := goodIn_app (goodIn_of _ (by decide +kernel)) ggX0_turnsOf_X0_prevails
theorem dX0_turnsOf_0 : decode cX0_turnsOf 0 = .ok (.aload_n 0, 1) := by decide +kernel
theorem dX0_turnsOf_1 : decode cX0_turnsOf 1 = .ok (.iload_n 1, 1) := by decide +kernel
theorem dX0_turnsOf_2 : decode cX0_turnsOf 2 = .ok (.invokevirtual 28, 3) := by decide +kernel
theorem dX0_turnsOf_5 : decode cX0_turnsOf 5 = .ok (.ifCond .ne 5, 3) := by decide +kernel
theorem dX0_turnsOf_8 : decode cX0_turnsOf 8 = .ok (.iconst (-1), 1) := by decide +kernel
theorem dX0_turnsOf_9 : decode cX0_turnsOf 9 = .ok (.ireturn, 1) := by decide +kernel
theorem dX0_turnsOf_10 : decode cX0_turnsOf 10 = .ok (.iload_n 2, 1) := by decide +kernel
theorem dX0_turnsOf_11 : decode cX0_turnsOf 11 = .ok (.invokestatic 32, 3) := by decide +kernel
theorem dX0_turnsOf_14 : decode cX0_turnsOf 14 = .ok (.ifCond .ne 6, 3) := by decide +kernel
theorem dX0_turnsOf_17 : decode cX0_turnsOf 17 = .ok (.bipush (-2), 2) := by decide +kernel
theorem dX0_turnsOf_19 : decode cX0_turnsOf 19 = .ok (.ireturn, 1) := by decide +kernel
theorem dX0_turnsOf_20 : decode cX0_turnsOf 20 = .ok (.iconst 0, 1) := by decide +kernel
theorem dX0_turnsOf_21 : decode cX0_turnsOf 21 = .ok (.istore_n 3, 1) := by decide +kernel
theorem dX0_turnsOf_22 : decode cX0_turnsOf 22 = .ok (.bipush (-6), 2) := by decide +kernel
theorem dX0_turnsOf_24 : decode cX0_turnsOf 24 = .ok (.istore 4, 2) := by decide +kernel
theorem dX0_turnsOf_26 : decode cX0_turnsOf 26 = .ok (.iconst 0, 1) := by decide +kernel
theorem dX0_turnsOf_27 : decode cX0_turnsOf 27 = .ok (.istore 5, 2) := by decide +kernel
theorem dX0_turnsOf_29 : decode cX0_turnsOf 29 = .ok (.iload 5, 2) := by decide +kernel
theorem dX0_turnsOf_31 : decode cX0_turnsOf 31 = .ok (.aload_n 0, 1) := by decide +kernel
theorem dX0_turnsOf_32 : decode cX0_turnsOf 32 = .ok (.getfield 39, 3) := by decide +kernel
theorem dX0_turnsOf_35 : decode cX0_turnsOf 35 = .ok (.if_icmp .ge 62, 3) := by decide +kernel
theorem dX0_turnsOf_38 : decode cX0_turnsOf 38 = .ok (.aload_n 0, 1) := by decide +kernel
theorem dX0_turnsOf_39 : decode cX0_turnsOf 39 = .ok (.iload 5, 2) := by decide +kernel
theorem dX0_turnsOf_41 : decode cX0_turnsOf 41 = .ok (.iload_n 1, 1) := by decide +kernel
theorem dX0_turnsOf_42 : decode cX0_turnsOf 42 = .ok (.iload_n 2, 1) := by decide +kernel
theorem dX0_turnsOf_43 : decode cX0_turnsOf 43 = .ok (.invokevirtual 46, 3) := by decide +kernel
theorem dX0_turnsOf_46 : decode cX0_turnsOf 46 = .ok (.ifCond .eq 45, 3) := by decide +kernel
theorem dX0_turnsOf_49 : decode cX0_turnsOf 49 = .ok (.aload_n 0, 1) := by decide +kernel
theorem dX0_turnsOf_50 : decode cX0_turnsOf 50 = .ok (.iload 5, 2) := by decide +kernel
theorem dX0_turnsOf_52 : decode cX0_turnsOf 52 = .ok (.iload 4, 2) := by decide +kernel
theorem dX0_turnsOf_54 : decode cX0_turnsOf 54 = .ok (.invokevirtual 49, 3) := by decide +kernel
theorem dX0_turnsOf_57 : decode cX0_turnsOf 57 = .ok (.ifCond .eq 34, 3) := by decide +kernel
theorem dX0_turnsOf_60 : decode cX0_turnsOf 60 = .ok (.iload 4, 2) := by decide +kernel
theorem dX0_turnsOf_62 : decode cX0_turnsOf 62 = .ok (.bipush (-6), 2) := by decide +kernel
theorem dX0_turnsOf_64 : decode cX0_turnsOf 64 = .ok (.if_icmp .eq 20, 3) := by decide +kernel
theorem dX0_turnsOf_67 : decode cX0_turnsOf 67 = .ok (.aload_n 0, 1) := by decide +kernel
theorem dX0_turnsOf_68 : decode cX0_turnsOf 68 = .ok (.getfield 21, 3) := by decide +kernel
theorem dX0_turnsOf_71 : decode cX0_turnsOf 71 = .ok (.iload 5, 2) := by decide +kernel
theorem dX0_turnsOf_73 : decode cX0_turnsOf 73 = .ok (.iaload, 1) := by decide +kernel
theorem dX0_turnsOf_74 : decode cX0_turnsOf 74 = .ok (.aload_n 0, 1) := by decide +kernel
theorem dX0_turnsOf_75 : decode cX0_turnsOf 75 = .ok (.getfield 21, 3) := by decide +kernel
theorem dX0_turnsOf_78 : decode cX0_turnsOf 78 = .ok (.iload 4, 2) := by decide +kernel
theorem dX0_turnsOf_80 : decode cX0_turnsOf 80 = .ok (.iaload, 1) := by decide +kernel
theorem dX0_turnsOf_81 : decode cX0_turnsOf 81 = .ok (.if_icmp .eq 6, 3) := by decide +kernel
theorem dX0_turnsOf_84 : decode cX0_turnsOf 84 = .ok (.iinc 3 1, 3) := by decide +kernel
theorem dX0_turnsOf_87 : decode cX0_turnsOf 87 = .ok (.iload 5, 2) := by decide +kernel
theorem dX0_turnsOf_89 : decode cX0_turnsOf 89 = .ok (.istore 4, 2) := by decide +kernel
theorem dX0_turnsOf_91 : decode cX0_turnsOf 91 = .ok (.iinc 5 1, 3) := by decide +kernel
theorem dX0_turnsOf_94 : decode cX0_turnsOf 94 = .ok (.goto (-65), 3) := by decide +kernel
theorem dX0_turnsOf_97 : decode cX0_turnsOf 97 = .ok (.iload_n 3, 1) := by decide +kernel
theorem dX0_turnsOf_98 : decode cX0_turnsOf 98 = .ok (.ireturn, 1) := by decide +kernel
set_option maxRecDepth 20000 in
theorem ggX0_isFigure_X4_isWithin : GoodIn wsX0_isFigure wsX4_isWithin := goodIn_r _ [4] (by decide +kernel) (by decide +kernel)
set_option maxRecDepth 20000 in
theorem gX0_isFigure_X4_isWithin_n35 : GoodIn wsX0_isFigure (wsX4_isWithin) := ggX0_isFigure_X4_isWithin
theorem dX0_isFigure_0 : decode cX0_isFigure 0 = .ok (.iload_n 1, 1) := by decide +kernel
theorem dX0_isFigure_1 : decode cX0_isFigure 1 = .ok (.iconst 0, 1) := by decide +kernel
theorem dX0_isFigure_2 : decode cX0_isFigure 2 = .ok (.aload_n 0, 1) := by decide +kernel
theorem dX0_isFigure_3 : decode cX0_isFigure 3 = .ok (.getfield 24, 3) := by decide +kernel
theorem dX0_isFigure_6 : decode cX0_isFigure 6 = .ok (.iconst 1, 1) := by decide +kernel
theorem dX0_isFigure_7 : decode cX0_isFigure 7 = .ok (.isub, 1) := by decide +kernel
theorem dX0_isFigure_8 : decode cX0_isFigure 8 = .ok (.invokestatic 35, 3) := by decide +kernel
theorem dX0_isFigure_11 : decode cX0_isFigure 11 = .ok (.ireturn, 1) := by decide +kernel
set_option maxRecDepth 20000 in
theorem ggX0_placeOn_X0_tellsOf : GoodIn wsX0_placeOn wsX0_tellsOf := goodIn_r _ [8, 9, 10, 15, 16, 17, 18, 19, 20] (by decide +kernel) (by decide +kernel)
set_option maxRecDepth 20000 in
theorem gX0_placeOn_X0_tellsOf : GoodIn wsX0_placeOn (wsV RX0 46 RX0 yX0_tellsOf wsX0_tellsOf) := goodIn_app (goodIn_of _ (by decide +kernel)) ggX0_placeOn_X0_tellsOf
set_option maxRecDepth 20000 in
theorem ggX0_placeOn_X0_prevails : GoodIn wsX0_placeOn wsX0_prevails := goodIn_r _ [14, 10, 15, 16, 17, 18, 19, 20] (by decide +kernel) (by decide +kernel)
set_option maxRecDepth 20000 in
theorem gX0_placeOn_X0_prevails : GoodIn wsX0_placeOn (wsV RX0 49 RX0 yX0_prevails wsX0_prevails) := goodIn_app (goodIn_of _ (by decide +kernel)) ggX0_placeOn_X0_prevails
theorem dX0_placeOn_0 : decode cX0_placeOn 0 = .ok (.bipush (-6), 2) := by decide +kernel
theorem dX0_placeOn_2 : decode cX0_placeOn 2 = .ok (.istore 4, 2) := by decide +kernel
theorem dX0_placeOn_4 : decode cX0_placeOn 4 = .ok (.iconst 0, 1) := by decide +kernel
theorem dX0_placeOn_5 : decode cX0_placeOn 5 = .ok (.istore 5, 2) := by decide +kernel
theorem dX0_placeOn_7 : decode cX0_placeOn 7 = .ok (.iload 5, 2) := by decide +kernel
theorem dX0_placeOn_9 : decode cX0_placeOn 9 = .ok (.aload_n 0, 1) := by decide +kernel
theorem dX0_placeOn_10 : decode cX0_placeOn 10 = .ok (.getfield 39, 3) := by decide +kernel
theorem dX0_placeOn_13 : decode cX0_placeOn 13 = .ok (.if_icmp .ge 46, 3) := by decide +kernel
theorem dX0_placeOn_16 : decode cX0_placeOn 16 = .ok (.aload_n 0, 1) := by decide +kernel
theorem dX0_placeOn_17 : decode cX0_placeOn 17 = .ok (.getfield 18, 3) := by decide +kernel
theorem dX0_placeOn_20 : decode cX0_placeOn 20 = .ok (.iload 5, 2) := by decide +kernel
theorem dX0_placeOn_22 : decode cX0_placeOn 22 = .ok (.iaload, 1) := by decide +kernel
theorem dX0_placeOn_23 : decode cX0_placeOn 23 = .ok (.iload_n 3, 1) := by decide +kernel
theorem dX0_placeOn_24 : decode cX0_placeOn 24 = .ok (.if_icmp .gt 29, 3) := by decide +kernel
theorem dX0_placeOn_27 : decode cX0_placeOn 27 = .ok (.aload_n 0, 1) := by decide +kernel
theorem dX0_placeOn_28 : decode cX0_placeOn 28 = .ok (.iload 5, 2) := by decide +kernel
theorem dX0_placeOn_30 : decode cX0_placeOn 30 = .ok (.iload_n 1, 1) := by decide +kernel
theorem dX0_placeOn_31 : decode cX0_placeOn 31 = .ok (.iload_n 2, 1) := by decide +kernel
theorem dX0_placeOn_32 : decode cX0_placeOn 32 = .ok (.invokevirtual 46, 3) := by decide +kernel
theorem dX0_placeOn_35 : decode cX0_placeOn 35 = .ok (.ifCond .eq 18, 3) := by decide +kernel
theorem dX0_placeOn_38 : decode cX0_placeOn 38 = .ok (.aload_n 0, 1) := by decide +kernel
theorem dX0_placeOn_39 : decode cX0_placeOn 39 = .ok (.iload 5, 2) := by decide +kernel
theorem dX0_placeOn_41 : decode cX0_placeOn 41 = .ok (.iload 4, 2) := by decide +kernel
theorem dX0_placeOn_43 : decode cX0_placeOn 43 = .ok (.invokevirtual 49, 3) := by decide +kernel
theorem dX0_placeOn_46 : decode cX0_placeOn 46 = .ok (.ifCond .eq 7, 3) := by decide +kernel
theorem dX0_placeOn_49 : decode cX0_placeOn 49 = .ok (.iload 5, 2) := by decide +kernel
theorem dX0_placeOn_51 : decode cX0_placeOn 51 = .ok (.istore 4, 2) := by decide +kernel
theorem dX0_placeOn_53 : decode cX0_placeOn 53 = .ok (.iinc 5 1, 3) := by decide +kernel
theorem dX0_placeOn_56 : decode cX0_placeOn 56 = .ok (.goto (-49), 3) := by decide +kernel
theorem dX0_placeOn_59 : decode cX0_placeOn 59 = .ok (.iload 4, 2) := by decide +kernel
theorem dX0_placeOn_61 : decode cX0_placeOn 61 = .ok (.bipush (-6), 2) := by decide +kernel
theorem dX0_placeOn_63 : decode cX0_placeOn 63 = .ok (.if_icmp .ne 8, 3) := by decide +kernel
theorem dX0_placeOn_66 : decode cX0_placeOn 66 = .ok (.bipush (-6), 2) := by decide +kernel
theorem dX0_placeOn_68 : decode cX0_placeOn 68 = .ok (.goto 10, 3) := by decide +kernel
theorem dX0_placeOn_71 : decode cX0_placeOn 71 = .ok (.aload_n 0, 1) := by decide +kernel
theorem dX0_placeOn_72 : decode cX0_placeOn 72 = .ok (.getfield 21, 3) := by decide +kernel
theorem dX0_placeOn_75 : decode cX0_placeOn 75 = .ok (.iload 4, 2) := by decide +kernel
theorem dX0_placeOn_77 : decode cX0_placeOn 77 = .ok (.iaload, 1) := by decide +kernel
theorem dX0_placeOn_78 : decode cX0_placeOn 78 = .ok (.ireturn, 1) := by decide +kernel
theorem dX0_tellsOf_0 : decode cX0_tellsOf 0 = .ok (.aload_n 0, 1) := by decide +kernel
theorem dX0_tellsOf_1 : decode cX0_tellsOf 1 = .ok (.getfield 11, 3) := by decide +kernel
theorem dX0_tellsOf_4 : decode cX0_tellsOf 4 = .ok (.iload_n 1, 1) := by decide +kernel
theorem dX0_tellsOf_5 : decode cX0_tellsOf 5 = .ok (.iaload, 1) := by decide +kernel
theorem dX0_tellsOf_6 : decode cX0_tellsOf 6 = .ok (.iload_n 2, 1) := by decide +kernel
theorem dX0_tellsOf_7 : decode cX0_tellsOf 7 = .ok (.if_icmp .ne 17, 3) := by decide +kernel
theorem dX0_tellsOf_10 : decode cX0_tellsOf 10 = .ok (.aload_n 0, 1) := by decide +kernel
theorem dX0_tellsOf_11 : decode cX0_tellsOf 11 = .ok (.getfield 15, 3) := by decide +kernel
theorem dX0_tellsOf_14 : decode cX0_tellsOf 14 = .ok (.iload_n 1, 1) := by decide +kernel
theorem dX0_tellsOf_15 : decode cX0_tellsOf 15 = .ok (.iaload, 1) := by decide +kernel
theorem dX0_tellsOf_16 : decode cX0_tellsOf 16 = .ok (.iload_n 3, 1) := by decide +kernel
theorem dX0_tellsOf_17 : decode cX0_tellsOf 17 = .ok (.if_icmp .gt 7, 3) := by decide +kernel
theorem dX0_tellsOf_20 : decode cX0_tellsOf 20 = .ok (.iconst 1, 1) := by decide +kernel
theorem dX0_tellsOf_21 : decode cX0_tellsOf 21 = .ok (.goto 4, 3) := by decide +kernel
theorem dX0_tellsOf_24 : decode cX0_tellsOf 24 = .ok (.iconst 0, 1) := by decide +kernel
theorem dX0_tellsOf_25 : decode cX0_tellsOf 25 = .ok (.ireturn, 1) := by decide +kernel
theorem dX0_prevails_0 : decode cX0_prevails 0 = .ok (.iload_n 2, 1) := by decide +kernel
theorem dX0_prevails_1 : decode cX0_prevails 1 = .ok (.bipush (-6), 2) := by decide +kernel
theorem dX0_prevails_3 : decode cX0_prevails 3 = .ok (.if_icmp .eq 18, 3) := by decide +kernel
theorem dX0_prevails_6 : decode cX0_prevails 6 = .ok (.aload_n 0, 1) := by decide +kernel
theorem dX0_prevails_7 : decode cX0_prevails 7 = .ok (.getfield 15, 3) := by decide +kernel
theorem dX0_prevails_10 : decode cX0_prevails 10 = .ok (.iload_n 1, 1) := by decide +kernel
theorem dX0_prevails_11 : decode cX0_prevails 11 = .ok (.iaload, 1) := by decide +kernel
theorem dX0_prevails_12 : decode cX0_prevails 12 = .ok (.aload_n 0, 1) := by decide +kernel
theorem dX0_prevails_13 : decode cX0_prevails 13 = .ok (.getfield 15, 3) := by decide +kernel
theorem dX0_prevails_16 : decode cX0_prevails 16 = .ok (.iload_n 2, 1) := by decide +kernel
theorem dX0_prevails_17 : decode cX0_prevails 17 = .ok (.iaload, 1) := by decide +kernel
theorem dX0_prevails_18 : decode cX0_prevails 18 = .ok (.if_icmp .lt 7, 3) := by decide +kernel
theorem dX0_prevails_21 : decode cX0_prevails 21 = .ok (.iconst 1, 1) := by decide +kernel
theorem dX0_prevails_22 : decode cX0_prevails 22 = .ok (.goto 4, 3) := by decide +kernel
theorem dX0_prevails_25 : decode cX0_prevails 25 = .ok (.iconst 0, 1) := by decide +kernel
theorem dX0_prevails_26 : decode cX0_prevails 26 = .ok (.ireturn, 1) := by decide +kernel
theorem dX1_init_0 : decode cX1_init 0 = .ok (.aload_n 0, 1) := by decide +kernel
theorem dX1_init_1 : decode cX1_init 1 = .ok (.invokespecial 3, 3) := by decide +kernel
theorem dX1_init_4 : decode cX1_init 4 = .ok (.aload_n 0, 1) := by decide +kernel
theorem dX1_init_5 : decode cX1_init 5 = .ok (.iconst 4, 1) := by decide +kernel
theorem dX1_init_6 : decode cX1_init 6 = .ok (.newarray .int, 2) := by decide +kernel
theorem dX1_init_8 : decode cX1_init 8 = .ok (.putfield 11, 3) := by decide +kernel
theorem dX1_init_11 : decode cX1_init 11 = .ok (.aload_n 0, 1) := by decide +kernel
theorem dX1_init_12 : decode cX1_init 12 = .ok (.sipush 200, 3) := by decide +kernel
theorem dX1_init_15 : decode cX1_init 15 = .ok (.newarray .boolean, 2) := by decide +kernel
theorem dX1_init_17 : decode cX1_init 17 = .ok (.putfield 15, 3) := by decide +kernel
theorem dX1_init_20 : decode cX1_init 20 = .ok (.aload_n 0, 1) := by decide +kernel
theorem dX1_init_21 : decode cX1_init 21 = .ok (.bipush 20, 2) := by decide +kernel
theorem dX1_init_23 : decode cX1_init 23 = .ok (.putfield 19, 3) := by decide +kernel
theorem dX1_init_26 : decode cX1_init 26 = .ok (.aload_n 0, 1) := by decide +kernel
theorem dX1_init_27 : decode cX1_init 27 = .ok (.bipush 24, 2) := by decide +kernel
theorem dX1_init_29 : decode cX1_init 29 = .ok (.newarray .int, 2) := by decide +kernel
theorem dX1_init_31 : decode cX1_init 31 = .ok (.putfield 23, 3) := by decide +kernel
theorem dX1_init_34 : decode cX1_init 34 = .ok (.aload_n 0, 1) := by decide +kernel
theorem dX1_init_35 : decode cX1_init 35 = .ok (.bipush 24, 2) := by decide +kernel
theorem dX1_init_37 : decode cX1_init 37 = .ok (.newarray .int, 2) := by decide +kernel
theorem dX1_init_39 : decode cX1_init 39 = .ok (.putfield 26, 3) := by decide +kernel
theorem dX1_init_42 : decode cX1_init 42 = .ok (.aload_n 0, 1) := by decide +kernel
theorem dX1_init_43 : decode cX1_init 43 = .ok (.bipush 24, 2) := by decide +kernel
theorem dX1_init_45 : decode cX1_init 45 = .ok (.newarray .int, 2) := by decide +kernel
theorem dX1_init_47 : decode cX1_init 47 = .ok (.putfield 29, 3) := by decide +kernel
theorem dX1_init_50 : decode cX1_init 50 = .ok (.aload_n 0, 1) := by decide +kernel
theorem dX1_init_51 : decode cX1_init 51 = .ok (.bipush 24, 2) := by decide +kernel
theorem dX1_init_53 : decode cX1_init 53 = .ok (.newarray .int, 2) := by decide +kernel
theorem dX1_init_55 : decode cX1_init 55 = .ok (.putfield 32, 3) := by decide +kernel
theorem dX1_init_58 : decode cX1_init 58 = .ok (.aload_n 0, 1) := by decide +kernel
theorem dX1_init_59 : decode cX1_init 59 = .ok (.bipush 24, 2) := by decide +kernel
theorem dX1_init_61 : decode cX1_init 61 = .ok (.newarray .int, 2) := by decide +kernel
theorem dX1_init_63 : decode cX1_init 63 = .ok (.putfield 35, 3) := by decide +kernel
theorem dX1_init_66 : decode cX1_init 66 = .ok (.aload_n 0, 1) := by decide +kernel
theorem dX1_init_67 : decode cX1_init 67 = .ok (.bipush 24, 2) := by decide +kernel
theorem dX1_init_69 : decode cX1_init 69 = .ok (.newarray .int, 2) := by decide +kernel
theorem dX1_init_71 : decode cX1_init 71 = .ok (.putfield 38, 3) := by decide +kernel
theorem dX1_init_74 : decode cX1_init 74 = .ok (.aload_n 0, 1) := by decide +kernel
theorem dX1_init_75 : decode cX1_init 75 = .ok (.bipush 24, 2) := by decide +kernel
theorem dX1_init_77 : decode cX1_init 77 = .ok (.newarray .int, 2) := by decide +kernel
theorem dX1_init_79 : decode cX1_init 79 = .ok (.putfield 41, 3) := by decide +kernel
theorem dX1_init_82 : decode cX1_init 82 = .ok (.iconst 0, 1) := by decide +kernel
theorem dX1_init_83 : decode cX1_init 83 = .ok (.istore_n 1, 1) := by decide +kernel
theorem dX1_init_84 : decode cX1_init 84 = .ok (.iload_n 1, 1) := by decide +kernel
theorem dX1_init_85 : decode cX1_init 85 = .ok (.iconst 4, 1) := by decide +kernel
theorem dX1_init_86 : decode cX1_init 86 = .ok (.if_icmp .ge 16, 3) := by decide +kernel
theorem dX1_init_89 : decode cX1_init 89 = .ok (.aload_n 0, 1) := by decide +kernel
theorem dX1_init_90 : decode cX1_init 90 = .ok (.getfield 11, 3) := by decide +kernel
theorem dX1_init_93 : decode cX1_init 93 = .ok (.iload_n 1, 1) := by decide +kernel
theorem dX1_init_94 : decode cX1_init 94 = .ok (.iconst 5, 1) := by decide +kernel
theorem dX1_init_95 : decode cX1_init 95 = .ok (.iastore, 1) := by decide +kernel
theorem dX1_init_96 : decode cX1_init 96 = .ok (.iinc 1 1, 3) := by decide +kernel
theorem dX1_init_99 : decode cX1_init 99 = .ok (.goto (-15), 3) := by decide +kernel
theorem dX1_init_102 : decode cX1_init 102 = .ok (.return_, 1) := by decide +kernel
set_option maxRecDepth 20000 in
theorem ggX1_setFade_X4_isWithin : GoodIn wsX1_setFade wsX4_isWithin := goodIn_r _ [4] (by decide +kernel) (by decide +kernel)
set_option maxRecDepth 20000 in
theorem gX1_setFade_X4_isWithin_n44 : GoodIn wsX1_setFade (wsX4_isWithin) := ggX1_setFade_X4_isWithin
theorem dX1_setFade_0 : decode cX1_setFade 0 = .ok (.iload_n 1, 1) := by decide +kernel
theorem dX1_setFade_1 : decode cX1_setFade 1 = .ok (.iconst 0, 1) := by decide +kernel
theorem dX1_setFade_2 : decode cX1_setFade 2 = .ok (.iconst 3, 1) := by decide +kernel
theorem dX1_setFade_3 : decode cX1_setFade 3 = .ok (.invokestatic 44, 3) := by decide +kernel
theorem dX1_setFade_6 : decode cX1_setFade 6 = .ok (.ifCond .eq 13, 3) := by decide +kernel
theorem dX1_setFade_9 : decode cX1_setFade 9 = .ok (.iload_n 2, 1) := by decide +kernel
theorem dX1_setFade_10 : decode cX1_setFade 10 = .ok (.iconst 0, 1) := by decide +kernel
theorem dX1_setFade_11 : decode cX1_setFade 11 = .ok (.bipush 40, 2) := by decide +kernel
theorem dX1_setFade_13 : decode cX1_setFade 13 = .ok (.invokestatic 44, 3) := by decide +kernel
theorem dX1_setFade_16 : decode cX1_setFade 16 = .ok (.ifCond .ne 6, 3) := by decide +kernel
theorem dX1_setFade_19 : decode cX1_setFade 19 = .ok (.bipush (-2), 2) := by decide +kernel
theorem dX1_setFade_21 : decode cX1_setFade 21 = .ok (.ireturn, 1) := by decide +kernel
theorem dX1_setFade_22 : decode cX1_setFade 22 = .ok (.aload_n 0, 1) := by decide +kernel
theorem dX1_setFade_23 : decode cX1_setFade 23 = .ok (.getfield 11, 3) := by decide +kernel
theorem dX1_setFade_26 : decode cX1_setFade 26 = .ok (.iload_n 1, 1) := by decide +kernel
theorem dX1_setFade_27 : decode cX1_setFade 27 = .ok (.iaload, 1) := by decide +kernel
theorem dX1_setFade_28 : decode cX1_setFade 28 = .ok (.istore_n 3, 1) := by decide +kernel
theorem dX1_setFade_29 : decode cX1_setFade 29 = .ok (.aload_n 0, 1) := by decide +kernel
theorem dX1_setFade_30 : decode cX1_setFade 30 = .ok (.getfield 11, 3) := by decide +kernel
theorem dX1_setFade_33 : decode cX1_setFade 33 = .ok (.iload_n 1, 1) := by decide +kernel
theorem dX1_setFade_34 : decode cX1_setFade 34 = .ok (.iload_n 2, 1) := by decide +kernel
theorem dX1_setFade_35 : decode cX1_setFade 35 = .ok (.iastore, 1) := by decide +kernel
theorem dX1_setFade_36 : decode cX1_setFade 36 = .ok (.iload_n 3, 1) := by decide +kernel
theorem dX1_setFade_37 : decode cX1_setFade 37 = .ok (.ireturn, 1) := by decide +kernel
set_option maxRecDepth 20000 in
theorem ggX1_addWall_X4_isWithin : GoodIn wsX1_addWall wsX4_isWithin := goodIn_r _ [8] (by decide +kernel) (by decide +kernel)
set_option maxRecDepth 20000 in
theorem gX1_addWall_X4_isWithin_n44 : GoodIn wsX1_addWall (wsX4_isWithin) := ggX1_addWall_X4_isWithin
theorem dX1_addWall_0 : decode cX1_addWall 0 = .ok (.iload_n 1, 1) := by decide +kernel
theorem dX1_addWall_1 : decode cX1_addWall 1 = .ok (.iconst 0, 1) := by decide +kernel
theorem dX1_addWall_2 : decode cX1_addWall 2 = .ok (.bipush 99, 2) := by decide +kernel
theorem dX1_addWall_4 : decode cX1_addWall 4 = .ok (.invokestatic 44, 3) := by decide +kernel
theorem dX1_addWall_7 : decode cX1_addWall 7 = .ok (.ifCond .eq 22, 3) := by decide +kernel
theorem dX1_addWall_10 : decode cX1_addWall 10 = .ok (.iload_n 2, 1) := by decide +kernel
theorem dX1_addWall_11 : decode cX1_addWall 11 = .ok (.iconst 0, 1) := by decide +kernel
theorem dX1_addWall_12 : decode cX1_addWall 12 = .ok (.iconst 3, 1) := by decide +kernel
theorem dX1_addWall_13 : decode cX1_addWall 13 = .ok (.invokestatic 44, 3) := by decide +kernel
theorem dX1_addWall_16 : decode cX1_addWall 16 = .ok (.ifCond .eq 13, 3) := by decide +kernel
theorem dX1_addWall_19 : decode cX1_addWall 19 = .ok (.iload_n 3, 1) := by decide +kernel
theorem dX1_addWall_20 : decode cX1_addWall 20 = .ok (.iconst 1, 1) := by decide +kernel
theorem dX1_addWall_21 : decode cX1_addWall 21 = .ok (.bipush 60, 2) := by decide +kernel
theorem dX1_addWall_23 : decode cX1_addWall 23 = .ok (.invokestatic 44, 3) := by decide +kernel
theorem dX1_addWall_26 : decode cX1_addWall 26 = .ok (.ifCond .ne 6, 3) := by decide +kernel
theorem dX1_addWall_29 : decode cX1_addWall 29 = .ok (.bipush (-2), 2) := by decide +kernel
theorem dX1_addWall_31 : decode cX1_addWall 31 = .ok (.ireturn, 1) := by decide +kernel
theorem dX1_addWall_32 : decode cX1_addWall 32 = .ok (.aload_n 0, 1) := by decide +kernel
theorem dX1_addWall_33 : decode cX1_addWall 33 = .ok (.getfield 48, 3) := by decide +kernel
theorem dX1_addWall_36 : decode cX1_addWall 36 = .ok (.bipush 24, 2) := by decide +kernel
theorem dX1_addWall_38 : decode cX1_addWall 38 = .ok (.if_icmp .lt 6, 3) := by decide +kernel
theorem dX1_addWall_41 : decode cX1_addWall 41 = .ok (.bipush (-4), 2) := by decide +kernel
theorem dX1_addWall_43 : decode cX1_addWall 43 = .ok (.ireturn, 1) := by decide +kernel
theorem dX1_addWall_44 : decode cX1_addWall 44 = .ok (.aload_n 0, 1) := by decide +kernel
theorem dX1_addWall_45 : decode cX1_addWall 45 = .ok (.getfield 23, 3) := by decide +kernel
theorem dX1_addWall_48 : decode cX1_addWall 48 = .ok (.aload_n 0, 1) := by decide +kernel
theorem dX1_addWall_49 : decode cX1_addWall 49 = .ok (.getfield 48, 3) := by decide +kernel
theorem dX1_addWall_52 : decode cX1_addWall 52 = .ok (.iload_n 1, 1) := by decide +kernel
theorem dX1_addWall_53 : decode cX1_addWall 53 = .ok (.iastore, 1) := by decide +kernel
theorem dX1_addWall_54 : decode cX1_addWall 54 = .ok (.aload_n 0, 1) := by decide +kernel
theorem dX1_addWall_55 : decode cX1_addWall 55 = .ok (.getfield 26, 3) := by decide +kernel
theorem dX1_addWall_58 : decode cX1_addWall 58 = .ok (.aload_n 0, 1) := by decide +kernel
theorem dX1_addWall_59 : decode cX1_addWall 59 = .ok (.getfield 48, 3) := by decide +kernel
theorem dX1_addWall_62 : decode cX1_addWall 62 = .ok (.iload_n 2, 1) := by decide +kernel
theorem dX1_addWall_63 : decode cX1_addWall 63 = .ok (.iastore, 1) := by decide +kernel
theorem dX1_addWall_64 : decode cX1_addWall 64 = .ok (.aload_n 0, 1) := by decide +kernel
theorem dX1_addWall_65 : decode cX1_addWall 65 = .ok (.getfield 29, 3) := by decide +kernel
theorem dX1_addWall_68 : decode cX1_addWall 68 = .ok (.aload_n 0, 1) := by decide +kernel
theorem dX1_addWall_69 : decode cX1_addWall 69 = .ok (.getfield 48, 3) := by decide +kernel
theorem dX1_addWall_72 : decode cX1_addWall 72 = .ok (.iload_n 3, 1) := by decide +kernel
theorem dX1_addWall_73 : decode cX1_addWall 73 = .ok (.iastore, 1) := by decide +kernel
theorem dX1_addWall_74 : decode cX1_addWall 74 = .ok (.aload_n 0, 1) := by decide +kernel
theorem dX1_addWall_75 : decode cX1_addWall 75 = .ok (.getfield 32, 3) := by decide +kernel
theorem dX1_addWall_78 : decode cX1_addWall 78 = .ok (.aload_n 0, 1) := by decide +kernel
theorem dX1_addWall_79 : decode cX1_addWall 79 = .ok (.getfield 48, 3) := by decide +kernel
theorem dX1_addWall_82 : decode cX1_addWall 82 = .ok (.bipush 100, 2) := by decide +kernel
theorem dX1_addWall_84 : decode cX1_addWall 84 = .ok (.iastore, 1) := by decide +kernel
theorem dX1_addWall_85 : decode cX1_addWall 85 = .ok (.aload_n 0, 1) := by decide +kernel
theorem dX1_addWall_86 : decode cX1_addWall 86 = .ok (.dup, 1) := by decide +kernel
theorem dX1_addWall_87 : decode cX1_addWall 87 = .ok (.getfield 48, 3) := by decide +kernel
theorem dX1_addWall_90 : decode cX1_addWall 90 = .ok (.iconst 1, 1) := by decide +kernel
theorem dX1_addWall_91 : decode cX1_addWall 91 = .ok (.iadd, 1) := by decide +kernel
theorem dX1_addWall_92 : decode cX1_addWall 92 = .ok (.putfield 48, 3) := by decide +kernel
theorem dX1_addWall_95 : decode cX1_addWall 95 = .ok (.aload_n 0, 1) := by decide +kernel
theorem dX1_addWall_96 : decode cX1_addWall 96 = .ok (.getfield 48, 3) := by decide +kernel
theorem dX1_addWall_99 : decode cX1_addWall 99 = .ok (.iconst 1, 1) := by decide +kernel
theorem dX1_addWall_100 : decode cX1_addWall 100 = .ok (.isub, 1) := by decide +kernel
theorem dX1_addWall_101 : decode cX1_addWall 101 = .ok (.ireturn, 1) := by decide +kernel
set_option maxRecDepth 20000 in
theorem ggX1_aboutWall_X4_isWithin : GoodIn wsX1_aboutWall wsX4_isWithin := goodIn_r _ [9] (by decide +kernel) (by decide +kernel)
set_option maxRecDepth 20000 in
theorem gX1_aboutWall_X4_isWithin_n44 : GoodIn wsX1_aboutWall (wsX4_isWithin) := ggX1_aboutWall_X4_isWithin
theorem dX1_aboutWall_0 : decode cX1_aboutWall 0 = .ok (.iload_n 1, 1) := by decide +kernel
theorem dX1_aboutWall_1 : decode cX1_aboutWall 1 = .ok (.iconst 0, 1) := by decide +kernel
theorem dX1_aboutWall_2 : decode cX1_aboutWall 2 = .ok (.aload_n 0, 1) := by decide +kernel
theorem dX1_aboutWall_3 : decode cX1_aboutWall 3 = .ok (.getfield 48, 3) := by decide +kernel
theorem dX1_aboutWall_6 : decode cX1_aboutWall 6 = .ok (.iconst 1, 1) := by decide +kernel
theorem dX1_aboutWall_7 : decode cX1_aboutWall 7 = .ok (.isub, 1) := by decide +kernel
theorem dX1_aboutWall_8 : decode cX1_aboutWall 8 = .ok (.invokestatic 44, 3) := by decide +kernel
theorem dX1_aboutWall_11 : decode cX1_aboutWall 11 = .ok (.ifCond .ne 5, 3) := by decide +kernel
theorem dX1_aboutWall_14 : decode cX1_aboutWall 14 = .ok (.iconst (-1), 1) := by decide +kernel
theorem dX1_aboutWall_15 : decode cX1_aboutWall 15 = .ok (.ireturn, 1) := by decide +kernel
theorem dX1_aboutWall_16 : decode cX1_aboutWall 16 = .ok (.iload_n 2, 1) := by decide +kernel
theorem dX1_aboutWall_17 : decode cX1_aboutWall 17 = .ok (.tableswitch 70 0 4 #[35, 42, 49, 56, 63], 35) := by decide +kernel
theorem dX1_aboutWall_52 : decode cX1_aboutWall 52 = .ok (.aload_n 0, 1) := by decide +kernel
theorem dX1_aboutWall_53 : decode cX1_aboutWall 53 = .ok (.getfield 23, 3) := by decide +kernel
theorem dX1_aboutWall_56 : decode cX1_aboutWall 56 = .ok (.iload_n 1, 1) := by decide +kernel
theorem dX1_aboutWall_57 : decode cX1_aboutWall 57 = .ok (.iaload, 1) := by decide +kernel
theorem dX1_aboutWall_58 : decode cX1_aboutWall 58 = .ok (.ireturn, 1) := by decide +kernel
theorem dX1_aboutWall_59 : decode cX1_aboutWall 59 = .ok (.aload_n 0, 1) := by decide +kernel
theorem dX1_aboutWall_60 : decode cX1_aboutWall 60 = .ok (.getfield 26, 3) := by decide +kernel
theorem dX1_aboutWall_63 : decode cX1_aboutWall 63 = .ok (.iload_n 1, 1) := by decide +kernel
theorem dX1_aboutWall_64 : decode cX1_aboutWall 64 = .ok (.iaload, 1) := by decide +kernel
theorem dX1_aboutWall_65 : decode cX1_aboutWall 65 = .ok (.ireturn, 1) := by decide +kernel
theorem dX1_aboutWall_66 : decode cX1_aboutWall 66 = .ok (.aload_n 0, 1) := by decide +kernel
theorem dX1_aboutWall_67 : decode cX1_aboutWall 67 = .ok (.getfield 29, 3) := by decide +kernel
theorem dX1_aboutWall_70 : decode cX1_aboutWall 70 = .ok (.iload_n 1, 1) := by decide +kernel
theorem dX1_aboutWall_71 : decode cX1_aboutWall 71 = .ok (.iaload, 1) := by decide +kernel
theorem dX1_aboutWall_72 : decode cX1_aboutWall 72 = .ok (.ireturn, 1) := by decide +kernel
theorem dX1_aboutWall_73 : decode cX1_aboutWall 73 = .ok (.aload_n 0, 1) := by decide +kernel
theorem dX1_aboutWall_74 : decode cX1_aboutWall 74 = .ok (.getfield 32, 3) := by decide +kernel
theorem dX1_aboutWall_77 : decode cX1_aboutWall 77 = .ok (.iload_n 1, 1) := by decide +kernel
theorem dX1_aboutWall_78 : decode cX1_aboutWall 78 = .ok (.iaload, 1) := by decide +kernel
theorem dX1_aboutWall_79 : decode cX1_aboutWall 79 = .ok (.ireturn, 1) := by decide +kernel
theorem dX1_aboutWall_80 : decode cX1_aboutWall 80 = .ok (.aload_n 0, 1) := by decide +kernel
theorem dX1_aboutWall_81 : decode cX1_aboutWall 81 = .ok (.getfield 35, 3) := by decide +kernel
theorem dX1_aboutWall_84 : decode cX1_aboutWall 84 = .ok (.iload_n 1, 1) := by decide +kernel
theorem dX1_aboutWall_85 : decode cX1_aboutWall 85 = .ok (.iaload, 1) := by decide +kernel
theorem dX1_aboutWall_86 : decode cX1_aboutWall 86 = .ok (.ireturn, 1) := by decide +kernel
theorem dX1_aboutWall_87 : decode cX1_aboutWall 87 = .ok (.bipush (-2), 2) := by decide +kernel
theorem dX1_aboutWall_89 : decode cX1_aboutWall 89 = .ok (.ireturn, 1) := by decide +kernel
set_option maxRecDepth 20000 in
theorem ggX1_setHands_X4_isWithin : GoodIn wsX1_setHands wsX4_isWithin := goodIn_r _ [4] (by decide +kernel) (by decide +kernel)
set_option maxRecDepth 20000 in
theorem gX1_setHands_X4_isWithin_n44 : GoodIn wsX1_setHands (wsX4_isWithin) := ggX1_setHands_X4_isWithin
theorem dX1_setHands_0 : decode cX1_setHands 0 = .ok (.iload_n 1, 1) := by decide +kernel
theorem dX1_setHands_1 : decode cX1_setHands 1 = .ok (.iconst 0, 1) := by decide +kernel
theorem dX1_setHands_2 : decode cX1_setHands 2 = .ok (.sipush 500, 3) := by decide +kernel
theorem dX1_setHands_5 : decode cX1_setHands 5 = .ok (.invokestatic 44, 3) := by decide +kernel
theorem dX1_setHands_8 : decode cX1_setHands 8 = .ok (.ifCond .ne 6, 3) := by decide +kernel
theorem dX1_setHands_11 : decode cX1_setHands 11 = .ok (.bipush (-2), 2) := by decide +kernel
theorem dX1_setHands_13 : decode cX1_setHands 13 = .ok (.ireturn, 1) := by decide +kernel
theorem dX1_setHands_14 : decode cX1_setHands 14 = .ok (.aload_n 0, 1) := by decide +kernel
theorem dX1_setHands_15 : decode cX1_setHands 15 = .ok (.getfield 19, 3) := by decide +kernel
theorem dX1_setHands_18 : decode cX1_setHands 18 = .ok (.istore_n 2, 1) := by decide +kernel
theorem dX1_setHands_19 : decode cX1_setHands 19 = .ok (.aload_n 0, 1) := by decide +kernel
theorem dX1_setHands_20 : decode cX1_setHands 20 = .ok (.iload_n 1, 1) := by decide +kernel
theorem dX1_setHands_21 : decode cX1_setHands 21 = .ok (.putfield 19, 3) := by decide +kernel
theorem dX1_setHands_24 : decode cX1_setHands 24 = .ok (.iload_n 2, 1) := by decide +kernel
theorem dX1_setHands_25 : decode cX1_setHands 25 = .ok (.ireturn, 1) := by decide +kernel
set_option maxRecDepth 20000 in
theorem ggX1_setFrost_X4_isWithin : GoodIn wsX1_setFrost wsX4_isWithin := goodIn_r _ [5] (by decide +kernel) (by decide +kernel)
set_option maxRecDepth 20000 in
theorem gX1_setFrost_X4_isWithin_n44 : GoodIn wsX1_setFrost (wsX4_isWithin) := ggX1_setFrost_X4_isWithin
set_option maxRecDepth 20000 in
theorem ggX1_setFrost_X4_oneIf : GoodIn wsX1_setFrost wsX4_oneIf := goodIn_r _ [7] (by decide +kernel) (by decide +kernel)
set_option maxRecDepth 20000 in
theorem gX1_setFrost_X4_oneIf_n54 : GoodIn wsX1_setFrost (wsX4_oneIf) := ggX1_setFrost_X4_oneIf
theorem dX1_setFrost_0 : decode cX1_setFrost 0 = .ok (.iload_n 1, 1) := by decide +kernel
theorem dX1_setFrost_1 : decode cX1_setFrost 1 = .ok (.iconst 0, 1) := by decide +kernel
theorem dX1_setFrost_2 : decode cX1_setFrost 2 = .ok (.sipush 199, 3) := by decide +kernel
theorem dX1_setFrost_5 : decode cX1_setFrost 5 = .ok (.invokestatic 44, 3) := by decide +kernel
theorem dX1_setFrost_8 : decode cX1_setFrost 8 = .ok (.ifCond .ne 6, 3) := by decide +kernel
theorem dX1_setFrost_11 : decode cX1_setFrost 11 = .ok (.bipush (-2), 2) := by decide +kernel
theorem dX1_setFrost_13 : decode cX1_setFrost 13 = .ok (.ireturn, 1) := by decide +kernel
theorem dX1_setFrost_14 : decode cX1_setFrost 14 = .ok (.iload_n 1, 1) := by decide +kernel
theorem dX1_setFrost_15 : decode cX1_setFrost 15 = .ok (.aload_n 0, 1) := by decide +kernel
theorem dX1_setFrost_16 : decode cX1_setFrost 16 = .ok (.getfield 51, 3) := by decide +kernel
theorem dX1_setFrost_19 : decode cX1_setFrost 19 = .ok (.if_icmp .ge 6, 3) := by decide +kernel
theorem dX1_setFrost_22 : decode cX1_setFrost 22 = .ok (.bipush (-5), 2) := by decide +kernel
theorem dX1_setFrost_24 : decode cX1_setFrost 24 = .ok (.ireturn, 1) := by decide +kernel
theorem dX1_setFrost_25 : decode cX1_setFrost 25 = .ok (.aload_n 0, 1) := by decide +kernel
theorem dX1_setFrost_26 : decode cX1_setFrost 26 = .ok (.getfield 15, 3) := by decide +kernel
theorem dX1_setFrost_29 : decode cX1_setFrost 29 = .ok (.iload_n 1, 1) := by decide +kernel
theorem dX1_setFrost_30 : decode cX1_setFrost 30 = .ok (.baload, 1) := by decide +kernel
theorem dX1_setFrost_31 : decode cX1_setFrost 31 = .ok (.invokestatic 54, 3) := by decide +kernel
theorem dX1_setFrost_34 : decode cX1_setFrost 34 = .ok (.istore_n 3, 1) := by decide +kernel
theorem dX1_setFrost_35 : decode cX1_setFrost 35 = .ok (.aload_n 0, 1) := by decide +kernel
theorem dX1_setFrost_36 : decode cX1_setFrost 36 = .ok (.getfield 15, 3) := by decide +kernel
theorem dX1_setFrost_39 : decode cX1_setFrost 39 = .ok (.iload_n 1, 1) := by decide +kernel
theorem dX1_setFrost_40 : decode cX1_setFrost 40 = .ok (.iload_n 2, 1) := by decide +kernel
theorem dX1_setFrost_41 : decode cX1_setFrost 41 = .ok (.bastore, 1) := by decide +kernel
theorem dX1_setFrost_42 : decode cX1_setFrost 42 = .ok (.iload_n 3, 1) := by decide +kernel
theorem dX1_setFrost_43 : decode cX1_setFrost 43 = .ok (.ireturn, 1) := by decide +kernel
set_option maxRecDepth 20000 in
theorem ggX1_goWeek_X1_passWeek : GoodIn wsX1_goWeek wsX1_passWeek := goodIn_r _ [9, 10, 11, 12, 13, 14, 15, 16, 8, 17, 18, 19, 20, 21, 22, 23, 24, 25, 26, 27, 28, 29, 30, 31, 32, 33, 34, 35, 36, 37, 38, 39, 40, 41, 42, 43] (by decide +kernel) (by decide +kernel)
set_option maxRecDepth 20000 in
theorem gX1_goWeek_X1_passWeek : GoodIn wsX1_goWeek (wsV RX1 58 RX1 yX1_passWeek wsX1_passWeek) := goodIn_app (goodIn_of _ (by decide +kernel)) ggX1_goWeek_X1_passWeek
theorem dX1_goWeek_0 : decode cX1_goWeek 0 = .ok (.aload_n 0, 1) := by decide +kernel
theorem dX1_goWeek_1 : decode cX1_goWeek 1 = .ok (.getfield 51, 3) := by decide +kernel
theorem dX1_goWeek_4 : decode cX1_goWeek 4 = .ok (.sipush 200, 3) := by decide +kernel
theorem dX1_goWeek_7 : decode cX1_goWeek 7 = .ok (.if_icmp .lt 6, 3) := by decide +kernel
theorem dX1_goWeek_10 : decode cX1_goWeek 10 = .ok (.bipush (-3), 2) := by decide +kernel
theorem dX1_goWeek_12 : decode cX1_goWeek 12 = .ok (.ireturn, 1) := by decide +kernel
theorem dX1_goWeek_13 : decode cX1_goWeek 13 = .ok (.aload_n 0, 1) := by decide +kernel
theorem dX1_goWeek_14 : decode cX1_goWeek 14 = .ok (.aload_n 0, 1) := by decide +kernel
theorem dX1_goWeek_15 : decode cX1_goWeek 15 = .ok (.getfield 51, 3) := by decide +kernel
theorem dX1_goWeek_18 : decode cX1_goWeek 18 = .ok (.aload_n 0, 1) := by decide +kernel
theorem dX1_goWeek_19 : decode cX1_goWeek 19 = .ok (.getfield 19, 3) := by decide +kernel
theorem dX1_goWeek_22 : decode cX1_goWeek 22 = .ok (.aload_n 0, 1) := by decide +kernel
theorem dX1_goWeek_23 : decode cX1_goWeek 23 = .ok (.getfield 32, 3) := by decide +kernel
theorem dX1_goWeek_26 : decode cX1_goWeek 26 = .ok (.aload_n 0, 1) := by decide +kernel
theorem dX1_goWeek_27 : decode cX1_goWeek 27 = .ok (.getfield 35, 3) := by decide +kernel
theorem dX1_goWeek_30 : decode cX1_goWeek 30 = .ok (.invokevirtual 58, 3) := by decide +kernel
theorem dX1_goWeek_33 : decode cX1_goWeek 33 = .ok (.istore_n 1, 1) := by decide +kernel
theorem dX1_goWeek_34 : decode cX1_goWeek 34 = .ok (.aload_n 0, 1) := by decide +kernel
theorem dX1_goWeek_35 : decode cX1_goWeek 35 = .ok (.dup, 1) := by decide +kernel
theorem dX1_goWeek_36 : decode cX1_goWeek 36 = .ok (.getfield 51, 3) := by decide +kernel
theorem dX1_goWeek_39 : decode cX1_goWeek 39 = .ok (.iconst 1, 1) := by decide +kernel
theorem dX1_goWeek_40 : decode cX1_goWeek 40 = .ok (.iadd, 1) := by decide +kernel
theorem dX1_goWeek_41 : decode cX1_goWeek 41 = .ok (.putfield 51, 3) := by decide +kernel
theorem dX1_goWeek_44 : decode cX1_goWeek 44 = .ok (.iload_n 1, 1) := by decide +kernel
theorem dX1_goWeek_45 : decode cX1_goWeek 45 = .ok (.ireturn, 1) := by decide +kernel
set_option maxRecDepth 20000 in
theorem ggX1_leastForetold_X4_isWithin : GoodIn wsX1_leastForetold wsX4_isWithin := goodIn_r _ [9] (by decide +kernel) (by decide +kernel)
set_option maxRecDepth 20000 in
theorem gX1_leastForetold_X4_isWithin_n44 : GoodIn wsX1_leastForetold (wsX4_isWithin) := ggX1_leastForetold_X4_isWithin
set_option maxRecDepth 20000 in
theorem ggX1_leastForetold_X1_foresee : GoodIn wsX1_leastForetold wsX1_foresee := goodIn_r _ [14, 15, 16, 2, 17, 18, 19, 20, 4, 21, 1, 22, 23, 24, 25, 13, 26, 27, 28, 29, 30, 31, 32, 33, 34, 35, 36, 37, 38, 39, 40, 41, 42, 43, 44, 45, 46, 5, 6, 47, 48, 49, 50, 51, 52, 53, 54, 55, 56, 57, 58, 59, 60, 61, 62] (by decide +kernel) (by decide +kernel)
set_option maxRecDepth 20000 in
theorem gX1_leastForetold_X1_foresee : GoodIn wsX1_leastForetold (wsV RX1 62 RX1 yX1_foresee wsX1_foresee) := goodIn_app (goodIn_of _ (by decide +kernel)) ggX1_leastForetold_X1_foresee
theorem dX1_leastForetold_0 : decode cX1_leastForetold 0 = .ok (.iload_n 1, 1) := by decide +kernel
theorem dX1_leastForetold_1 : decode cX1_leastForetold 1 = .ok (.iconst 1, 1) := by decide +kernel
theorem dX1_leastForetold_2 : decode cX1_leastForetold 2 = .ok (.bipush 52, 2) := by decide +kernel
theorem dX1_leastForetold_4 : decode cX1_leastForetold 4 = .ok (.invokestatic 44, 3) := by decide +kernel
theorem dX1_leastForetold_7 : decode cX1_leastForetold 7 = .ok (.ifCond .eq 12, 3) := by decide +kernel
theorem dX1_leastForetold_10 : decode cX1_leastForetold 10 = .ok (.iload_n 2, 1) := by decide +kernel
theorem dX1_leastForetold_11 : decode cX1_leastForetold 11 = .ok (.iconst 0, 1) := by decide +kernel
theorem dX1_leastForetold_12 : decode cX1_leastForetold 12 = .ok (.iconst 2, 1) := by decide +kernel
theorem dX1_leastForetold_13 : decode cX1_leastForetold 13 = .ok (.invokestatic 44, 3) := by decide +kernel
theorem dX1_leastForetold_16 : decode cX1_leastForetold 16 = .ok (.ifCond .ne 6, 3) := by decide +kernel
theorem dX1_leastForetold_19 : decode cX1_leastForetold 19 = .ok (.bipush (-2), 2) := by decide +kernel
theorem dX1_leastForetold_21 : decode cX1_leastForetold 21 = .ok (.ireturn, 1) := by decide +kernel
theorem dX1_leastForetold_22 : decode cX1_leastForetold 22 = .ok (.aload_n 0, 1) := by decide +kernel
theorem dX1_leastForetold_23 : decode cX1_leastForetold 23 = .ok (.getfield 51, 3) := by decide +kernel
theorem dX1_leastForetold_26 : decode cX1_leastForetold 26 = .ok (.iload_n 1, 1) := by decide +kernel
theorem dX1_leastForetold_27 : decode cX1_leastForetold 27 = .ok (.iadd, 1) := by decide +kernel
theorem dX1_leastForetold_28 : decode cX1_leastForetold 28 = .ok (.sipush 200, 3) := by decide +kernel
theorem dX1_leastForetold_31 : decode cX1_leastForetold 31 = .ok (.if_icmp .le 6, 3) := by decide +kernel
theorem dX1_leastForetold_34 : decode cX1_leastForetold 34 = .ok (.bipush (-3), 2) := by decide +kernel
theorem dX1_leastForetold_36 : decode cX1_leastForetold 36 = .ok (.ireturn, 1) := by decide +kernel
theorem dX1_leastForetold_37 : decode cX1_leastForetold 37 = .ok (.aload_n 0, 1) := by decide +kernel
theorem dX1_leastForetold_38 : decode cX1_leastForetold 38 = .ok (.getfield 48, 3) := by decide +kernel
theorem dX1_leastForetold_41 : decode cX1_leastForetold 41 = .ok (.ifCond .ne 6, 3) := by decide +kernel
theorem dX1_leastForetold_44 : decode cX1_leastForetold 44 = .ok (.bipush (-6), 2) := by decide +kernel
theorem dX1_leastForetold_46 : decode cX1_leastForetold 46 = .ok (.ireturn, 1) := by decide +kernel
theorem dX1_leastForetold_47 : decode cX1_leastForetold 47 = .ok (.aload_n 0, 1) := by decide +kernel
theorem dX1_leastForetold_48 : decode cX1_leastForetold 48 = .ok (.iload_n 1, 1) := by decide +kernel
theorem dX1_leastForetold_49 : decode cX1_leastForetold 49 = .ok (.aload_n 0, 1) := by decide +kernel
theorem dX1_leastForetold_50 : decode cX1_leastForetold 50 = .ok (.getfield 19, 3) := by decide +kernel
theorem dX1_leastForetold_53 : decode cX1_leastForetold 53 = .ok (.iconst 0, 1) := by decide +kernel
theorem dX1_leastForetold_54 : decode cX1_leastForetold 54 = .ok (.invokevirtual 62, 3) := by decide +kernel
theorem dX1_leastForetold_57 : decode cX1_leastForetold 57 = .ok (.iload_n 2, 1) := by decide +kernel
theorem dX1_leastForetold_58 : decode cX1_leastForetold 58 = .ok (.lookupswitch 36 #[(0, 26), (1, 31)], 26) := by decide +kernel
theorem dX1_leastForetold_84 : decode cX1_leastForetold 84 = .ok (.aload_n 0, 1) := by decide +kernel
theorem dX1_leastForetold_85 : decode cX1_leastForetold 85 = .ok (.getfield 66, 3) := by decide +kernel
theorem dX1_leastForetold_88 : decode cX1_leastForetold 88 = .ok (.ireturn, 1) := by decide +kernel
theorem dX1_leastForetold_89 : decode cX1_leastForetold 89 = .ok (.aload_n 0, 1) := by decide +kernel
theorem dX1_leastForetold_90 : decode cX1_leastForetold 90 = .ok (.getfield 69, 3) := by decide +kernel
theorem dX1_leastForetold_93 : decode cX1_leastForetold 93 = .ok (.ireturn, 1) := by decide +kernel
theorem dX1_leastForetold_94 : decode cX1_leastForetold 94 = .ok (.aload_n 0, 1) := by decide +kernel
theorem dX1_leastForetold_95 : decode cX1_leastForetold 95 = .ok (.getfield 72, 3) := by decide +kernel
theorem dX1_leastForetold_98 : decode cX1_leastForetold 98 = .ok (.ireturn, 1) := by decide +kernel
set_option maxRecDepth 20000 in
theorem ggX1_fewestHands_X4_isWithin : GoodIn wsX1_fewestHands wsX4_isWithin := goodIn_r _ [7] (by decide +kernel) (by decide +kernel)
set_option maxRecDepth 20000 in
theorem gX1_fewestHands_X4_isWithin_n44 : GoodIn wsX1_fewestHands (wsX4_isWithin) := ggX1_fewestHands_X4_isWithin
set_option maxRecDepth 20000 in
theorem ggX1_fewestHands_X1_foresee : GoodIn wsX1_fewestHands wsX1_foresee := goodIn_r _ [12, 13, 14, 2, 15, 16, 17, 18, 3, 4, 1, 19, 20, 21, 22, 11, 23, 24, 25, 26, 27, 28, 29, 30, 31, 32, 33, 34, 35, 36, 37, 38, 39, 40, 41, 42, 43, 44, 45, 46, 47, 48, 49, 50, 51, 52, 53, 54, 55, 56, 57, 58, 59, 60, 61] (by decide +kernel) (by decide +kernel)
set_option maxRecDepth 20000 in
theorem gX1_fewestHands_X1_foresee : GoodIn wsX1_fewestHands (wsV RX1 62 RX1 yX1_foresee wsX1_foresee) := goodIn_app (goodIn_of _ (by decide +kernel)) ggX1_fewestHands_X1_foresee
theorem dX1_fewestHands_0 : decode cX1_fewestHands 0 = .ok (.iload_n 1, 1) := by decide +kernel
theorem dX1_fewestHands_1 : decode cX1_fewestHands 1 = .ok (.iconst 1, 1) := by decide +kernel
theorem dX1_fewestHands_2 : decode cX1_fewestHands 2 = .ok (.bipush 52, 2) := by decide +kernel
theorem dX1_fewestHands_4 : decode cX1_fewestHands 4 = .ok (.invokestatic 44, 3) := by decide +kernel
theorem dX1_fewestHands_7 : decode cX1_fewestHands 7 = .ok (.ifCond .eq 13, 3) := by decide +kernel
theorem dX1_fewestHands_10 : decode cX1_fewestHands 10 = .ok (.iload_n 2, 1) := by decide +kernel
theorem dX1_fewestHands_11 : decode cX1_fewestHands 11 = .ok (.iconst 0, 1) := by decide +kernel
theorem dX1_fewestHands_12 : decode cX1_fewestHands 12 = .ok (.bipush 100, 2) := by decide +kernel
theorem dX1_fewestHands_14 : decode cX1_fewestHands 14 = .ok (.invokestatic 44, 3) := by decide +kernel
theorem dX1_fewestHands_17 : decode cX1_fewestHands 17 = .ok (.ifCond .ne 6, 3) := by decide +kernel
theorem dX1_fewestHands_20 : decode cX1_fewestHands 20 = .ok (.bipush (-2), 2) := by decide +kernel
theorem dX1_fewestHands_22 : decode cX1_fewestHands 22 = .ok (.ireturn, 1) := by decide +kernel
theorem dX1_fewestHands_23 : decode cX1_fewestHands 23 = .ok (.aload_n 0, 1) := by decide +kernel
theorem dX1_fewestHands_24 : decode cX1_fewestHands 24 = .ok (.getfield 51, 3) := by decide +kernel
theorem dX1_fewestHands_27 : decode cX1_fewestHands 27 = .ok (.iload_n 1, 1) := by decide +kernel
theorem dX1_fewestHands_28 : decode cX1_fewestHands 28 = .ok (.iadd, 1) := by decide +kernel
theorem dX1_fewestHands_29 : decode cX1_fewestHands 29 = .ok (.sipush 200, 3) := by decide +kernel
theorem dX1_fewestHands_32 : decode cX1_fewestHands 32 = .ok (.if_icmp .le 6, 3) := by decide +kernel
theorem dX1_fewestHands_35 : decode cX1_fewestHands 35 = .ok (.bipush (-3), 2) := by decide +kernel
theorem dX1_fewestHands_37 : decode cX1_fewestHands 37 = .ok (.ireturn, 1) := by decide +kernel
theorem dX1_fewestHands_38 : decode cX1_fewestHands 38 = .ok (.aload_n 0, 1) := by decide +kernel
theorem dX1_fewestHands_39 : decode cX1_fewestHands 39 = .ok (.getfield 48, 3) := by decide +kernel
theorem dX1_fewestHands_42 : decode cX1_fewestHands 42 = .ok (.ifCond .ne 6, 3) := by decide +kernel
theorem dX1_fewestHands_45 : decode cX1_fewestHands 45 = .ok (.bipush (-6), 2) := by decide +kernel
theorem dX1_fewestHands_47 : decode cX1_fewestHands 47 = .ok (.ireturn, 1) := by decide +kernel
theorem dX1_fewestHands_48 : decode cX1_fewestHands 48 = .ok (.iconst 0, 1) := by decide +kernel
theorem dX1_fewestHands_49 : decode cX1_fewestHands 49 = .ok (.istore_n 3, 1) := by decide +kernel
theorem dX1_fewestHands_50 : decode cX1_fewestHands 50 = .ok (.iconst 0, 1) := by decide +kernel
theorem dX1_fewestHands_51 : decode cX1_fewestHands 51 = .ok (.istore 4, 2) := by decide +kernel
theorem dX1_fewestHands_53 : decode cX1_fewestHands 53 = .ok (.iload 4, 2) := by decide +kernel
theorem dX1_fewestHands_55 : decode cX1_fewestHands 55 = .ok (.sipush 500, 3) := by decide +kernel
theorem dX1_fewestHands_58 : decode cX1_fewestHands 58 = .ok (.if_icmp .gt 42, 3) := by decide +kernel
theorem dX1_fewestHands_61 : decode cX1_fewestHands 61 = .ok (.iload 4, 2) := by decide +kernel
theorem dX1_fewestHands_63 : decode cX1_fewestHands 63 = .ok (.iload_n 3, 1) := by decide +kernel
theorem dX1_fewestHands_64 : decode cX1_fewestHands 64 = .ok (.if_icmp .ne 30, 3) := by decide +kernel
theorem dX1_fewestHands_67 : decode cX1_fewestHands 67 = .ok (.aload_n 0, 1) := by decide +kernel
theorem dX1_fewestHands_68 : decode cX1_fewestHands 68 = .ok (.iload_n 1, 1) := by decide +kernel
theorem dX1_fewestHands_69 : decode cX1_fewestHands 69 = .ok (.iload 4, 2) := by decide +kernel
theorem dX1_fewestHands_71 : decode cX1_fewestHands 71 = .ok (.iload_n 2, 1) := by decide +kernel
theorem dX1_fewestHands_72 : decode cX1_fewestHands 72 = .ok (.invokevirtual 62, 3) := by decide +kernel
theorem dX1_fewestHands_75 : decode cX1_fewestHands 75 = .ok (.aload_n 0, 1) := by decide +kernel
theorem dX1_fewestHands_76 : decode cX1_fewestHands 76 = .ok (.getfield 66, 3) := by decide +kernel
theorem dX1_fewestHands_79 : decode cX1_fewestHands 79 = .ok (.iload_n 2, 1) := by decide +kernel
theorem dX1_fewestHands_80 : decode cX1_fewestHands 80 = .ok (.if_icmp .lt 6, 3) := by decide +kernel
theorem dX1_fewestHands_83 : decode cX1_fewestHands 83 = .ok (.iload 4, 2) := by decide +kernel
theorem dX1_fewestHands_85 : decode cX1_fewestHands 85 = .ok (.ireturn, 1) := by decide +kernel
theorem dX1_fewestHands_86 : decode cX1_fewestHands 86 = .ok (.iload 4, 2) := by decide +kernel
theorem dX1_fewestHands_88 : decode cX1_fewestHands 88 = .ok (.aload_n 0, 1) := by decide +kernel
theorem dX1_fewestHands_89 : decode cX1_fewestHands 89 = .ok (.getfield 75, 3) := by decide +kernel
theorem dX1_fewestHands_92 : decode cX1_fewestHands 92 = .ok (.iadd, 1) := by decide +kernel
theorem dX1_fewestHands_93 : decode cX1_fewestHands 93 = .ok (.istore_n 3, 1) := by decide +kernel
theorem dX1_fewestHands_94 : decode cX1_fewestHands 94 = .ok (.iinc 4 1, 3) := by decide +kernel
theorem dX1_fewestHands_97 : decode cX1_fewestHands 97 = .ok (.goto (-44), 3) := by decide +kernel
theorem dX1_fewestHands_100 : decode cX1_fewestHands 100 = .ok (.bipush (-6), 2) := by decide +kernel
theorem dX1_fewestHands_102 : decode cX1_fewestHands 102 = .ok (.ireturn, 1) := by decide +kernel
set_option maxRecDepth 20000 in
theorem ggX1_foresee_X1_passWeek : GoodIn wsX1_foresee wsX1_passWeek := goodIn_r _ [16, 17, 3, 18, 19, 20, 21, 22, 15, 23, 24, 9, 25, 26, 27, 28, 29, 30, 31, 32, 39, 40, 41, 42, 43, 44, 45, 46, 47, 48, 49, 50, 51, 52, 53, 54] (by decide +kernel) (by decide +kernel)
set_option maxRecDepth 20000 in
theorem gX1_foresee_X1_passWeek : GoodIn wsX1_foresee (wsV RX1 58 RX1 yX1_passWeek wsX1_passWeek) := goodIn_app (goodIn_of _ (by decide +kernel)) ggX1_foresee_X1_passWeek
set_option maxRecDepth 20000 in
theorem ggX1_foresee_X1_keepLeast : GoodIn wsX1_foresee wsX1_keepLeast := goodIn_r _ [36, 3, 2, 8, 37, 38, 39, 40, 41, 42, 43, 44, 45, 46, 47, 48, 49, 50, 51, 52, 53, 54] (by decide +kernel) (by decide +kernel)
set_option maxRecDepth 20000 in
theorem gX1_foresee_X1_keepLeast : GoodIn wsX1_foresee (wsV RX1 84 RX1 yX1_keepLeast wsX1_keepLeast) := goodIn_app (goodIn_of _ (by decide +kernel)) ggX1_foresee_X1_keepLeast
theorem dX1_foresee_0 : decode cX1_foresee 0 = .ok (.aload_n 0, 1) := by decide +kernel
theorem dX1_foresee_1 : decode cX1_foresee 1 = .ok (.getfield 32, 3) := by decide +kernel
theorem dX1_foresee_4 : decode cX1_foresee 4 = .ok (.iconst 0, 1) := by decide +kernel
theorem dX1_foresee_5 : decode cX1_foresee 5 = .ok (.aload_n 0, 1) := by decide +kernel
theorem dX1_foresee_6 : decode cX1_foresee 6 = .ok (.getfield 38, 3) := by decide +kernel
theorem dX1_foresee_9 : decode cX1_foresee 9 = .ok (.iconst 0, 1) := by decide +kernel
theorem dX1_foresee_10 : decode cX1_foresee 10 = .ok (.aload_n 0, 1) := by decide +kernel
theorem dX1_foresee_11 : decode cX1_foresee 11 = .ok (.getfield 48, 3) := by decide +kernel
theorem dX1_foresee_14 : decode cX1_foresee 14 = .ok (.invokestatic 78, 3) := by decide +kernel
theorem dX1_foresee_17 : decode cX1_foresee 17 = .ok (.aload_n 0, 1) := by decide +kernel
theorem dX1_foresee_18 : decode cX1_foresee 18 = .ok (.bipush 101, 2) := by decide +kernel
theorem dX1_foresee_20 : decode cX1_foresee 20 = .ok (.putfield 66, 3) := by decide +kernel
theorem dX1_foresee_23 : decode cX1_foresee 23 = .ok (.aload_n 0, 1) := by decide +kernel
theorem dX1_foresee_24 : decode cX1_foresee 24 = .ok (.sipush 501, 3) := by decide +kernel
theorem dX1_foresee_27 : decode cX1_foresee 27 = .ok (.putfield 75, 3) := by decide +kernel
theorem dX1_foresee_30 : decode cX1_foresee 30 = .ok (.aload_n 0, 1) := by decide +kernel
theorem dX1_foresee_31 : decode cX1_foresee 31 = .ok (.getfield 51, 3) := by decide +kernel
theorem dX1_foresee_34 : decode cX1_foresee 34 = .ok (.istore 4, 2) := by decide +kernel
theorem dX1_foresee_36 : decode cX1_foresee 36 = .ok (.iload 4, 2) := by decide +kernel
theorem dX1_foresee_38 : decode cX1_foresee 38 = .ok (.aload_n 0, 1) := by decide +kernel
theorem dX1_foresee_39 : decode cX1_foresee 39 = .ok (.getfield 51, 3) := by decide +kernel
theorem dX1_foresee_42 : decode cX1_foresee 42 = .ok (.iload_n 1, 1) := by decide +kernel
theorem dX1_foresee_43 : decode cX1_foresee 43 = .ok (.iadd, 1) := by decide +kernel
theorem dX1_foresee_44 : decode cX1_foresee 44 = .ok (.if_icmp .ge 39, 3) := by decide +kernel
theorem dX1_foresee_47 : decode cX1_foresee 47 = .ok (.aload_n 0, 1) := by decide +kernel
theorem dX1_foresee_48 : decode cX1_foresee 48 = .ok (.getfield 66, 3) := by decide +kernel
theorem dX1_foresee_51 : decode cX1_foresee 51 = .ok (.iload_n 3, 1) := by decide +kernel
theorem dX1_foresee_52 : decode cX1_foresee 52 = .ok (.if_icmp .lt 31, 3) := by decide +kernel
theorem dX1_foresee_55 : decode cX1_foresee 55 = .ok (.aload_n 0, 1) := by decide +kernel
theorem dX1_foresee_56 : decode cX1_foresee 56 = .ok (.iload 4, 2) := by decide +kernel
theorem dX1_foresee_58 : decode cX1_foresee 58 = .ok (.iload_n 2, 1) := by decide +kernel
theorem dX1_foresee_59 : decode cX1_foresee 59 = .ok (.aload_n 0, 1) := by decide +kernel
theorem dX1_foresee_60 : decode cX1_foresee 60 = .ok (.getfield 38, 3) := by decide +kernel
theorem dX1_foresee_63 : decode cX1_foresee 63 = .ok (.aload_n 0, 1) := by decide +kernel
theorem dX1_foresee_64 : decode cX1_foresee 64 = .ok (.getfield 41, 3) := by decide +kernel
theorem dX1_foresee_67 : decode cX1_foresee 67 = .ok (.invokevirtual 58, 3) := by decide +kernel
theorem dX1_foresee_70 : decode cX1_foresee 70 = .ok (.pop, 1) := by decide +kernel
theorem dX1_foresee_71 : decode cX1_foresee 71 = .ok (.aload_n 0, 1) := by decide +kernel
theorem dX1_foresee_72 : decode cX1_foresee 72 = .ok (.iload 4, 2) := by decide +kernel
theorem dX1_foresee_74 : decode cX1_foresee 74 = .ok (.invokevirtual 84, 3) := by decide +kernel
theorem dX1_foresee_77 : decode cX1_foresee 77 = .ok (.iinc 4 1, 3) := by decide +kernel
theorem dX1_foresee_80 : decode cX1_foresee 80 = .ok (.goto (-44), 3) := by decide +kernel
theorem dX1_foresee_83 : decode cX1_foresee 83 = .ok (.return_, 1) := by decide +kernel
theorem dX1_keepLeast_0 : decode cX1_keepLeast 0 = .ok (.iconst 0, 1) := by decide +kernel
theorem dX1_keepLeast_1 : decode cX1_keepLeast 1 = .ok (.istore_n 2, 1) := by decide +kernel
theorem dX1_keepLeast_2 : decode cX1_keepLeast 2 = .ok (.iload_n 2, 1) := by decide +kernel
theorem dX1_keepLeast_3 : decode cX1_keepLeast 3 = .ok (.aload_n 0, 1) := by decide +kernel
theorem dX1_keepLeast_4 : decode cX1_keepLeast 4 = .ok (.getfield 48, 3) := by decide +kernel
theorem dX1_keepLeast_7 : decode cX1_keepLeast 7 = .ok (.if_icmp .ge 42, 3) := by decide +kernel
theorem dX1_keepLeast_10 : decode cX1_keepLeast 10 = .ok (.aload_n 0, 1) := by decide +kernel
theorem dX1_keepLeast_11 : decode cX1_keepLeast 11 = .ok (.getfield 38, 3) := by decide +kernel
theorem dX1_keepLeast_14 : decode cX1_keepLeast 14 = .ok (.iload_n 2, 1) := by decide +kernel
theorem dX1_keepLeast_15 : decode cX1_keepLeast 15 = .ok (.iaload, 1) := by decide +kernel
theorem dX1_keepLeast_16 : decode cX1_keepLeast 16 = .ok (.aload_n 0, 1) := by decide +kernel
theorem dX1_keepLeast_17 : decode cX1_keepLeast 17 = .ok (.getfield 66, 3) := by decide +kernel
theorem dX1_keepLeast_20 : decode cX1_keepLeast 20 = .ok (.if_icmp .ge 23, 3) := by decide +kernel
theorem dX1_keepLeast_23 : decode cX1_keepLeast 23 = .ok (.aload_n 0, 1) := by decide +kernel
theorem dX1_keepLeast_24 : decode cX1_keepLeast 24 = .ok (.aload_n 0, 1) := by decide +kernel
theorem dX1_keepLeast_25 : decode cX1_keepLeast 25 = .ok (.getfield 38, 3) := by decide +kernel
theorem dX1_keepLeast_28 : decode cX1_keepLeast 28 = .ok (.iload_n 2, 1) := by decide +kernel
theorem dX1_keepLeast_29 : decode cX1_keepLeast 29 = .ok (.iaload, 1) := by decide +kernel
theorem dX1_keepLeast_30 : decode cX1_keepLeast 30 = .ok (.putfield 66, 3) := by decide +kernel
theorem dX1_keepLeast_33 : decode cX1_keepLeast 33 = .ok (.aload_n 0, 1) := by decide +kernel
theorem dX1_keepLeast_34 : decode cX1_keepLeast 34 = .ok (.iload_n 1, 1) := by decide +kernel
theorem dX1_keepLeast_35 : decode cX1_keepLeast 35 = .ok (.putfield 69, 3) := by decide +kernel
theorem dX1_keepLeast_38 : decode cX1_keepLeast 38 = .ok (.aload_n 0, 1) := by decide +kernel
theorem dX1_keepLeast_39 : decode cX1_keepLeast 39 = .ok (.iload_n 2, 1) := by decide +kernel
theorem dX1_keepLeast_40 : decode cX1_keepLeast 40 = .ok (.putfield 72, 3) := by decide +kernel
theorem dX1_keepLeast_43 : decode cX1_keepLeast 43 = .ok (.iinc 2 1, 3) := by decide +kernel
theorem dX1_keepLeast_46 : decode cX1_keepLeast 46 = .ok (.goto (-44), 3) := by decide +kernel
theorem dX1_keepLeast_49 : decode cX1_keepLeast 49 = .ok (.return_, 1) := by decide +kernel
set_option maxRecDepth 20000 in
theorem ggX1_passWeek_X1_paintWalls : GoodIn wsX1_passWeek wsX1_paintWalls := goodIn_r _ [9, 2, 10, 11, 12, 13, 14, 15, 16, 17, 18, 8, 19, 20, 21, 22, 23, 24, 25, 26, 27, 28, 29, 30, 31, 32, 33, 34, 35] (by decide +kernel) (by decide +kernel)
set_option maxRecDepth 20000 in
theorem gX1_passWeek_X1_paintWalls : GoodIn wsX1_passWeek (wsV RX1 88 RX1 yX1_paintWalls wsX1_paintWalls) := goodIn_app (goodIn_of _ (by decide +kernel)) ggX1_passWeek_X1_paintWalls
theorem dX1_passWeek_0 : decode cX1_passWeek 0 = .ok (.aload_n 0, 1) := by decide +kernel
theorem dX1_passWeek_1 : decode cX1_passWeek 1 = .ok (.getfield 15, 3) := by decide +kernel
theorem dX1_passWeek_4 : decode cX1_passWeek 4 = .ok (.iload_n 1, 1) := by decide +kernel
theorem dX1_passWeek_5 : decode cX1_passWeek 5 = .ok (.baload, 1) := by decide +kernel
theorem dX1_passWeek_6 : decode cX1_passWeek 6 = .ok (.ifCond .eq 7, 3) := by decide +kernel
theorem dX1_passWeek_9 : decode cX1_passWeek 9 = .ok (.iconst 0, 1) := by decide +kernel
theorem dX1_passWeek_10 : decode cX1_passWeek 10 = .ok (.goto 11, 3) := by decide +kernel
theorem dX1_passWeek_13 : decode cX1_passWeek 13 = .ok (.aload_n 0, 1) := by decide +kernel
theorem dX1_passWeek_14 : decode cX1_passWeek 14 = .ok (.iload_n 2, 1) := by decide +kernel
theorem dX1_passWeek_15 : decode cX1_passWeek 15 = .ok (.aload_n 3, 1) := by decide +kernel
theorem dX1_passWeek_16 : decode cX1_passWeek 16 = .ok (.aload 4, 2) := by decide +kernel
theorem dX1_passWeek_18 : decode cX1_passWeek 18 = .ok (.invokevirtual 88, 3) := by decide +kernel
theorem dX1_passWeek_21 : decode cX1_passWeek 21 = .ok (.istore 5, 2) := by decide +kernel
theorem dX1_passWeek_23 : decode cX1_passWeek 23 = .ok (.iconst 0, 1) := by decide +kernel
theorem dX1_passWeek_24 : decode cX1_passWeek 24 = .ok (.istore 6, 2) := by decide +kernel
theorem dX1_passWeek_26 : decode cX1_passWeek 26 = .ok (.iload 6, 2) := by decide +kernel
theorem dX1_passWeek_28 : decode cX1_passWeek 28 = .ok (.aload_n 0, 1) := by decide +kernel
theorem dX1_passWeek_29 : decode cX1_passWeek 29 = .ok (.getfield 48, 3) := by decide +kernel
theorem dX1_passWeek_32 : decode cX1_passWeek 32 = .ok (.if_icmp .ge 43, 3) := by decide +kernel
theorem dX1_passWeek_35 : decode cX1_passWeek 35 = .ok (.aload_n 3, 1) := by decide +kernel
theorem dX1_passWeek_36 : decode cX1_passWeek 36 = .ok (.iload 6, 2) := by decide +kernel
theorem dX1_passWeek_38 : decode cX1_passWeek 38 = .ok (.iaload, 1) := by decide +kernel
theorem dX1_passWeek_39 : decode cX1_passWeek 39 = .ok (.aload_n 0, 1) := by decide +kernel
theorem dX1_passWeek_40 : decode cX1_passWeek 40 = .ok (.getfield 11, 3) := by decide +kernel
theorem dX1_passWeek_43 : decode cX1_passWeek 43 = .ok (.aload_n 0, 1) := by decide +kernel
theorem dX1_passWeek_44 : decode cX1_passWeek 44 = .ok (.getfield 26, 3) := by decide +kernel
theorem dX1_passWeek_47 : decode cX1_passWeek 47 = .ok (.iload 6, 2) := by decide +kernel
theorem dX1_passWeek_49 : decode cX1_passWeek 49 = .ok (.iaload, 1) := by decide +kernel
theorem dX1_passWeek_50 : decode cX1_passWeek 50 = .ok (.iaload, 1) := by decide +kernel
theorem dX1_passWeek_51 : decode cX1_passWeek 51 = .ok (.isub, 1) := by decide +kernel
theorem dX1_passWeek_52 : decode cX1_passWeek 52 = .ok (.istore 7, 2) := by decide +kernel
theorem dX1_passWeek_54 : decode cX1_passWeek 54 = .ok (.aload_n 3, 1) := by decide +kernel
theorem dX1_passWeek_55 : decode cX1_passWeek 55 = .ok (.iload 6, 2) := by decide +kernel
theorem dX1_passWeek_57 : decode cX1_passWeek 57 = .ok (.iload 7, 2) := by decide +kernel
theorem dX1_passWeek_59 : decode cX1_passWeek 59 = .ok (.ifCond .le 8, 3) := by decide +kernel
theorem dX1_passWeek_62 : decode cX1_passWeek 62 = .ok (.iload 7, 2) := by decide +kernel
theorem dX1_passWeek_64 : decode cX1_passWeek 64 = .ok (.goto 4, 3) := by decide +kernel
theorem dX1_passWeek_67 : decode cX1_passWeek 67 = .ok (.iconst 0, 1) := by decide +kernel
theorem dX1_passWeek_68 : decode cX1_passWeek 68 = .ok (.iastore, 1) := by decide +kernel
theorem dX1_passWeek_69 : decode cX1_passWeek 69 = .ok (.iinc 6 1, 3) := by decide +kernel
theorem dX1_passWeek_72 : decode cX1_passWeek 72 = .ok (.goto (-46), 3) := by decide +kernel
theorem dX1_passWeek_75 : decode cX1_passWeek 75 = .ok (.iload 5, 2) := by decide +kernel
theorem dX1_passWeek_77 : decode cX1_passWeek 77 = .ok (.ireturn, 1) := by decide +kernel
set_option maxRecDepth 20000 in
theorem ggX1_paintWalls_X1_mostFaded : GoodIn wsX1_paintWalls wsX1_mostFaded := goodIn_r _ [12, 1, 13, 14, 15, 16, 17, 18, 19, 20, 21, 22, 23, 24, 25, 26, 27, 28] (by decide +kernel) (by decide +kernel)
set_option maxRecDepth 20000 in
theorem gX1_paintWalls_X1_mostFaded : GoodIn wsX1_paintWalls (wsV RX1 92 RX1 yX1_mostFaded wsX1_mostFaded) := goodIn_app (goodIn_of _ (by decide +kernel)) ggX1_paintWalls_X1_mostFaded
theorem dX1_paintWalls_0 : decode cX1_paintWalls 0 = .ok (.iload_n 1, 1) := by decide +kernel
theorem dX1_paintWalls_1 : decode cX1_paintWalls 1 = .ok (.istore 4, 2) := by decide +kernel
theorem dX1_paintWalls_3 : decode cX1_paintWalls 3 = .ok (.iconst 0, 1) := by decide +kernel
theorem dX1_paintWalls_4 : decode cX1_paintWalls 4 = .ok (.istore 5, 2) := by decide +kernel
theorem dX1_paintWalls_6 : decode cX1_paintWalls 6 = .ok (.iload 5, 2) := by decide +kernel
theorem dX1_paintWalls_8 : decode cX1_paintWalls 8 = .ok (.aload_n 0, 1) := by decide +kernel
theorem dX1_paintWalls_9 : decode cX1_paintWalls 9 = .ok (.getfield 48, 3) := by decide +kernel
theorem dX1_paintWalls_12 : decode cX1_paintWalls 12 = .ok (.if_icmp .ge 88, 3) := by decide +kernel
theorem dX1_paintWalls_15 : decode cX1_paintWalls 15 = .ok (.aload_n 0, 1) := by decide +kernel
theorem dX1_paintWalls_16 : decode cX1_paintWalls 16 = .ok (.aload_n 2, 1) := by decide +kernel
theorem dX1_paintWalls_17 : decode cX1_paintWalls 17 = .ok (.invokevirtual 92, 3) := by decide +kernel
theorem dX1_paintWalls_20 : decode cX1_paintWalls 20 = .ok (.istore 6, 2) := by decide +kernel
theorem dX1_paintWalls_22 : decode cX1_paintWalls 22 = .ok (.iload 6, 2) := by decide +kernel
theorem dX1_paintWalls_24 : decode cX1_paintWalls 24 = .ok (.bipush (-6), 2) := by decide +kernel
theorem dX1_paintWalls_26 : decode cX1_paintWalls 26 = .ok (.if_icmp .ne 6, 3) := by decide +kernel
theorem dX1_paintWalls_29 : decode cX1_paintWalls 29 = .ok (.iload 5, 2) := by decide +kernel
theorem dX1_paintWalls_31 : decode cX1_paintWalls 31 = .ok (.ireturn, 1) := by decide +kernel
theorem dX1_paintWalls_32 : decode cX1_paintWalls 32 = .ok (.aload_n 0, 1) := by decide +kernel
theorem dX1_paintWalls_33 : decode cX1_paintWalls 33 = .ok (.getfield 29, 3) := by decide +kernel
theorem dX1_paintWalls_36 : decode cX1_paintWalls 36 = .ok (.iload 6, 2) := by decide +kernel
theorem dX1_paintWalls_38 : decode cX1_paintWalls 38 = .ok (.iaload, 1) := by decide +kernel
theorem dX1_paintWalls_39 : decode cX1_paintWalls 39 = .ok (.iload 4, 2) := by decide +kernel
theorem dX1_paintWalls_41 : decode cX1_paintWalls 41 = .ok (.if_icmp .le 27, 3) := by decide +kernel
theorem dX1_paintWalls_44 : decode cX1_paintWalls 44 = .ok (.aload_n 0, 1) := by decide +kernel
theorem dX1_paintWalls_45 : decode cX1_paintWalls 45 = .ok (.aload_n 0, 1) := by decide +kernel
theorem dX1_paintWalls_46 : decode cX1_paintWalls 46 = .ok (.getfield 75, 3) := by decide +kernel
theorem dX1_paintWalls_49 : decode cX1_paintWalls 49 = .ok (.aload_n 0, 1) := by decide +kernel
theorem dX1_paintWalls_50 : decode cX1_paintWalls 50 = .ok (.getfield 29, 3) := by decide +kernel
theorem dX1_paintWalls_53 : decode cX1_paintWalls 53 = .ok (.iload 6, 2) := by decide +kernel
theorem dX1_paintWalls_55 : decode cX1_paintWalls 55 = .ok (.iaload, 1) := by decide +kernel
theorem dX1_paintWalls_56 : decode cX1_paintWalls 56 = .ok (.iload 4, 2) := by decide +kernel
theorem dX1_paintWalls_58 : decode cX1_paintWalls 58 = .ok (.isub, 1) := by decide +kernel
theorem dX1_paintWalls_59 : decode cX1_paintWalls 59 = .ok (.invokestatic 96, 3) := by decide +kernel
theorem dX1_paintWalls_62 : decode cX1_paintWalls 62 = .ok (.putfield 75, 3) := by decide +kernel
theorem dX1_paintWalls_65 : decode cX1_paintWalls 65 = .ok (.iload 5, 2) := by decide +kernel
theorem dX1_paintWalls_67 : decode cX1_paintWalls 67 = .ok (.ireturn, 1) := by decide +kernel
theorem dX1_paintWalls_68 : decode cX1_paintWalls 68 = .ok (.iload 4, 2) := by decide +kernel
theorem dX1_paintWalls_70 : decode cX1_paintWalls 70 = .ok (.aload_n 0, 1) := by decide +kernel
theorem dX1_paintWalls_71 : decode cX1_paintWalls 71 = .ok (.getfield 29, 3) := by decide +kernel
theorem dX1_paintWalls_74 : decode cX1_paintWalls 74 = .ok (.iload 6, 2) := by decide +kernel
theorem dX1_paintWalls_76 : decode cX1_paintWalls 76 = .ok (.iaload, 1) := by decide +kernel
theorem dX1_paintWalls_77 : decode cX1_paintWalls 77 = .ok (.isub, 1) := by decide +kernel
theorem dX1_paintWalls_78 : decode cX1_paintWalls 78 = .ok (.istore 4, 2) := by decide +kernel
theorem dX1_paintWalls_80 : decode cX1_paintWalls 80 = .ok (.aload_n 2, 1) := by decide +kernel
theorem dX1_paintWalls_81 : decode cX1_paintWalls 81 = .ok (.iload 6, 2) := by decide +kernel
theorem dX1_paintWalls_83 : decode cX1_paintWalls 83 = .ok (.bipush 100, 2) := by decide +kernel
theorem dX1_paintWalls_85 : decode cX1_paintWalls 85 = .ok (.iastore, 1) := by decide +kernel
theorem dX1_paintWalls_86 : decode cX1_paintWalls 86 = .ok (.aload_n 3, 1) := by decide +kernel
theorem dX1_paintWalls_87 : decode cX1_paintWalls 87 = .ok (.iload 6, 2) := by decide +kernel
theorem dX1_paintWalls_89 : decode cX1_paintWalls 89 = .ok (.dup2, 1) := by decide +kernel
theorem dX1_paintWalls_90 : decode cX1_paintWalls 90 = .ok (.iaload, 1) := by decide +kernel
theorem dX1_paintWalls_91 : decode cX1_paintWalls 91 = .ok (.iconst 1, 1) := by decide +kernel
theorem dX1_paintWalls_92 : decode cX1_paintWalls 92 = .ok (.iadd, 1) := by decide +kernel
theorem dX1_paintWalls_93 : decode cX1_paintWalls 93 = .ok (.iastore, 1) := by decide +kernel
theorem dX1_paintWalls_94 : decode cX1_paintWalls 94 = .ok (.iinc 5 1, 3) := by decide +kernel
theorem dX1_paintWalls_97 : decode cX1_paintWalls 97 = .ok (.goto (-91), 3) := by decide +kernel
theorem dX1_paintWalls_100 : decode cX1_paintWalls 100 = .ok (.aload_n 0, 1) := by decide +kernel
theorem dX1_paintWalls_101 : decode cX1_paintWalls 101 = .ok (.getfield 48, 3) := by decide +kernel
theorem dX1_paintWalls_104 : decode cX1_paintWalls 104 = .ok (.ireturn, 1) := by decide +kernel
theorem dX1_mostFaded_0 : decode cX1_mostFaded 0 = .ok (.bipush 100, 2) := by decide +kernel
theorem dX1_mostFaded_2 : decode cX1_mostFaded 2 = .ok (.istore_n 2, 1) := by decide +kernel
theorem dX1_mostFaded_3 : decode cX1_mostFaded 3 = .ok (.bipush (-6), 2) := by decide +kernel
theorem dX1_mostFaded_5 : decode cX1_mostFaded 5 = .ok (.istore_n 3, 1) := by decide +kernel
theorem dX1_mostFaded_6 : decode cX1_mostFaded 6 = .ok (.iconst 0, 1) := by decide +kernel
theorem dX1_mostFaded_7 : decode cX1_mostFaded 7 = .ok (.istore 4, 2) := by decide +kernel
theorem dX1_mostFaded_9 : decode cX1_mostFaded 9 = .ok (.iload 4, 2) := by decide +kernel
theorem dX1_mostFaded_11 : decode cX1_mostFaded 11 = .ok (.aload_n 0, 1) := by decide +kernel
theorem dX1_mostFaded_12 : decode cX1_mostFaded 12 = .ok (.getfield 48, 3) := by decide +kernel
theorem dX1_mostFaded_15 : decode cX1_mostFaded 15 = .ok (.if_icmp .ge 25, 3) := by decide +kernel
theorem dX1_mostFaded_18 : decode cX1_mostFaded 18 = .ok (.aload_n 1, 1) := by decide +kernel
theorem dX1_mostFaded_19 : decode cX1_mostFaded 19 = .ok (.iload 4, 2) := by decide +kernel
theorem dX1_mostFaded_21 : decode cX1_mostFaded 21 = .ok (.iaload, 1) := by decide +kernel
theorem dX1_mostFaded_22 : decode cX1_mostFaded 22 = .ok (.iload_n 2, 1) := by decide +kernel
theorem dX1_mostFaded_23 : decode cX1_mostFaded 23 = .ok (.if_icmp .ge 11, 3) := by decide +kernel
theorem dX1_mostFaded_26 : decode cX1_mostFaded 26 = .ok (.aload_n 1, 1) := by decide +kernel
theorem dX1_mostFaded_27 : decode cX1_mostFaded 27 = .ok (.iload 4, 2) := by decide +kernel
theorem dX1_mostFaded_29 : decode cX1_mostFaded 29 = .ok (.iaload, 1) := by decide +kernel
theorem dX1_mostFaded_30 : decode cX1_mostFaded 30 = .ok (.istore_n 2, 1) := by decide +kernel
theorem dX1_mostFaded_31 : decode cX1_mostFaded 31 = .ok (.iload 4, 2) := by decide +kernel
theorem dX1_mostFaded_33 : decode cX1_mostFaded 33 = .ok (.istore_n 3, 1) := by decide +kernel
theorem dX1_mostFaded_34 : decode cX1_mostFaded 34 = .ok (.iinc 4 1, 3) := by decide +kernel
theorem dX1_mostFaded_37 : decode cX1_mostFaded 37 = .ok (.goto (-28), 3) := by decide +kernel
theorem dX1_mostFaded_40 : decode cX1_mostFaded 40 = .ok (.iload_n 3, 1) := by decide +kernel
theorem dX1_mostFaded_41 : decode cX1_mostFaded 41 = .ok (.ireturn, 1) := by decide +kernel
theorem dX2_init_0 : decode cX2_init 0 = .ok (.aload_n 0, 1) := by decide +kernel
theorem dX2_init_1 : decode cX2_init 1 = .ok (.invokespecial 3, 3) := by decide +kernel
theorem dX2_init_4 : decode cX2_init 4 = .ok (.aload_n 0, 1) := by decide +kernel
theorem dX2_init_5 : decode cX2_init 5 = .ok (.iconst 3, 1) := by decide +kernel
theorem dX2_init_6 : decode cX2_init 6 = .ok (.bipush 12, 2) := by decide +kernel
theorem dX2_init_8 : decode cX2_init 8 = .ok (.multianewarray 11 2, 4) := by decide +kernel
theorem dX2_init_12 : decode cX2_init 12 = .ok (.putfield 13, 3) := by decide +kernel
theorem dX2_init_15 : decode cX2_init 15 = .ok (.aload_n 0, 1) := by decide +kernel
theorem dX2_init_16 : decode cX2_init 16 = .ok (.iconst 3, 1) := by decide +kernel
theorem dX2_init_17 : decode cX2_init 17 = .ok (.newarray .int, 2) := by decide +kernel
theorem dX2_init_19 : decode cX2_init 19 = .ok (.putfield 16, 3) := by decide +kernel
theorem dX2_init_22 : decode cX2_init 22 = .ok (.aload_n 0, 1) := by decide +kernel
theorem dX2_init_23 : decode cX2_init 23 = .ok (.iconst 4, 1) := by decide +kernel
theorem dX2_init_24 : decode cX2_init 24 = .ok (.newarray .int, 2) := by decide +kernel
theorem dX2_init_26 : decode cX2_init 26 = .ok (.putfield 20, 3) := by decide +kernel
theorem dX2_init_29 : decode cX2_init 29 = .ok (.aload_n 0, 1) := by decide +kernel
theorem dX2_init_30 : decode cX2_init 30 = .ok (.iconst 4, 1) := by decide +kernel
theorem dX2_init_31 : decode cX2_init 31 = .ok (.newarray .int, 2) := by decide +kernel
theorem dX2_init_33 : decode cX2_init 33 = .ok (.putfield 23, 3) := by decide +kernel
theorem dX2_init_36 : decode cX2_init 36 = .ok (.aload_n 0, 1) := by decide +kernel
theorem dX2_init_37 : decode cX2_init 37 = .ok (.iconst 4, 1) := by decide +kernel
theorem dX2_init_38 : decode cX2_init 38 = .ok (.newarray .int, 2) := by decide +kernel
theorem dX2_init_40 : decode cX2_init 40 = .ok (.putfield 26, 3) := by decide +kernel
theorem dX2_init_43 : decode cX2_init 43 = .ok (.aload_n 0, 1) := by decide +kernel
theorem dX2_init_44 : decode cX2_init 44 = .ok (.iconst 4, 1) := by decide +kernel
theorem dX2_init_45 : decode cX2_init 45 = .ok (.newarray .int, 2) := by decide +kernel
theorem dX2_init_47 : decode cX2_init 47 = .ok (.putfield 29, 3) := by decide +kernel
theorem dX2_init_50 : decode cX2_init 50 = .ok (.aload_n 0, 1) := by decide +kernel
theorem dX2_init_51 : decode cX2_init 51 = .ok (.iconst 4, 1) := by decide +kernel
theorem dX2_init_52 : decode cX2_init 52 = .ok (.newarray .int, 2) := by decide +kernel
theorem dX2_init_54 : decode cX2_init 54 = .ok (.putfield 32, 3) := by decide +kernel
theorem dX2_init_57 : decode cX2_init 57 = .ok (.aload_n 0, 1) := by decide +kernel
theorem dX2_init_58 : decode cX2_init 58 = .ok (.iconst 4, 1) := by decide +kernel
theorem dX2_init_59 : decode cX2_init 59 = .ok (.newarray .int, 2) := by decide +kernel
theorem dX2_init_61 : decode cX2_init 61 = .ok (.putfield 35, 3) := by decide +kernel
theorem dX2_init_64 : decode cX2_init 64 = .ok (.aload_n 0, 1) := by decide +kernel
theorem dX2_init_65 : decode cX2_init 65 = .ok (.iconst 4, 1) := by decide +kernel
theorem dX2_init_66 : decode cX2_init 66 = .ok (.newarray .boolean, 2) := by decide +kernel
theorem dX2_init_68 : decode cX2_init 68 = .ok (.putfield 38, 3) := by decide +kernel
theorem dX2_init_71 : decode cX2_init 71 = .ok (.return_, 1) := by decide +kernel
theorem dX2_addRing_0 : decode cX2_addRing 0 = .ok (.aload_n 0, 1) := by decide +kernel
theorem dX2_addRing_1 : decode cX2_addRing 1 = .ok (.getfield 42, 3) := by decide +kernel
theorem dX2_addRing_4 : decode cX2_addRing 4 = .ok (.iconst 3, 1) := by decide +kernel
theorem dX2_addRing_5 : decode cX2_addRing 5 = .ok (.if_icmp .lt 6, 3) := by decide +kernel
theorem dX2_addRing_8 : decode cX2_addRing 8 = .ok (.bipush (-4), 2) := by decide +kernel
theorem dX2_addRing_10 : decode cX2_addRing 10 = .ok (.ireturn, 1) := by decide +kernel
theorem dX2_addRing_11 : decode cX2_addRing 11 = .ok (.aload_n 0, 1) := by decide +kernel
theorem dX2_addRing_12 : decode cX2_addRing 12 = .ok (.dup, 1) := by decide +kernel
theorem dX2_addRing_13 : decode cX2_addRing 13 = .ok (.getfield 42, 3) := by decide +kernel
theorem dX2_addRing_16 : decode cX2_addRing 16 = .ok (.iconst 1, 1) := by decide +kernel
theorem dX2_addRing_17 : decode cX2_addRing 17 = .ok (.iadd, 1) := by decide +kernel
theorem dX2_addRing_18 : decode cX2_addRing 18 = .ok (.putfield 42, 3) := by decide +kernel
theorem dX2_addRing_21 : decode cX2_addRing 21 = .ok (.aload_n 0, 1) := by decide +kernel
theorem dX2_addRing_22 : decode cX2_addRing 22 = .ok (.getfield 42, 3) := by decide +kernel
theorem dX2_addRing_25 : decode cX2_addRing 25 = .ok (.iconst 1, 1) := by decide +kernel
theorem dX2_addRing_26 : decode cX2_addRing 26 = .ok (.isub, 1) := by decide +kernel
theorem dX2_addRing_27 : decode cX2_addRing 27 = .ok (.ireturn, 1) := by decide +kernel
set_option maxRecDepth 20000 in
theorem ggX2_addBlock_X2_isRing : GoodIn wsX2_addBlock wsX2_isRing := goodIn_r _ [7, 8, 9, 10, 11, 22, 23, 24, 25, 26, 27, 28, 29, 30, 31, 32, 33] (by decide +kernel) (by decide +kernel)
set_option maxRecDepth 20000 in
theorem gX2_addBlock_X2_isRing : GoodIn wsX2_addBlock (wsV RX2 46 RX2 yX2_isRing wsX2_isRing) := goodIn_app (goodIn_of _ (by decide +kernel)) ggX2_addBlock_X2_isRing
set_option maxRecDepth 20000 in
theorem ggX2_addBlock_X4_isWithin : GoodIn wsX2_addBlock wsX4_isWithin := goodIn_r _ [11] (by decide +kernel) (by decide +kernel)
set_option maxRecDepth 20000 in
theorem gX2_addBlock_X4_isWithin_n50 : GoodIn wsX2_addBlock (wsX4_isWithin) := ggX2_addBlock_X4_isWithin
set_option maxRecDepth 20000 in
theorem ggX2_addBlock_X2_hasTrain : GoodIn wsX2_addBlock wsX2_hasTrain := goodIn_r _ [15, 16, 17, 22, 23, 24, 25, 26, 27, 28, 29, 30, 31, 32, 33] (by decide +kernel) (by decide +kernel)
set_option maxRecDepth 20000 in
theorem gX2_addBlock_X2_hasTrain : GoodIn wsX2_addBlock (wsV RX2 54 RX2 yX2_hasTrain wsX2_hasTrain) := goodIn_app (goodIn_of _ (by decide +kernel)) ggX2_addBlock_X2_hasTrain
set_option maxRecDepth 20000 in
theorem ggX2_addBlock_X2_hasBlock : GoodIn wsX2_addBlock wsX2_hasBlock := goodIn_r _ [21, 1, 2, 22, 23, 24, 25, 26, 27, 28, 29, 30, 31, 32, 33] (by decide +kernel) (by decide +kernel)
set_option maxRecDepth 20000 in
theorem gX2_addBlock_X2_hasBlock : GoodIn wsX2_addBlock (wsV RX2 57 RX2 yX2_hasBlock wsX2_hasBlock) := goodIn_app (goodIn_of _ (by decide +kernel)) ggX2_addBlock_X2_hasBlock
theorem dX2_addBlock_0 : decode cX2_addBlock 0 = .ok (.aload_n 0, 1) := by decide +kernel
theorem dX2_addBlock_1 : decode cX2_addBlock 1 = .ok (.iload_n 1, 1) := by decide +kernel
theorem dX2_addBlock_2 : decode cX2_addBlock 2 = .ok (.invokevirtual 46, 3) := by decide +kernel
theorem dX2_addBlock_5 : decode cX2_addBlock 5 = .ok (.ifCond .ne 5, 3) := by decide +kernel
theorem dX2_addBlock_8 : decode cX2_addBlock 8 = .ok (.iconst (-1), 1) := by decide +kernel
theorem dX2_addBlock_9 : decode cX2_addBlock 9 = .ok (.ireturn, 1) := by decide +kernel
theorem dX2_addBlock_10 : decode cX2_addBlock 10 = .ok (.iload_n 2, 1) := by decide +kernel
theorem dX2_addBlock_11 : decode cX2_addBlock 11 = .ok (.iconst 0, 1) := by decide +kernel
theorem dX2_addBlock_12 : decode cX2_addBlock 12 = .ok (.bipush 29, 2) := by decide +kernel
theorem dX2_addBlock_14 : decode cX2_addBlock 14 = .ok (.invokestatic 50, 3) := by decide +kernel
theorem dX2_addBlock_17 : decode cX2_addBlock 17 = .ok (.ifCond .ne 6, 3) := by decide +kernel
theorem dX2_addBlock_20 : decode cX2_addBlock 20 = .ok (.bipush (-2), 2) := by decide +kernel
theorem dX2_addBlock_22 : decode cX2_addBlock 22 = .ok (.ireturn, 1) := by decide +kernel
theorem dX2_addBlock_23 : decode cX2_addBlock 23 = .ok (.aload_n 0, 1) := by decide +kernel
theorem dX2_addBlock_24 : decode cX2_addBlock 24 = .ok (.iload_n 1, 1) := by decide +kernel
theorem dX2_addBlock_25 : decode cX2_addBlock 25 = .ok (.invokevirtual 54, 3) := by decide +kernel
theorem dX2_addBlock_28 : decode cX2_addBlock 28 = .ok (.ifCond .eq 6, 3) := by decide +kernel
theorem dX2_addBlock_31 : decode cX2_addBlock 31 = .ok (.bipush (-3), 2) := by decide +kernel
theorem dX2_addBlock_33 : decode cX2_addBlock 33 = .ok (.ireturn, 1) := by decide +kernel
theorem dX2_addBlock_34 : decode cX2_addBlock 34 = .ok (.aload_n 0, 1) := by decide +kernel
theorem dX2_addBlock_35 : decode cX2_addBlock 35 = .ok (.getfield 16, 3) := by decide +kernel
theorem dX2_addBlock_38 : decode cX2_addBlock 38 = .ok (.iload_n 1, 1) := by decide +kernel
theorem dX2_addBlock_39 : decode cX2_addBlock 39 = .ok (.iaload, 1) := by decide +kernel
theorem dX2_addBlock_40 : decode cX2_addBlock 40 = .ok (.istore_n 3, 1) := by decide +kernel
theorem dX2_addBlock_41 : decode cX2_addBlock 41 = .ok (.iload_n 3, 1) := by decide +kernel
theorem dX2_addBlock_42 : decode cX2_addBlock 42 = .ok (.bipush 12, 2) := by decide +kernel
theorem dX2_addBlock_44 : decode cX2_addBlock 44 = .ok (.if_icmp .lt 6, 3) := by decide +kernel
theorem dX2_addBlock_47 : decode cX2_addBlock 47 = .ok (.bipush (-4), 2) := by decide +kernel
theorem dX2_addBlock_49 : decode cX2_addBlock 49 = .ok (.ireturn, 1) := by decide +kernel
theorem dX2_addBlock_50 : decode cX2_addBlock 50 = .ok (.aload_n 0, 1) := by decide +kernel
theorem dX2_addBlock_51 : decode cX2_addBlock 51 = .ok (.iload_n 1, 1) := by decide +kernel
theorem dX2_addBlock_52 : decode cX2_addBlock 52 = .ok (.iload_n 2, 1) := by decide +kernel
theorem dX2_addBlock_53 : decode cX2_addBlock 53 = .ok (.invokevirtual 57, 3) := by decide +kernel
theorem dX2_addBlock_56 : decode cX2_addBlock 56 = .ok (.ifCond .eq 6, 3) := by decide +kernel
theorem dX2_addBlock_59 : decode cX2_addBlock 59 = .ok (.bipush (-5), 2) := by decide +kernel
theorem dX2_addBlock_61 : decode cX2_addBlock 61 = .ok (.ireturn, 1) := by decide +kernel
theorem dX2_addBlock_62 : decode cX2_addBlock 62 = .ok (.aload_n 0, 1) := by decide +kernel
theorem dX2_addBlock_63 : decode cX2_addBlock 63 = .ok (.getfield 13, 3) := by decide +kernel
theorem dX2_addBlock_66 : decode cX2_addBlock 66 = .ok (.iload_n 1, 1) := by decide +kernel
theorem dX2_addBlock_67 : decode cX2_addBlock 67 = .ok (.aaload, 1) := by decide +kernel
theorem dX2_addBlock_68 : decode cX2_addBlock 68 = .ok (.iload_n 3, 1) := by decide +kernel
theorem dX2_addBlock_69 : decode cX2_addBlock 69 = .ok (.iload_n 2, 1) := by decide +kernel
theorem dX2_addBlock_70 : decode cX2_addBlock 70 = .ok (.iastore, 1) := by decide +kernel
theorem dX2_addBlock_71 : decode cX2_addBlock 71 = .ok (.aload_n 0, 1) := by decide +kernel
theorem dX2_addBlock_72 : decode cX2_addBlock 72 = .ok (.getfield 16, 3) := by decide +kernel
theorem dX2_addBlock_75 : decode cX2_addBlock 75 = .ok (.iload_n 1, 1) := by decide +kernel
theorem dX2_addBlock_76 : decode cX2_addBlock 76 = .ok (.iload_n 3, 1) := by decide +kernel
theorem dX2_addBlock_77 : decode cX2_addBlock 77 = .ok (.iconst 1, 1) := by decide +kernel
theorem dX2_addBlock_78 : decode cX2_addBlock 78 = .ok (.iadd, 1) := by decide +kernel
theorem dX2_addBlock_79 : decode cX2_addBlock 79 = .ok (.iastore, 1) := by decide +kernel
theorem dX2_addBlock_80 : decode cX2_addBlock 80 = .ok (.iload_n 3, 1) := by decide +kernel
theorem dX2_addBlock_81 : decode cX2_addBlock 81 = .ok (.iconst 1, 1) := by decide +kernel
theorem dX2_addBlock_82 : decode cX2_addBlock 82 = .ok (.iadd, 1) := by decide +kernel
theorem dX2_addBlock_83 : decode cX2_addBlock 83 = .ok (.ireturn, 1) := by decide +kernel
set_option maxRecDepth 20000 in
theorem ggX2_addTrain_X2_isRing : GoodIn wsX2_addTrain wsX2_isRing := goodIn_r _ [11, 12, 13, 14, 15, 24, 25, 26, 27, 28, 29, 30, 31, 32, 33, 34, 35] (by decide +kernel) (by decide +kernel)
set_option maxRecDepth 20000 in
theorem gX2_addTrain_X2_isRing : GoodIn wsX2_addTrain (wsV RX2 46 RX2 yX2_isRing wsX2_isRing) := goodIn_app (goodIn_of _ (by decide +kernel)) ggX2_addTrain_X2_isRing
set_option maxRecDepth 20000 in
theorem ggX2_addTrain_X4_isWithin : GoodIn wsX2_addTrain wsX4_isWithin := goodIn_r _ [15] (by decide +kernel) (by decide +kernel)
set_option maxRecDepth 20000 in
theorem gX2_addTrain_X4_isWithin_n50 : GoodIn wsX2_addTrain (wsX4_isWithin) := ggX2_addTrain_X4_isWithin
set_option maxRecDepth 20000 in
theorem ggX2_addTrain_X2_trainIn : GoodIn wsX2_addTrain wsX2_trainIn := goodIn_r _ [19, 2, 20, 21, 22, 10, 23, 3, 4, 5, 24, 25, 26, 27, 28, 29, 30, 31, 32, 33, 34, 35] (by decide +kernel) (by decide +kernel)
set_option maxRecDepth 20000 in
theorem gX2_addTrain_X2_trainIn : GoodIn wsX2_addTrain (wsV RX2 64 RX2 yX2_trainIn wsX2_trainIn) := goodIn_app (goodIn_of _ (by decide +kernel)) ggX2_addTrain_X2_trainIn
theorem dX2_addTrain_0 : decode cX2_addTrain 0 = .ok (.aload_n 0, 1) := by decide +kernel
theorem dX2_addTrain_1 : decode cX2_addTrain 1 = .ok (.iload_n 1, 1) := by decide +kernel
theorem dX2_addTrain_2 : decode cX2_addTrain 2 = .ok (.invokevirtual 46, 3) := by decide +kernel
theorem dX2_addTrain_5 : decode cX2_addTrain 5 = .ok (.ifCond .ne 5, 3) := by decide +kernel
theorem dX2_addTrain_8 : decode cX2_addTrain 8 = .ok (.iconst (-1), 1) := by decide +kernel
theorem dX2_addTrain_9 : decode cX2_addTrain 9 = .ok (.ireturn, 1) := by decide +kernel
theorem dX2_addTrain_10 : decode cX2_addTrain 10 = .ok (.aload_n 0, 1) := by decide +kernel
theorem dX2_addTrain_11 : decode cX2_addTrain 11 = .ok (.getfield 16, 3) := by decide +kernel
theorem dX2_addTrain_14 : decode cX2_addTrain 14 = .ok (.iload_n 1, 1) := by decide +kernel
theorem dX2_addTrain_15 : decode cX2_addTrain 15 = .ok (.iaload, 1) := by decide +kernel
theorem dX2_addTrain_16 : decode cX2_addTrain 16 = .ok (.istore 4, 2) := by decide +kernel
theorem dX2_addTrain_18 : decode cX2_addTrain 18 = .ok (.iload 4, 2) := by decide +kernel
theorem dX2_addTrain_20 : decode cX2_addTrain 20 = .ok (.iconst 2, 1) := by decide +kernel
theorem dX2_addTrain_21 : decode cX2_addTrain 21 = .ok (.if_icmp .ge 8, 3) := by decide +kernel
theorem dX2_addTrain_24 : decode cX2_addTrain 24 = .ok (.bipush 11, 2) := by decide +kernel
theorem dX2_addTrain_26 : decode cX2_addTrain 26 = .ok (.goto 7, 3) := by decide +kernel
theorem dX2_addTrain_29 : decode cX2_addTrain 29 = .ok (.iload 4, 2) := by decide +kernel
theorem dX2_addTrain_31 : decode cX2_addTrain 31 = .ok (.iconst 1, 1) := by decide +kernel
theorem dX2_addTrain_32 : decode cX2_addTrain 32 = .ok (.isub, 1) := by decide +kernel
theorem dX2_addTrain_33 : decode cX2_addTrain 33 = .ok (.istore 5, 2) := by decide +kernel
theorem dX2_addTrain_35 : decode cX2_addTrain 35 = .ok (.iload_n 2, 1) := by decide +kernel
theorem dX2_addTrain_36 : decode cX2_addTrain 36 = .ok (.iconst 0, 1) := by decide +kernel
theorem dX2_addTrain_37 : decode cX2_addTrain 37 = .ok (.iload 5, 2) := by decide +kernel
theorem dX2_addTrain_39 : decode cX2_addTrain 39 = .ok (.invokestatic 50, 3) := by decide +kernel
theorem dX2_addTrain_42 : decode cX2_addTrain 42 = .ok (.ifCond .eq 13, 3) := by decide +kernel
theorem dX2_addTrain_45 : decode cX2_addTrain 45 = .ok (.iload_n 3, 1) := by decide +kernel
theorem dX2_addTrain_46 : decode cX2_addTrain 46 = .ok (.iconst 1, 1) := by decide +kernel
theorem dX2_addTrain_47 : decode cX2_addTrain 47 = .ok (.bipush 9, 2) := by decide +kernel
theorem dX2_addTrain_49 : decode cX2_addTrain 49 = .ok (.invokestatic 50, 3) := by decide +kernel
theorem dX2_addTrain_52 : decode cX2_addTrain 52 = .ok (.ifCond .ne 6, 3) := by decide +kernel
theorem dX2_addTrain_55 : decode cX2_addTrain 55 = .ok (.bipush (-2), 2) := by decide +kernel
theorem dX2_addTrain_57 : decode cX2_addTrain 57 = .ok (.ireturn, 1) := by decide +kernel
theorem dX2_addTrain_58 : decode cX2_addTrain 58 = .ok (.iload 4, 2) := by decide +kernel
theorem dX2_addTrain_60 : decode cX2_addTrain 60 = .ok (.iconst 2, 1) := by decide +kernel
theorem dX2_addTrain_61 : decode cX2_addTrain 61 = .ok (.if_icmp .ge 6, 3) := by decide +kernel
theorem dX2_addTrain_64 : decode cX2_addTrain 64 = .ok (.bipush (-3), 2) := by decide +kernel
theorem dX2_addTrain_66 : decode cX2_addTrain 66 = .ok (.ireturn, 1) := by decide +kernel
theorem dX2_addTrain_67 : decode cX2_addTrain 67 = .ok (.aload_n 0, 1) := by decide +kernel
theorem dX2_addTrain_68 : decode cX2_addTrain 68 = .ok (.getfield 61, 3) := by decide +kernel
theorem dX2_addTrain_71 : decode cX2_addTrain 71 = .ok (.iconst 4, 1) := by decide +kernel
theorem dX2_addTrain_72 : decode cX2_addTrain 72 = .ok (.if_icmp .lt 6, 3) := by decide +kernel
theorem dX2_addTrain_75 : decode cX2_addTrain 75 = .ok (.bipush (-4), 2) := by decide +kernel
theorem dX2_addTrain_77 : decode cX2_addTrain 77 = .ok (.ireturn, 1) := by decide +kernel
theorem dX2_addTrain_78 : decode cX2_addTrain 78 = .ok (.aload_n 0, 1) := by decide +kernel
theorem dX2_addTrain_79 : decode cX2_addTrain 79 = .ok (.aload_n 0, 1) := by decide +kernel
theorem dX2_addTrain_80 : decode cX2_addTrain 80 = .ok (.getfield 13, 3) := by decide +kernel
theorem dX2_addTrain_83 : decode cX2_addTrain 83 = .ok (.iload_n 1, 1) := by decide +kernel
theorem dX2_addTrain_84 : decode cX2_addTrain 84 = .ok (.aaload, 1) := by decide +kernel
theorem dX2_addTrain_85 : decode cX2_addTrain 85 = .ok (.iload_n 2, 1) := by decide +kernel
theorem dX2_addTrain_86 : decode cX2_addTrain 86 = .ok (.iaload, 1) := by decide +kernel
theorem dX2_addTrain_87 : decode cX2_addTrain 87 = .ok (.invokevirtual 64, 3) := by decide +kernel
theorem dX2_addTrain_90 : decode cX2_addTrain 90 = .ok (.bipush (-6), 2) := by decide +kernel
theorem dX2_addTrain_92 : decode cX2_addTrain 92 = .ok (.if_icmp .eq 6, 3) := by decide +kernel
theorem dX2_addTrain_95 : decode cX2_addTrain 95 = .ok (.bipush (-5), 2) := by decide +kernel
theorem dX2_addTrain_97 : decode cX2_addTrain 97 = .ok (.ireturn, 1) := by decide +kernel
theorem dX2_addTrain_98 : decode cX2_addTrain 98 = .ok (.aload_n 0, 1) := by decide +kernel
theorem dX2_addTrain_99 : decode cX2_addTrain 99 = .ok (.getfield 20, 3) := by decide +kernel
theorem dX2_addTrain_102 : decode cX2_addTrain 102 = .ok (.aload_n 0, 1) := by decide +kernel
theorem dX2_addTrain_103 : decode cX2_addTrain 103 = .ok (.getfield 61, 3) := by decide +kernel
theorem dX2_addTrain_106 : decode cX2_addTrain 106 = .ok (.iload_n 1, 1) := by decide +kernel
theorem dX2_addTrain_107 : decode cX2_addTrain 107 = .ok (.iastore, 1) := by decide +kernel
theorem dX2_addTrain_108 : decode cX2_addTrain 108 = .ok (.aload_n 0, 1) := by decide +kernel
theorem dX2_addTrain_109 : decode cX2_addTrain 109 = .ok (.getfield 23, 3) := by decide +kernel
theorem dX2_addTrain_112 : decode cX2_addTrain 112 = .ok (.aload_n 0, 1) := by decide +kernel
theorem dX2_addTrain_113 : decode cX2_addTrain 113 = .ok (.getfield 61, 3) := by decide +kernel
theorem dX2_addTrain_116 : decode cX2_addTrain 116 = .ok (.iload_n 2, 1) := by decide +kernel
theorem dX2_addTrain_117 : decode cX2_addTrain 117 = .ok (.iastore, 1) := by decide +kernel
theorem dX2_addTrain_118 : decode cX2_addTrain 118 = .ok (.aload_n 0, 1) := by decide +kernel
theorem dX2_addTrain_119 : decode cX2_addTrain 119 = .ok (.getfield 26, 3) := by decide +kernel
theorem dX2_addTrain_122 : decode cX2_addTrain 122 = .ok (.aload_n 0, 1) := by decide +kernel
theorem dX2_addTrain_123 : decode cX2_addTrain 123 = .ok (.getfield 61, 3) := by decide +kernel
theorem dX2_addTrain_126 : decode cX2_addTrain 126 = .ok (.iload_n 3, 1) := by decide +kernel
theorem dX2_addTrain_127 : decode cX2_addTrain 127 = .ok (.iastore, 1) := by decide +kernel
theorem dX2_addTrain_128 : decode cX2_addTrain 128 = .ok (.aload_n 0, 1) := by decide +kernel
theorem dX2_addTrain_129 : decode cX2_addTrain 129 = .ok (.dup, 1) := by decide +kernel
theorem dX2_addTrain_130 : decode cX2_addTrain 130 = .ok (.getfield 61, 3) := by decide +kernel
theorem dX2_addTrain_133 : decode cX2_addTrain 133 = .ok (.iconst 1, 1) := by decide +kernel
theorem dX2_addTrain_134 : decode cX2_addTrain 134 = .ok (.iadd, 1) := by decide +kernel
theorem dX2_addTrain_135 : decode cX2_addTrain 135 = .ok (.putfield 61, 3) := by decide +kernel
theorem dX2_addTrain_138 : decode cX2_addTrain 138 = .ok (.aload_n 0, 1) := by decide +kernel
theorem dX2_addTrain_139 : decode cX2_addTrain 139 = .ok (.getfield 61, 3) := by decide +kernel
theorem dX2_addTrain_142 : decode cX2_addTrain 142 = .ok (.iconst 1, 1) := by decide +kernel
theorem dX2_addTrain_143 : decode cX2_addTrain 143 = .ok (.isub, 1) := by decide +kernel
theorem dX2_addTrain_144 : decode cX2_addTrain 144 = .ok (.ireturn, 1) := by decide +kernel
set_option maxRecDepth 20000 in
theorem ggX2_setStuck_X2_isTrain : GoodIn wsX2_setStuck wsX2_isTrain := goodIn_r _ [6, 7, 8, 9, 10, 13, 14, 15, 16, 17, 18, 19, 20, 21, 22, 23, 24] (by decide +kernel) (by decide +kernel)
set_option maxRecDepth 20000 in
theorem gX2_setStuck_X2_isTrain : GoodIn wsX2_setStuck (wsV RX2 68 RX2 yX2_isTrain wsX2_isTrain) := goodIn_app (goodIn_of _ (by decide +kernel)) ggX2_setStuck_X2_isTrain
set_option maxRecDepth 20000 in
theorem ggX2_setStuck_X4_oneIf : GoodIn wsX2_setStuck wsX4_oneIf := goodIn_r _ [12] (by decide +kernel) (by decide +kernel)
set_option maxRecDepth 20000 in
theorem gX2_setStuck_X4_oneIf_n71 : GoodIn wsX2_setStuck (wsX4_oneIf) := ggX2_setStuck_X4_oneIf
theorem dX2_setStuck_0 : decode cX2_setStuck 0 = .ok (.aload_n 0, 1) := by decide +kernel
theorem dX2_setStuck_1 : decode cX2_setStuck 1 = .ok (.iload_n 1, 1) := by decide +kernel
theorem dX2_setStuck_2 : decode cX2_setStuck 2 = .ok (.invokevirtual 68, 3) := by decide +kernel
theorem dX2_setStuck_5 : decode cX2_setStuck 5 = .ok (.ifCond .ne 5, 3) := by decide +kernel
theorem dX2_setStuck_8 : decode cX2_setStuck 8 = .ok (.iconst (-1), 1) := by decide +kernel
theorem dX2_setStuck_9 : decode cX2_setStuck 9 = .ok (.ireturn, 1) := by decide +kernel
theorem dX2_setStuck_10 : decode cX2_setStuck 10 = .ok (.aload_n 0, 1) := by decide +kernel
theorem dX2_setStuck_11 : decode cX2_setStuck 11 = .ok (.getfield 38, 3) := by decide +kernel
theorem dX2_setStuck_14 : decode cX2_setStuck 14 = .ok (.iload_n 1, 1) := by decide +kernel
theorem dX2_setStuck_15 : decode cX2_setStuck 15 = .ok (.baload, 1) := by decide +kernel
theorem dX2_setStuck_16 : decode cX2_setStuck 16 = .ok (.invokestatic 71, 3) := by decide +kernel
theorem dX2_setStuck_19 : decode cX2_setStuck 19 = .ok (.istore_n 3, 1) := by decide +kernel
theorem dX2_setStuck_20 : decode cX2_setStuck 20 = .ok (.aload_n 0, 1) := by decide +kernel
theorem dX2_setStuck_21 : decode cX2_setStuck 21 = .ok (.getfield 38, 3) := by decide +kernel
theorem dX2_setStuck_24 : decode cX2_setStuck 24 = .ok (.iload_n 1, 1) := by decide +kernel
theorem dX2_setStuck_25 : decode cX2_setStuck 25 = .ok (.iload_n 2, 1) := by decide +kernel
theorem dX2_setStuck_26 : decode cX2_setStuck 26 = .ok (.bastore, 1) := by decide +kernel
theorem dX2_setStuck_27 : decode cX2_setStuck 27 = .ok (.iload_n 3, 1) := by decide +kernel
theorem dX2_setStuck_28 : decode cX2_setStuck 28 = .ok (.ireturn, 1) := by decide +kernel
set_option maxRecDepth 20000 in
theorem ggX2_goMinutes_X4_isWithin : GoodIn wsX2_goMinutes wsX4_isWithin := goodIn_r _ [6] (by decide +kernel) (by decide +kernel)
set_option maxRecDepth 20000 in
theorem gX2_goMinutes_X4_isWithin_n50 : GoodIn wsX2_goMinutes (wsX4_isWithin) := ggX2_goMinutes_X4_isWithin
set_option maxRecDepth 20000 in
theorem ggX2_goMinutes_X2_goesOn : GoodIn wsX2_goMinutes wsX2_goesOn := goodIn_r _ [11, 12, 13, 14, 15, 16, 17, 18, 19, 10, 20, 21, 22, 23, 24, 25, 26, 27, 28, 29, 30, 31, 1, 32, 33, 34, 35, 38, 39, 40, 41, 42, 43, 44, 45, 46, 47, 48, 49] (by decide +kernel) (by decide +kernel)
set_option maxRecDepth 20000 in
theorem gX2_goMinutes_X2_goesOn : GoodIn wsX2_goMinutes (wsV RX2 75 RX2 yX2_goesOn wsX2_goesOn) := goodIn_app (goodIn_of _ (by decide +kernel)) ggX2_goMinutes_X2_goesOn
set_option maxRecDepth 20000 in
theorem ggX2_goMinutes_X4_oneIf : GoodIn wsX2_goMinutes wsX4_oneIf := goodIn_r _ [37] (by decide +kernel) (by decide +kernel)
set_option maxRecDepth 20000 in
theorem gX2_goMinutes_X4_oneIf_n71 : GoodIn wsX2_goMinutes (wsX4_oneIf) := ggX2_goMinutes_X4_oneIf
theorem dX2_goMinutes_0 : decode cX2_goMinutes 0 = .ok (.iload_n 1, 1) := by decide +kernel
theorem dX2_goMinutes_1 : decode cX2_goMinutes 1 = .ok (.iconst 1, 1) := by decide +kernel
theorem dX2_goMinutes_2 : decode cX2_goMinutes 2 = .ok (.sipush 500, 3) := by decide +kernel
theorem dX2_goMinutes_5 : decode cX2_goMinutes 5 = .ok (.invokestatic 50, 3) := by decide +kernel
theorem dX2_goMinutes_8 : decode cX2_goMinutes 8 = .ok (.ifCond .ne 6, 3) := by decide +kernel
theorem dX2_goMinutes_11 : decode cX2_goMinutes 11 = .ok (.bipush (-2), 2) := by decide +kernel
theorem dX2_goMinutes_13 : decode cX2_goMinutes 13 = .ok (.ireturn, 1) := by decide +kernel
theorem dX2_goMinutes_14 : decode cX2_goMinutes 14 = .ok (.iconst 0, 1) := by decide +kernel
theorem dX2_goMinutes_15 : decode cX2_goMinutes 15 = .ok (.istore_n 2, 1) := by decide +kernel
theorem dX2_goMinutes_16 : decode cX2_goMinutes 16 = .ok (.iconst 0, 1) := by decide +kernel
theorem dX2_goMinutes_17 : decode cX2_goMinutes 17 = .ok (.istore_n 3, 1) := by decide +kernel
theorem dX2_goMinutes_18 : decode cX2_goMinutes 18 = .ok (.iload_n 3, 1) := by decide +kernel
theorem dX2_goMinutes_19 : decode cX2_goMinutes 19 = .ok (.iload_n 1, 1) := by decide +kernel
theorem dX2_goMinutes_20 : decode cX2_goMinutes 20 = .ok (.if_icmp .ge 57, 3) := by decide +kernel
theorem dX2_goMinutes_23 : decode cX2_goMinutes 23 = .ok (.iconst 0, 1) := by decide +kernel
theorem dX2_goMinutes_24 : decode cX2_goMinutes 24 = .ok (.istore 4, 2) := by decide +kernel
theorem dX2_goMinutes_26 : decode cX2_goMinutes 26 = .ok (.iload 4, 2) := by decide +kernel
theorem dX2_goMinutes_28 : decode cX2_goMinutes 28 = .ok (.aload_n 0, 1) := by decide +kernel
theorem dX2_goMinutes_29 : decode cX2_goMinutes 29 = .ok (.getfield 61, 3) := by decide +kernel
theorem dX2_goMinutes_32 : decode cX2_goMinutes 32 = .ok (.if_icmp .ge 39, 3) := by decide +kernel
theorem dX2_goMinutes_35 : decode cX2_goMinutes 35 = .ok (.iload_n 2, 1) := by decide +kernel
theorem dX2_goMinutes_36 : decode cX2_goMinutes 36 = .ok (.aload_n 0, 1) := by decide +kernel
theorem dX2_goMinutes_37 : decode cX2_goMinutes 37 = .ok (.getfield 38, 3) := by decide +kernel
theorem dX2_goMinutes_40 : decode cX2_goMinutes 40 = .ok (.iload 4, 2) := by decide +kernel
theorem dX2_goMinutes_42 : decode cX2_goMinutes 42 = .ok (.baload, 1) := by decide +kernel
theorem dX2_goMinutes_43 : decode cX2_goMinutes 43 = .ok (.ifCond .ne 16, 3) := by decide +kernel
theorem dX2_goMinutes_46 : decode cX2_goMinutes 46 = .ok (.aload_n 0, 1) := by decide +kernel
theorem dX2_goMinutes_47 : decode cX2_goMinutes 47 = .ok (.iload 4, 2) := by decide +kernel
theorem dX2_goMinutes_49 : decode cX2_goMinutes 49 = .ok (.invokevirtual 75, 3) := by decide +kernel
theorem dX2_goMinutes_52 : decode cX2_goMinutes 52 = .ok (.ifCond .eq 7, 3) := by decide +kernel
theorem dX2_goMinutes_55 : decode cX2_goMinutes 55 = .ok (.iconst 1, 1) := by decide +kernel
theorem dX2_goMinutes_56 : decode cX2_goMinutes 56 = .ok (.goto 4, 3) := by decide +kernel
theorem dX2_goMinutes_59 : decode cX2_goMinutes 59 = .ok (.iconst 0, 1) := by decide +kernel
theorem dX2_goMinutes_60 : decode cX2_goMinutes 60 = .ok (.invokestatic 71, 3) := by decide +kernel
theorem dX2_goMinutes_63 : decode cX2_goMinutes 63 = .ok (.iadd, 1) := by decide +kernel
theorem dX2_goMinutes_64 : decode cX2_goMinutes 64 = .ok (.istore_n 2, 1) := by decide +kernel
theorem dX2_goMinutes_65 : decode cX2_goMinutes 65 = .ok (.iinc 4 1, 3) := by decide +kernel
theorem dX2_goMinutes_68 : decode cX2_goMinutes 68 = .ok (.goto (-42), 3) := by decide +kernel
theorem dX2_goMinutes_71 : decode cX2_goMinutes 71 = .ok (.iinc 3 1, 3) := by decide +kernel
theorem dX2_goMinutes_74 : decode cX2_goMinutes 74 = .ok (.goto (-56), 3) := by decide +kernel
theorem dX2_goMinutes_77 : decode cX2_goMinutes 77 = .ok (.aload_n 0, 1) := by decide +kernel
theorem dX2_goMinutes_78 : decode cX2_goMinutes 78 = .ok (.dup, 1) := by decide +kernel
theorem dX2_goMinutes_79 : decode cX2_goMinutes 79 = .ok (.getfield 78, 3) := by decide +kernel
theorem dX2_goMinutes_82 : decode cX2_goMinutes 82 = .ok (.iload_n 1, 1) := by decide +kernel
theorem dX2_goMinutes_83 : decode cX2_goMinutes 83 = .ok (.iadd, 1) := by decide +kernel
theorem dX2_goMinutes_84 : decode cX2_goMinutes 84 = .ok (.putfield 78, 3) := by decide +kernel
theorem dX2_goMinutes_87 : decode cX2_goMinutes 87 = .ok (.iload_n 2, 1) := by decide +kernel
theorem dX2_goMinutes_88 : decode cX2_goMinutes 88 = .ok (.ireturn, 1) := by decide +kernel
set_option maxRecDepth 20000 in
theorem ggX2_aboutTrain_X2_isTrain : GoodIn wsX2_aboutTrain wsX2_isTrain := goodIn_r _ [11, 12, 13, 14, 15, 36, 37, 38, 39, 40, 41, 42, 43, 44, 45, 46, 47] (by decide +kernel) (by decide +kernel)
set_option maxRecDepth 20000 in
theorem gX2_aboutTrain_X2_isTrain : GoodIn wsX2_aboutTrain (wsV RX2 68 RX2 yX2_isTrain wsX2_isTrain) := goodIn_app (goodIn_of _ (by decide +kernel)) ggX2_aboutTrain_X2_isTrain
set_option maxRecDepth 20000 in
theorem ggX2_aboutTrain_X2_blockOf : GoodIn wsX2_aboutTrain wsX2_blockOf := goodIn_r _ [19, 20, 1, 2, 36, 37, 38, 39, 40, 41, 42, 43, 44, 45, 46, 47] (by decide +kernel) (by decide +kernel)
set_option maxRecDepth 20000 in
theorem gX2_aboutTrain_X2_blockOf : GoodIn wsX2_aboutTrain (wsV RX2 81 RX2 yX2_blockOf wsX2_blockOf) := goodIn_app (goodIn_of _ (by decide +kernel)) ggX2_aboutTrain_X2_blockOf
set_option maxRecDepth 20000 in
theorem ggX2_aboutTrain_X4_oneIf : GoodIn wsX2_aboutTrain wsX4_oneIf := goodIn_r _ [22] (by decide +kernel) (by decide +kernel)
set_option maxRecDepth 20000 in
theorem gX2_aboutTrain_X4_oneIf_n71 : GoodIn wsX2_aboutTrain (wsX4_oneIf) := ggX2_aboutTrain_X4_oneIf
set_option maxRecDepth 20000 in
theorem ggX2_aboutTrain_X2_trainAhead : GoodIn wsX2_aboutTrain wsX2_trainAhead := goodIn_r _ [26, 20, 1, 27, 28, 29, 10, 30, 2, 31, 32, 33, 34, 35, 12, 16, 17, 18, 19, 36, 37, 38, 39, 40, 41, 42, 43, 44, 45, 46, 47] (by decide +kernel) (by decide +kernel)
set_option maxRecDepth 20000 in
theorem gX2_aboutTrain_X2_trainAhead : GoodIn wsX2_aboutTrain (wsV RX2 84 RX2 yX2_trainAhead wsX2_trainAhead) := goodIn_app (goodIn_of _ (by decide +kernel)) ggX2_aboutTrain_X2_trainAhead
theorem dX2_aboutTrain_0 : decode cX2_aboutTrain 0 = .ok (.aload_n 0, 1) := by decide +kernel
theorem dX2_aboutTrain_1 : decode cX2_aboutTrain 1 = .ok (.iload_n 1, 1) := by decide +kernel
theorem dX2_aboutTrain_2 : decode cX2_aboutTrain 2 = .ok (.invokevirtual 68, 3) := by decide +kernel
theorem dX2_aboutTrain_5 : decode cX2_aboutTrain 5 = .ok (.ifCond .ne 5, 3) := by decide +kernel
theorem dX2_aboutTrain_8 : decode cX2_aboutTrain 8 = .ok (.iconst (-1), 1) := by decide +kernel
theorem dX2_aboutTrain_9 : decode cX2_aboutTrain 9 = .ok (.ireturn, 1) := by decide +kernel
theorem dX2_aboutTrain_10 : decode cX2_aboutTrain 10 = .ok (.iload_n 2, 1) := by decide +kernel
theorem dX2_aboutTrain_11 : decode cX2_aboutTrain 11 = .ok (.tableswitch 102 0 7 #[45, 52, 59, 65, 72, 82, 89, 96], 45) := by decide +kernel
theorem dX2_aboutTrain_56 : decode cX2_aboutTrain 56 = .ok (.aload_n 0, 1) := by decide +kernel
theorem dX2_aboutTrain_57 : decode cX2_aboutTrain 57 = .ok (.getfield 20, 3) := by decide +kernel
theorem dX2_aboutTrain_60 : decode cX2_aboutTrain 60 = .ok (.iload_n 1, 1) := by decide +kernel
theorem dX2_aboutTrain_61 : decode cX2_aboutTrain 61 = .ok (.iaload, 1) := by decide +kernel
theorem dX2_aboutTrain_62 : decode cX2_aboutTrain 62 = .ok (.ireturn, 1) := by decide +kernel
theorem dX2_aboutTrain_63 : decode cX2_aboutTrain 63 = .ok (.aload_n 0, 1) := by decide +kernel
theorem dX2_aboutTrain_64 : decode cX2_aboutTrain 64 = .ok (.getfield 23, 3) := by decide +kernel
theorem dX2_aboutTrain_67 : decode cX2_aboutTrain 67 = .ok (.iload_n 1, 1) := by decide +kernel
theorem dX2_aboutTrain_68 : decode cX2_aboutTrain 68 = .ok (.iaload, 1) := by decide +kernel
theorem dX2_aboutTrain_69 : decode cX2_aboutTrain 69 = .ok (.ireturn, 1) := by decide +kernel
theorem dX2_aboutTrain_70 : decode cX2_aboutTrain 70 = .ok (.aload_n 0, 1) := by decide +kernel
theorem dX2_aboutTrain_71 : decode cX2_aboutTrain 71 = .ok (.iload_n 1, 1) := by decide +kernel
theorem dX2_aboutTrain_72 : decode cX2_aboutTrain 72 = .ok (.invokevirtual 81, 3) := by decide +kernel
theorem dX2_aboutTrain_75 : decode cX2_aboutTrain 75 = .ok (.ireturn, 1) := by decide +kernel
theorem dX2_aboutTrain_76 : decode cX2_aboutTrain 76 = .ok (.aload_n 0, 1) := by decide +kernel
theorem dX2_aboutTrain_77 : decode cX2_aboutTrain 77 = .ok (.getfield 29, 3) := by decide +kernel
theorem dX2_aboutTrain_80 : decode cX2_aboutTrain 80 = .ok (.iload_n 1, 1) := by decide +kernel
theorem dX2_aboutTrain_81 : decode cX2_aboutTrain 81 = .ok (.iaload, 1) := by decide +kernel
theorem dX2_aboutTrain_82 : decode cX2_aboutTrain 82 = .ok (.ireturn, 1) := by decide +kernel
theorem dX2_aboutTrain_83 : decode cX2_aboutTrain 83 = .ok (.aload_n 0, 1) := by decide +kernel
theorem dX2_aboutTrain_84 : decode cX2_aboutTrain 84 = .ok (.getfield 38, 3) := by decide +kernel
theorem dX2_aboutTrain_87 : decode cX2_aboutTrain 87 = .ok (.iload_n 1, 1) := by decide +kernel
theorem dX2_aboutTrain_88 : decode cX2_aboutTrain 88 = .ok (.baload, 1) := by decide +kernel
theorem dX2_aboutTrain_89 : decode cX2_aboutTrain 89 = .ok (.invokestatic 71, 3) := by decide +kernel
theorem dX2_aboutTrain_92 : decode cX2_aboutTrain 92 = .ok (.ireturn, 1) := by decide +kernel
theorem dX2_aboutTrain_93 : decode cX2_aboutTrain 93 = .ok (.aload_n 0, 1) := by decide +kernel
theorem dX2_aboutTrain_94 : decode cX2_aboutTrain 94 = .ok (.getfield 32, 3) := by decide +kernel
theorem dX2_aboutTrain_97 : decode cX2_aboutTrain 97 = .ok (.iload_n 1, 1) := by decide +kernel
theorem dX2_aboutTrain_98 : decode cX2_aboutTrain 98 = .ok (.iaload, 1) := by decide +kernel
theorem dX2_aboutTrain_99 : decode cX2_aboutTrain 99 = .ok (.ireturn, 1) := by decide +kernel
theorem dX2_aboutTrain_100 : decode cX2_aboutTrain 100 = .ok (.aload_n 0, 1) := by decide +kernel
theorem dX2_aboutTrain_101 : decode cX2_aboutTrain 101 = .ok (.getfield 35, 3) := by decide +kernel
theorem dX2_aboutTrain_104 : decode cX2_aboutTrain 104 = .ok (.iload_n 1, 1) := by decide +kernel
theorem dX2_aboutTrain_105 : decode cX2_aboutTrain 105 = .ok (.iaload, 1) := by decide +kernel
theorem dX2_aboutTrain_106 : decode cX2_aboutTrain 106 = .ok (.ireturn, 1) := by decide +kernel
theorem dX2_aboutTrain_107 : decode cX2_aboutTrain 107 = .ok (.aload_n 0, 1) := by decide +kernel
theorem dX2_aboutTrain_108 : decode cX2_aboutTrain 108 = .ok (.iload_n 1, 1) := by decide +kernel
theorem dX2_aboutTrain_109 : decode cX2_aboutTrain 109 = .ok (.invokevirtual 84, 3) := by decide +kernel
theorem dX2_aboutTrain_112 : decode cX2_aboutTrain 112 = .ok (.ireturn, 1) := by decide +kernel
theorem dX2_aboutTrain_113 : decode cX2_aboutTrain 113 = .ok (.bipush (-2), 2) := by decide +kernel
theorem dX2_aboutTrain_115 : decode cX2_aboutTrain 115 = .ok (.ireturn, 1) := by decide +kernel
set_option maxRecDepth 20000 in
theorem ggX2_standing_X2_mayGoOn : GoodIn wsX2_standing wsX2_mayGoOn := goodIn_r _ [6, 7, 8, 9, 10, 5, 11, 12, 13, 14, 15, 16, 17, 18, 19, 20, 21, 22, 23, 1, 24, 25, 26, 27, 28, 29, 30, 31, 32, 33, 34, 35, 36, 37, 38, 39] (by decide +kernel) (by decide +kernel)
set_option maxRecDepth 20000 in
theorem gX2_standing_X2_mayGoOn : GoodIn wsX2_standing (wsV RX2 87 RX2 yX2_mayGoOn wsX2_mayGoOn) := goodIn_app (goodIn_of _ (by decide +kernel)) ggX2_standing_X2_mayGoOn
theorem dX2_standing_0 : decode cX2_standing 0 = .ok (.iconst 1, 1) := by decide +kernel
theorem dX2_standing_1 : decode cX2_standing 1 = .ok (.aload_n 0, 1) := by decide +kernel
theorem dX2_standing_2 : decode cX2_standing 2 = .ok (.getfield 61, 3) := by decide +kernel
theorem dX2_standing_5 : decode cX2_standing 5 = .ok (.ishl, 1) := by decide +kernel
theorem dX2_standing_6 : decode cX2_standing 6 = .ok (.iconst 1, 1) := by decide +kernel
theorem dX2_standing_7 : decode cX2_standing 7 = .ok (.isub, 1) := by decide +kernel
theorem dX2_standing_8 : decode cX2_standing 8 = .ok (.istore_n 1, 1) := by decide +kernel
theorem dX2_standing_9 : decode cX2_standing 9 = .ok (.iconst 0, 1) := by decide +kernel
theorem dX2_standing_10 : decode cX2_standing 10 = .ok (.istore_n 2, 1) := by decide +kernel
theorem dX2_standing_11 : decode cX2_standing 11 = .ok (.iload_n 2, 1) := by decide +kernel
theorem dX2_standing_12 : decode cX2_standing 12 = .ok (.aload_n 0, 1) := by decide +kernel
theorem dX2_standing_13 : decode cX2_standing 13 = .ok (.getfield 61, 3) := by decide +kernel
theorem dX2_standing_16 : decode cX2_standing 16 = .ok (.if_icmp .ge 42, 3) := by decide +kernel
theorem dX2_standing_19 : decode cX2_standing 19 = .ok (.iconst 0, 1) := by decide +kernel
theorem dX2_standing_20 : decode cX2_standing 20 = .ok (.istore_n 3, 1) := by decide +kernel
theorem dX2_standing_21 : decode cX2_standing 21 = .ok (.iload_n 3, 1) := by decide +kernel
theorem dX2_standing_22 : decode cX2_standing 22 = .ok (.aload_n 0, 1) := by decide +kernel
theorem dX2_standing_23 : decode cX2_standing 23 = .ok (.getfield 61, 3) := by decide +kernel
theorem dX2_standing_26 : decode cX2_standing 26 = .ok (.if_icmp .ge 26, 3) := by decide +kernel
theorem dX2_standing_29 : decode cX2_standing 29 = .ok (.aload_n 0, 1) := by decide +kernel
theorem dX2_standing_30 : decode cX2_standing 30 = .ok (.iload_n 3, 1) := by decide +kernel
theorem dX2_standing_31 : decode cX2_standing 31 = .ok (.iload_n 1, 1) := by decide +kernel
theorem dX2_standing_32 : decode cX2_standing 32 = .ok (.invokevirtual 87, 3) := by decide +kernel
theorem dX2_standing_35 : decode cX2_standing 35 = .ok (.ifCond .eq 11, 3) := by decide +kernel
theorem dX2_standing_38 : decode cX2_standing 38 = .ok (.iload_n 1, 1) := by decide +kernel
theorem dX2_standing_39 : decode cX2_standing 39 = .ok (.iconst 1, 1) := by decide +kernel
theorem dX2_standing_40 : decode cX2_standing 40 = .ok (.iload_n 3, 1) := by decide +kernel
theorem dX2_standing_41 : decode cX2_standing 41 = .ok (.ishl, 1) := by decide +kernel
theorem dX2_standing_42 : decode cX2_standing 42 = .ok (.iconst (-1), 1) := by decide +kernel
theorem dX2_standing_43 : decode cX2_standing 43 = .ok (.ixor, 1) := by decide +kernel
theorem dX2_standing_44 : decode cX2_standing 44 = .ok (.iand, 1) := by decide +kernel
theorem dX2_standing_45 : decode cX2_standing 45 = .ok (.istore_n 1, 1) := by decide +kernel
theorem dX2_standing_46 : decode cX2_standing 46 = .ok (.iinc 3 1, 3) := by decide +kernel
theorem dX2_standing_49 : decode cX2_standing 49 = .ok (.goto (-28), 3) := by decide +kernel
theorem dX2_standing_52 : decode cX2_standing 52 = .ok (.iinc 2 1, 3) := by decide +kernel
theorem dX2_standing_55 : decode cX2_standing 55 = .ok (.goto (-44), 3) := by decide +kernel
theorem dX2_standing_58 : decode cX2_standing 58 = .ok (.iload_n 1, 1) := by decide +kernel
theorem dX2_standing_59 : decode cX2_standing 59 = .ok (.ireturn, 1) := by decide +kernel
set_option maxRecDepth 20000 in
theorem ggX2_isRing_X4_isWithin : GoodIn wsX2_isRing wsX4_isWithin := goodIn_r _ [4] (by decide +kernel) (by decide +kernel)
set_option maxRecDepth 20000 in
theorem gX2_isRing_X4_isWithin_n50 : GoodIn wsX2_isRing (wsX4_isWithin) := ggX2_isRing_X4_isWithin
theorem dX2_isRing_0 : decode cX2_isRing 0 = .ok (.iload_n 1, 1) := by decide +kernel
theorem dX2_isRing_1 : decode cX2_isRing 1 = .ok (.iconst 0, 1) := by decide +kernel
theorem dX2_isRing_2 : decode cX2_isRing 2 = .ok (.aload_n 0, 1) := by decide +kernel
theorem dX2_isRing_3 : decode cX2_isRing 3 = .ok (.getfield 42, 3) := by decide +kernel
theorem dX2_isRing_6 : decode cX2_isRing 6 = .ok (.iconst 1, 1) := by decide +kernel
theorem dX2_isRing_7 : decode cX2_isRing 7 = .ok (.isub, 1) := by decide +kernel
theorem dX2_isRing_8 : decode cX2_isRing 8 = .ok (.invokestatic 50, 3) := by decide +kernel
theorem dX2_isRing_11 : decode cX2_isRing 11 = .ok (.ireturn, 1) := by decide +kernel
set_option maxRecDepth 20000 in
theorem ggX2_isTrain_X4_isWithin : GoodIn wsX2_isTrain wsX4_isWithin := goodIn_r _ [4] (by decide +kernel) (by decide +kernel)
set_option maxRecDepth 20000 in
theorem gX2_isTrain_X4_isWithin_n50 : GoodIn wsX2_isTrain (wsX4_isWithin) := ggX2_isTrain_X4_isWithin
theorem dX2_isTrain_0 : decode cX2_isTrain 0 = .ok (.iload_n 1, 1) := by decide +kernel
theorem dX2_isTrain_1 : decode cX2_isTrain 1 = .ok (.iconst 0, 1) := by decide +kernel
theorem dX2_isTrain_2 : decode cX2_isTrain 2 = .ok (.aload_n 0, 1) := by decide +kernel
theorem dX2_isTrain_3 : decode cX2_isTrain 3 = .ok (.getfield 61, 3) := by decide +kernel
theorem dX2_isTrain_6 : decode cX2_isTrain 6 = .ok (.iconst 1, 1) := by decide +kernel
theorem dX2_isTrain_7 : decode cX2_isTrain 7 = .ok (.isub, 1) := by decide +kernel
theorem dX2_isTrain_8 : decode cX2_isTrain 8 = .ok (.invokestatic 50, 3) := by decide +kernel
theorem dX2_isTrain_11 : decode cX2_isTrain 11 = .ok (.ireturn, 1) := by decide +kernel
theorem dX2_hasTrain_0 : decode cX2_hasTrain 0 = .ok (.iconst 0, 1) := by decide +kernel
theorem dX2_hasTrain_1 : decode cX2_hasTrain 1 = .ok (.istore_n 2, 1) := by decide +kernel
theorem dX2_hasTrain_2 : decode cX2_hasTrain 2 = .ok (.iload_n 2, 1) := by decide +kernel
theorem dX2_hasTrain_3 : decode cX2_hasTrain 3 = .ok (.aload_n 0, 1) := by decide +kernel
theorem dX2_hasTrain_4 : decode cX2_hasTrain 4 = .ok (.getfield 61, 3) := by decide +kernel
theorem dX2_hasTrain_7 : decode cX2_hasTrain 7 = .ok (.if_icmp .ge 21, 3) := by decide +kernel
theorem dX2_hasTrain_10 : decode cX2_hasTrain 10 = .ok (.aload_n 0, 1) := by decide +kernel
theorem dX2_hasTrain_11 : decode cX2_hasTrain 11 = .ok (.getfield 20, 3) := by decide +kernel
theorem dX2_hasTrain_14 : decode cX2_hasTrain 14 = .ok (.iload_n 2, 1) := by decide +kernel
theorem dX2_hasTrain_15 : decode cX2_hasTrain 15 = .ok (.iaload, 1) := by decide +kernel
theorem dX2_hasTrain_16 : decode cX2_hasTrain 16 = .ok (.iload_n 1, 1) := by decide +kernel
theorem dX2_hasTrain_17 : decode cX2_hasTrain 17 = .ok (.if_icmp .ne 5, 3) := by decide +kernel
theorem dX2_hasTrain_20 : decode cX2_hasTrain 20 = .ok (.iconst 1, 1) := by decide +kernel
theorem dX2_hasTrain_21 : decode cX2_hasTrain 21 = .ok (.ireturn, 1) := by decide +kernel
theorem dX2_hasTrain_22 : decode cX2_hasTrain 22 = .ok (.iinc 2 1, 3) := by decide +kernel
theorem dX2_hasTrain_25 : decode cX2_hasTrain 25 = .ok (.goto (-23), 3) := by decide +kernel
theorem dX2_hasTrain_28 : decode cX2_hasTrain 28 = .ok (.iconst 0, 1) := by decide +kernel
theorem dX2_hasTrain_29 : decode cX2_hasTrain 29 = .ok (.ireturn, 1) := by decide +kernel
theorem dX2_hasBlock_0 : decode cX2_hasBlock 0 = .ok (.iconst 0, 1) := by decide +kernel
theorem dX2_hasBlock_1 : decode cX2_hasBlock 1 = .ok (.istore_n 3, 1) := by decide +kernel
theorem dX2_hasBlock_2 : decode cX2_hasBlock 2 = .ok (.iload_n 3, 1) := by decide +kernel
theorem dX2_hasBlock_3 : decode cX2_hasBlock 3 = .ok (.aload_n 0, 1) := by decide +kernel
theorem dX2_hasBlock_4 : decode cX2_hasBlock 4 = .ok (.getfield 16, 3) := by decide +kernel
theorem dX2_hasBlock_7 : decode cX2_hasBlock 7 = .ok (.iload_n 1, 1) := by decide +kernel
theorem dX2_hasBlock_8 : decode cX2_hasBlock 8 = .ok (.iaload, 1) := by decide +kernel
theorem dX2_hasBlock_9 : decode cX2_hasBlock 9 = .ok (.if_icmp .ge 23, 3) := by decide +kernel
theorem dX2_hasBlock_12 : decode cX2_hasBlock 12 = .ok (.aload_n 0, 1) := by decide +kernel
theorem dX2_hasBlock_13 : decode cX2_hasBlock 13 = .ok (.getfield 13, 3) := by decide +kernel
theorem dX2_hasBlock_16 : decode cX2_hasBlock 16 = .ok (.iload_n 1, 1) := by decide +kernel
theorem dX2_hasBlock_17 : decode cX2_hasBlock 17 = .ok (.aaload, 1) := by decide +kernel
theorem dX2_hasBlock_18 : decode cX2_hasBlock 18 = .ok (.iload_n 3, 1) := by decide +kernel
theorem dX2_hasBlock_19 : decode cX2_hasBlock 19 = .ok (.iaload, 1) := by decide +kernel
theorem dX2_hasBlock_20 : decode cX2_hasBlock 20 = .ok (.iload_n 2, 1) := by decide +kernel
theorem dX2_hasBlock_21 : decode cX2_hasBlock 21 = .ok (.if_icmp .ne 5, 3) := by decide +kernel
theorem dX2_hasBlock_24 : decode cX2_hasBlock 24 = .ok (.iconst 1, 1) := by decide +kernel
theorem dX2_hasBlock_25 : decode cX2_hasBlock 25 = .ok (.ireturn, 1) := by decide +kernel
theorem dX2_hasBlock_26 : decode cX2_hasBlock 26 = .ok (.iinc 3 1, 3) := by decide +kernel
theorem dX2_hasBlock_29 : decode cX2_hasBlock 29 = .ok (.goto (-27), 3) := by decide +kernel
theorem dX2_hasBlock_32 : decode cX2_hasBlock 32 = .ok (.iconst 0, 1) := by decide +kernel
theorem dX2_hasBlock_33 : decode cX2_hasBlock 33 = .ok (.ireturn, 1) := by decide +kernel
theorem dX2_blockOf_0 : decode cX2_blockOf 0 = .ok (.aload_n 0, 1) := by decide +kernel
theorem dX2_blockOf_1 : decode cX2_blockOf 1 = .ok (.getfield 13, 3) := by decide +kernel
theorem dX2_blockOf_4 : decode cX2_blockOf 4 = .ok (.aload_n 0, 1) := by decide +kernel
theorem dX2_blockOf_5 : decode cX2_blockOf 5 = .ok (.getfield 20, 3) := by decide +kernel
theorem dX2_blockOf_8 : decode cX2_blockOf 8 = .ok (.iload_n 1, 1) := by decide +kernel
theorem dX2_blockOf_9 : decode cX2_blockOf 9 = .ok (.iaload, 1) := by decide +kernel
theorem dX2_blockOf_10 : decode cX2_blockOf 10 = .ok (.aaload, 1) := by decide +kernel
theorem dX2_blockOf_11 : decode cX2_blockOf 11 = .ok (.aload_n 0, 1) := by decide +kernel
theorem dX2_blockOf_12 : decode cX2_blockOf 12 = .ok (.getfield 23, 3) := by decide +kernel
theorem dX2_blockOf_15 : decode cX2_blockOf 15 = .ok (.iload_n 1, 1) := by decide +kernel
theorem dX2_blockOf_16 : decode cX2_blockOf 16 = .ok (.iaload, 1) := by decide +kernel
theorem dX2_blockOf_17 : decode cX2_blockOf 17 = .ok (.iaload, 1) := by decide +kernel
theorem dX2_blockOf_18 : decode cX2_blockOf 18 = .ok (.ireturn, 1) := by decide +kernel
theorem dX2_nextPlace_0 : decode cX2_nextPlace 0 = .ok (.aload_n 0, 1) := by decide +kernel
theorem dX2_nextPlace_1 : decode cX2_nextPlace 1 = .ok (.getfield 23, 3) := by decide +kernel
theorem dX2_nextPlace_4 : decode cX2_nextPlace 4 = .ok (.iload_n 1, 1) := by decide +kernel
theorem dX2_nextPlace_5 : decode cX2_nextPlace 5 = .ok (.iaload, 1) := by decide +kernel
theorem dX2_nextPlace_6 : decode cX2_nextPlace 6 = .ok (.iconst 1, 1) := by decide +kernel
theorem dX2_nextPlace_7 : decode cX2_nextPlace 7 = .ok (.iadd, 1) := by decide +kernel
theorem dX2_nextPlace_8 : decode cX2_nextPlace 8 = .ok (.istore_n 2, 1) := by decide +kernel
theorem dX2_nextPlace_9 : decode cX2_nextPlace 9 = .ok (.iload_n 2, 1) := by decide +kernel
theorem dX2_nextPlace_10 : decode cX2_nextPlace 10 = .ok (.aload_n 0, 1) := by decide +kernel
theorem dX2_nextPlace_11 : decode cX2_nextPlace 11 = .ok (.getfield 16, 3) := by decide +kernel
theorem dX2_nextPlace_14 : decode cX2_nextPlace 14 = .ok (.aload_n 0, 1) := by decide +kernel
theorem dX2_nextPlace_15 : decode cX2_nextPlace 15 = .ok (.getfield 20, 3) := by decide +kernel
theorem dX2_nextPlace_18 : decode cX2_nextPlace 18 = .ok (.iload_n 1, 1) := by decide +kernel
theorem dX2_nextPlace_19 : decode cX2_nextPlace 19 = .ok (.iaload, 1) := by decide +kernel
theorem dX2_nextPlace_20 : decode cX2_nextPlace 20 = .ok (.iaload, 1) := by decide +kernel
theorem dX2_nextPlace_21 : decode cX2_nextPlace 21 = .ok (.if_icmp .ge 7, 3) := by decide +kernel
theorem dX2_nextPlace_24 : decode cX2_nextPlace 24 = .ok (.iload_n 2, 1) := by decide +kernel
theorem dX2_nextPlace_25 : decode cX2_nextPlace 25 = .ok (.goto 4, 3) := by decide +kernel
theorem dX2_nextPlace_28 : decode cX2_nextPlace 28 = .ok (.iconst 0, 1) := by decide +kernel
theorem dX2_nextPlace_29 : decode cX2_nextPlace 29 = .ok (.ireturn, 1) := by decide +kernel
set_option maxRecDepth 20000 in
theorem ggX2_trainIn_X2_blockOf : GoodIn wsX2_trainIn wsX2_blockOf := goodIn_r _ [6, 7, 8, 9, 10, 11, 12, 13, 14, 15, 16, 17, 18, 19, 20, 21] (by decide +kernel) (by decide +kernel)
set_option maxRecDepth 20000 in
theorem gX2_trainIn_X2_blockOf : GoodIn wsX2_trainIn (wsV RX2 81 RX2 yX2_blockOf wsX2_blockOf) := goodIn_app (goodIn_of _ (by decide +kernel)) ggX2_trainIn_X2_blockOf
theorem dX2_trainIn_0 : decode cX2_trainIn 0 = .ok (.iconst 0, 1) := by decide +kernel
theorem dX2_trainIn_1 : decode cX2_trainIn 1 = .ok (.istore_n 2, 1) := by decide +kernel
theorem dX2_trainIn_2 : decode cX2_trainIn 2 = .ok (.iload_n 2, 1) := by decide +kernel
theorem dX2_trainIn_3 : decode cX2_trainIn 3 = .ok (.aload_n 0, 1) := by decide +kernel
theorem dX2_trainIn_4 : decode cX2_trainIn 4 = .ok (.getfield 61, 3) := by decide +kernel
theorem dX2_trainIn_7 : decode cX2_trainIn 7 = .ok (.if_icmp .ge 20, 3) := by decide +kernel
theorem dX2_trainIn_10 : decode cX2_trainIn 10 = .ok (.aload_n 0, 1) := by decide +kernel
theorem dX2_trainIn_11 : decode cX2_trainIn 11 = .ok (.iload_n 2, 1) := by decide +kernel
theorem dX2_trainIn_12 : decode cX2_trainIn 12 = .ok (.invokevirtual 81, 3) := by decide +kernel
theorem dX2_trainIn_15 : decode cX2_trainIn 15 = .ok (.iload_n 1, 1) := by decide +kernel
theorem dX2_trainIn_16 : decode cX2_trainIn 16 = .ok (.if_icmp .ne 5, 3) := by decide +kernel
theorem dX2_trainIn_19 : decode cX2_trainIn 19 = .ok (.iload_n 2, 1) := by decide +kernel
theorem dX2_trainIn_20 : decode cX2_trainIn 20 = .ok (.ireturn, 1) := by decide +kernel
theorem dX2_trainIn_21 : decode cX2_trainIn 21 = .ok (.iinc 2 1, 3) := by decide +kernel
theorem dX2_trainIn_24 : decode cX2_trainIn 24 = .ok (.goto (-22), 3) := by decide +kernel
theorem dX2_trainIn_27 : decode cX2_trainIn 27 = .ok (.bipush (-6), 2) := by decide +kernel
theorem dX2_trainIn_29 : decode cX2_trainIn 29 = .ok (.ireturn, 1) := by decide +kernel
set_option maxRecDepth 20000 in
theorem ggX2_trainAhead_X2_nextPlace : GoodIn wsX2_trainAhead wsX2_nextPlace := goodIn_r _ [7, 8, 9, 2, 19, 20, 21, 22, 23, 24, 25, 26, 27, 28, 29, 30] (by decide +kernel) (by decide +kernel)
set_option maxRecDepth 20000 in
theorem gX2_trainAhead_X2_nextPlace : GoodIn wsX2_trainAhead (wsV RX2 90 RX2 yX2_nextPlace wsX2_nextPlace) := goodIn_app (goodIn_of _ (by decide +kernel)) ggX2_trainAhead_X2_nextPlace
set_option maxRecDepth 20000 in
theorem ggX2_trainAhead_X2_trainIn : GoodIn wsX2_trainAhead wsX2_trainIn := goodIn_r _ [13, 14, 15, 16, 17, 6, 18, 1, 2, 8, 19, 20, 21, 22, 23, 24, 25, 26, 27, 28, 29, 30] (by decide +kernel) (by decide +kernel)
set_option maxRecDepth 20000 in
theorem gX2_trainAhead_X2_trainIn : GoodIn wsX2_trainAhead (wsV RX2 64 RX2 yX2_trainIn wsX2_trainIn) := goodIn_app (goodIn_of _ (by decide +kernel)) ggX2_trainAhead_X2_trainIn
theorem dX2_trainAhead_0 : decode cX2_trainAhead 0 = .ok (.aload_n 0, 1) := by decide +kernel
theorem dX2_trainAhead_1 : decode cX2_trainAhead 1 = .ok (.aload_n 0, 1) := by decide +kernel
theorem dX2_trainAhead_2 : decode cX2_trainAhead 2 = .ok (.getfield 13, 3) := by decide +kernel
theorem dX2_trainAhead_5 : decode cX2_trainAhead 5 = .ok (.aload_n 0, 1) := by decide +kernel
theorem dX2_trainAhead_6 : decode cX2_trainAhead 6 = .ok (.getfield 20, 3) := by decide +kernel
theorem dX2_trainAhead_9 : decode cX2_trainAhead 9 = .ok (.iload_n 1, 1) := by decide +kernel
theorem dX2_trainAhead_10 : decode cX2_trainAhead 10 = .ok (.iaload, 1) := by decide +kernel
theorem dX2_trainAhead_11 : decode cX2_trainAhead 11 = .ok (.aaload, 1) := by decide +kernel
theorem dX2_trainAhead_12 : decode cX2_trainAhead 12 = .ok (.aload_n 0, 1) := by decide +kernel
theorem dX2_trainAhead_13 : decode cX2_trainAhead 13 = .ok (.iload_n 1, 1) := by decide +kernel
theorem dX2_trainAhead_14 : decode cX2_trainAhead 14 = .ok (.invokevirtual 90, 3) := by decide +kernel
theorem dX2_trainAhead_17 : decode cX2_trainAhead 17 = .ok (.iaload, 1) := by decide +kernel
theorem dX2_trainAhead_18 : decode cX2_trainAhead 18 = .ok (.invokevirtual 64, 3) := by decide +kernel
theorem dX2_trainAhead_21 : decode cX2_trainAhead 21 = .ok (.ireturn, 1) := by decide +kernel
set_option maxRecDepth 20000 in
theorem ggX2_goesOn_X2_trainAhead : GoodIn wsX2_goesOn wsX2_trainAhead := goodIn_r _ [10, 11, 12, 13, 14, 15, 9, 16, 4, 17, 18, 19, 20, 21, 22, 23, 24, 25, 26, 27, 28, 29, 30, 31, 32, 33, 34, 35, 36, 37, 38] (by decide +kernel) (by decide +kernel)
set_option maxRecDepth 20000 in
theorem gX2_goesOn_X2_trainAhead : GoodIn wsX2_goesOn (wsV RX2 84 RX2 yX2_trainAhead wsX2_trainAhead) := goodIn_app (goodIn_of _ (by decide +kernel)) ggX2_goesOn_X2_trainAhead
set_option maxRecDepth 20000 in
theorem ggX2_goesOn_X2_nextPlace : GoodIn wsX2_goesOn wsX2_nextPlace := goodIn_r _ [16, 4, 17, 12, 27, 28, 29, 30, 31, 32, 33, 34, 35, 36, 37, 38] (by decide +kernel) (by decide +kernel)
set_option maxRecDepth 20000 in
theorem gX2_goesOn_X2_nextPlace : GoodIn wsX2_goesOn (wsV RX2 90 RX2 yX2_nextPlace wsX2_nextPlace) := goodIn_app (goodIn_of _ (by decide +kernel)) ggX2_goesOn_X2_nextPlace
theorem dX2_goesOn_0 : decode cX2_goesOn 0 = .ok (.aload_n 0, 1) := by decide +kernel
theorem dX2_goesOn_1 : decode cX2_goesOn 1 = .ok (.getfield 29, 3) := by decide +kernel
theorem dX2_goesOn_4 : decode cX2_goesOn 4 = .ok (.iload_n 1, 1) := by decide +kernel
theorem dX2_goesOn_5 : decode cX2_goesOn 5 = .ok (.dup2, 1) := by decide +kernel
theorem dX2_goesOn_6 : decode cX2_goesOn 6 = .ok (.iaload, 1) := by decide +kernel
theorem dX2_goesOn_7 : decode cX2_goesOn 7 = .ok (.iconst 1, 1) := by decide +kernel
theorem dX2_goesOn_8 : decode cX2_goesOn 8 = .ok (.iadd, 1) := by decide +kernel
theorem dX2_goesOn_9 : decode cX2_goesOn 9 = .ok (.iastore, 1) := by decide +kernel
theorem dX2_goesOn_10 : decode cX2_goesOn 10 = .ok (.aload_n 0, 1) := by decide +kernel
theorem dX2_goesOn_11 : decode cX2_goesOn 11 = .ok (.getfield 29, 3) := by decide +kernel
theorem dX2_goesOn_14 : decode cX2_goesOn 14 = .ok (.iload_n 1, 1) := by decide +kernel
theorem dX2_goesOn_15 : decode cX2_goesOn 15 = .ok (.iaload, 1) := by decide +kernel
theorem dX2_goesOn_16 : decode cX2_goesOn 16 = .ok (.aload_n 0, 1) := by decide +kernel
theorem dX2_goesOn_17 : decode cX2_goesOn 17 = .ok (.getfield 26, 3) := by decide +kernel
theorem dX2_goesOn_20 : decode cX2_goesOn 20 = .ok (.iload_n 1, 1) := by decide +kernel
theorem dX2_goesOn_21 : decode cX2_goesOn 21 = .ok (.iaload, 1) := by decide +kernel
theorem dX2_goesOn_22 : decode cX2_goesOn 22 = .ok (.if_icmp .ge 5, 3) := by decide +kernel
theorem dX2_goesOn_25 : decode cX2_goesOn 25 = .ok (.iconst 0, 1) := by decide +kernel
theorem dX2_goesOn_26 : decode cX2_goesOn 26 = .ok (.ireturn, 1) := by decide +kernel
theorem dX2_goesOn_27 : decode cX2_goesOn 27 = .ok (.aload_n 0, 1) := by decide +kernel
theorem dX2_goesOn_28 : decode cX2_goesOn 28 = .ok (.iload_n 1, 1) := by decide +kernel
theorem dX2_goesOn_29 : decode cX2_goesOn 29 = .ok (.invokevirtual 84, 3) := by decide +kernel
theorem dX2_goesOn_32 : decode cX2_goesOn 32 = .ok (.bipush (-6), 2) := by decide +kernel
theorem dX2_goesOn_34 : decode cX2_goesOn 34 = .ok (.if_icmp .eq 15, 3) := by decide +kernel
theorem dX2_goesOn_37 : decode cX2_goesOn 37 = .ok (.aload_n 0, 1) := by decide +kernel
theorem dX2_goesOn_38 : decode cX2_goesOn 38 = .ok (.getfield 32, 3) := by decide +kernel
theorem dX2_goesOn_41 : decode cX2_goesOn 41 = .ok (.iload_n 1, 1) := by decide +kernel
theorem dX2_goesOn_42 : decode cX2_goesOn 42 = .ok (.dup2, 1) := by decide +kernel
theorem dX2_goesOn_43 : decode cX2_goesOn 43 = .ok (.iaload, 1) := by decide +kernel
theorem dX2_goesOn_44 : decode cX2_goesOn 44 = .ok (.iconst 1, 1) := by decide +kernel
theorem dX2_goesOn_45 : decode cX2_goesOn 45 = .ok (.iadd, 1) := by decide +kernel
theorem dX2_goesOn_46 : decode cX2_goesOn 46 = .ok (.iastore, 1) := by decide +kernel
theorem dX2_goesOn_47 : decode cX2_goesOn 47 = .ok (.iconst 0, 1) := by decide +kernel
theorem dX2_goesOn_48 : decode cX2_goesOn 48 = .ok (.ireturn, 1) := by decide +kernel
theorem dX2_goesOn_49 : decode cX2_goesOn 49 = .ok (.aload_n 0, 1) := by decide +kernel
theorem dX2_goesOn_50 : decode cX2_goesOn 50 = .ok (.getfield 23, 3) := by decide +kernel
theorem dX2_goesOn_53 : decode cX2_goesOn 53 = .ok (.iload_n 1, 1) := by decide +kernel
theorem dX2_goesOn_54 : decode cX2_goesOn 54 = .ok (.aload_n 0, 1) := by decide +kernel
theorem dX2_goesOn_55 : decode cX2_goesOn 55 = .ok (.iload_n 1, 1) := by decide +kernel
theorem dX2_goesOn_56 : decode cX2_goesOn 56 = .ok (.invokevirtual 90, 3) := by decide +kernel
theorem dX2_goesOn_59 : decode cX2_goesOn 59 = .ok (.iastore, 1) := by decide +kernel
theorem dX2_goesOn_60 : decode cX2_goesOn 60 = .ok (.aload_n 0, 1) := by decide +kernel
theorem dX2_goesOn_61 : decode cX2_goesOn 61 = .ok (.getfield 29, 3) := by decide +kernel
theorem dX2_goesOn_64 : decode cX2_goesOn 64 = .ok (.iload_n 1, 1) := by decide +kernel
theorem dX2_goesOn_65 : decode cX2_goesOn 65 = .ok (.iconst 0, 1) := by decide +kernel
theorem dX2_goesOn_66 : decode cX2_goesOn 66 = .ok (.iastore, 1) := by decide +kernel
theorem dX2_goesOn_67 : decode cX2_goesOn 67 = .ok (.aload_n 0, 1) := by decide +kernel
theorem dX2_goesOn_68 : decode cX2_goesOn 68 = .ok (.getfield 35, 3) := by decide +kernel
theorem dX2_goesOn_71 : decode cX2_goesOn 71 = .ok (.iload_n 1, 1) := by decide +kernel
theorem dX2_goesOn_72 : decode cX2_goesOn 72 = .ok (.dup2, 1) := by decide +kernel
theorem dX2_goesOn_73 : decode cX2_goesOn 73 = .ok (.iaload, 1) := by decide +kernel
theorem dX2_goesOn_74 : decode cX2_goesOn 74 = .ok (.iconst 1, 1) := by decide +kernel
theorem dX2_goesOn_75 : decode cX2_goesOn 75 = .ok (.iadd, 1) := by decide +kernel
theorem dX2_goesOn_76 : decode cX2_goesOn 76 = .ok (.iastore, 1) := by decide +kernel
theorem dX2_goesOn_77 : decode cX2_goesOn 77 = .ok (.iconst 1, 1) := by decide +kernel
theorem dX2_goesOn_78 : decode cX2_goesOn 78 = .ok (.ireturn, 1) := by decide +kernel
set_option maxRecDepth 20000 in
theorem ggX2_mayGoOn_X2_trainAhead : GoodIn wsX2_mayGoOn wsX2_trainAhead := goodIn_r _ [6, 7, 8, 9, 10, 11, 5, 12, 13, 14, 15, 16, 17, 18, 19, 20, 21, 22, 23, 24, 25, 26, 27, 28, 29, 30, 31, 32, 33, 34, 35] (by decide +kernel) (by decide +kernel)
set_option maxRecDepth 20000 in
theorem gX2_mayGoOn_X2_trainAhead : GoodIn wsX2_mayGoOn (wsV RX2 84 RX2 yX2_trainAhead wsX2_trainAhead) := goodIn_app (goodIn_of _ (by decide +kernel)) ggX2_mayGoOn_X2_trainAhead
theorem dX2_mayGoOn_0 : decode cX2_mayGoOn 0 = .ok (.aload_n 0, 1) := by decide +kernel
theorem dX2_mayGoOn_1 : decode cX2_mayGoOn 1 = .ok (.getfield 38, 3) := by decide +kernel
theorem dX2_mayGoOn_4 : decode cX2_mayGoOn 4 = .ok (.iload_n 1, 1) := by decide +kernel
theorem dX2_mayGoOn_5 : decode cX2_mayGoOn 5 = .ok (.baload, 1) := by decide +kernel
theorem dX2_mayGoOn_6 : decode cX2_mayGoOn 6 = .ok (.ifCond .eq 5, 3) := by decide +kernel
theorem dX2_mayGoOn_9 : decode cX2_mayGoOn 9 = .ok (.iconst 0, 1) := by decide +kernel
theorem dX2_mayGoOn_10 : decode cX2_mayGoOn 10 = .ok (.ireturn, 1) := by decide +kernel
theorem dX2_mayGoOn_11 : decode cX2_mayGoOn 11 = .ok (.aload_n 0, 1) := by decide +kernel
theorem dX2_mayGoOn_12 : decode cX2_mayGoOn 12 = .ok (.iload_n 1, 1) := by decide +kernel
theorem dX2_mayGoOn_13 : decode cX2_mayGoOn 13 = .ok (.invokevirtual 84, 3) := by decide +kernel
theorem dX2_mayGoOn_16 : decode cX2_mayGoOn 16 = .ok (.istore_n 3, 1) := by decide +kernel
theorem dX2_mayGoOn_17 : decode cX2_mayGoOn 17 = .ok (.iload_n 3, 1) := by decide +kernel
theorem dX2_mayGoOn_18 : decode cX2_mayGoOn 18 = .ok (.bipush (-6), 2) := by decide +kernel
theorem dX2_mayGoOn_20 : decode cX2_mayGoOn 20 = .ok (.if_icmp .eq 11, 3) := by decide +kernel
theorem dX2_mayGoOn_23 : decode cX2_mayGoOn 23 = .ok (.iload_n 2, 1) := by decide +kernel
theorem dX2_mayGoOn_24 : decode cX2_mayGoOn 24 = .ok (.iload_n 3, 1) := by decide +kernel
theorem dX2_mayGoOn_25 : decode cX2_mayGoOn 25 = .ok (.ishr, 1) := by decide +kernel
theorem dX2_mayGoOn_26 : decode cX2_mayGoOn 26 = .ok (.iconst 1, 1) := by decide +kernel
theorem dX2_mayGoOn_27 : decode cX2_mayGoOn 27 = .ok (.iand, 1) := by decide +kernel
theorem dX2_mayGoOn_28 : decode cX2_mayGoOn 28 = .ok (.ifCond .ne 7, 3) := by decide +kernel
theorem dX2_mayGoOn_31 : decode cX2_mayGoOn 31 = .ok (.iconst 1, 1) := by decide +kernel
theorem dX2_mayGoOn_32 : decode cX2_mayGoOn 32 = .ok (.goto 4, 3) := by decide +kernel
theorem dX2_mayGoOn_35 : decode cX2_mayGoOn 35 = .ok (.iconst 0, 1) := by decide +kernel
theorem dX2_mayGoOn_36 : decode cX2_mayGoOn 36 = .ok (.ireturn, 1) := by decide +kernel
theorem dX3_init_0 : decode cX3_init 0 = .ok (.aload_n 0, 1) := by decide +kernel
theorem dX3_init_1 : decode cX3_init 1 = .ok (.invokespecial 3, 3) := by decide +kernel
theorem dX3_init_4 : decode cX3_init 4 = .ok (.aload_n 0, 1) := by decide +kernel
theorem dX3_init_5 : decode cX3_init 5 = .ok (.bipush 6, 2) := by decide +kernel
theorem dX3_init_7 : decode cX3_init 7 = .ok (.newarray .int, 2) := by decide +kernel
theorem dX3_init_9 : decode cX3_init 9 = .ok (.putfield 11, 3) := by decide +kernel
theorem dX3_init_12 : decode cX3_init 12 = .ok (.aload_n 0, 1) := by decide +kernel
theorem dX3_init_13 : decode cX3_init 13 = .ok (.bipush 6, 2) := by decide +kernel
theorem dX3_init_15 : decode cX3_init 15 = .ok (.newarray .int, 2) := by decide +kernel
theorem dX3_init_17 : decode cX3_init 17 = .ok (.putfield 15, 3) := by decide +kernel
theorem dX3_init_20 : decode cX3_init 20 = .ok (.aload_n 0, 1) := by decide +kernel
theorem dX3_init_21 : decode cX3_init 21 = .ok (.bipush 6, 2) := by decide +kernel
theorem dX3_init_23 : decode cX3_init 23 = .ok (.newarray .int, 2) := by decide +kernel
theorem dX3_init_25 : decode cX3_init 25 = .ok (.putfield 18, 3) := by decide +kernel
theorem dX3_init_28 : decode cX3_init 28 = .ok (.aload_n 0, 1) := by decide +kernel
theorem dX3_init_29 : decode cX3_init 29 = .ok (.bipush 20, 2) := by decide +kernel
theorem dX3_init_31 : decode cX3_init 31 = .ok (.newarray .int, 2) := by decide +kernel
theorem dX3_init_33 : decode cX3_init 33 = .ok (.putfield 21, 3) := by decide +kernel
theorem dX3_init_36 : decode cX3_init 36 = .ok (.aload_n 0, 1) := by decide +kernel
theorem dX3_init_37 : decode cX3_init 37 = .ok (.bipush 20, 2) := by decide +kernel
theorem dX3_init_39 : decode cX3_init 39 = .ok (.newarray .int, 2) := by decide +kernel
theorem dX3_init_41 : decode cX3_init 41 = .ok (.putfield 24, 3) := by decide +kernel
theorem dX3_init_44 : decode cX3_init 44 = .ok (.aload_n 0, 1) := by decide +kernel
theorem dX3_init_45 : decode cX3_init 45 = .ok (.bipush 20, 2) := by decide +kernel
theorem dX3_init_47 : decode cX3_init 47 = .ok (.newarray .int, 2) := by decide +kernel
theorem dX3_init_49 : decode cX3_init 49 = .ok (.putfield 27, 3) := by decide +kernel
theorem dX3_init_52 : decode cX3_init 52 = .ok (.aload_n 0, 1) := by decide +kernel
theorem dX3_init_53 : decode cX3_init 53 = .ok (.bipush 20, 2) := by decide +kernel
theorem dX3_init_55 : decode cX3_init 55 = .ok (.newarray .int, 2) := by decide +kernel
theorem dX3_init_57 : decode cX3_init 57 = .ok (.putfield 30, 3) := by decide +kernel
theorem dX3_init_60 : decode cX3_init 60 = .ok (.aload_n 0, 1) := by decide +kernel
theorem dX3_init_61 : decode cX3_init 61 = .ok (.bipush 60, 2) := by decide +kernel
theorem dX3_init_63 : decode cX3_init 63 = .ok (.newarray .int, 2) := by decide +kernel
theorem dX3_init_65 : decode cX3_init 65 = .ok (.putfield 33, 3) := by decide +kernel
theorem dX3_init_68 : decode cX3_init 68 = .ok (.aload_n 0, 1) := by decide +kernel
theorem dX3_init_69 : decode cX3_init 69 = .ok (.bipush 60, 2) := by decide +kernel
theorem dX3_init_71 : decode cX3_init 71 = .ok (.newarray .int, 2) := by decide +kernel
theorem dX3_init_73 : decode cX3_init 73 = .ok (.putfield 36, 3) := by decide +kernel
theorem dX3_init_76 : decode cX3_init 76 = .ok (.aload_n 0, 1) := by decide +kernel
theorem dX3_init_77 : decode cX3_init 77 = .ok (.bipush 60, 2) := by decide +kernel
theorem dX3_init_79 : decode cX3_init 79 = .ok (.newarray .int, 2) := by decide +kernel
theorem dX3_init_81 : decode cX3_init 81 = .ok (.putfield 39, 3) := by decide +kernel
theorem dX3_init_84 : decode cX3_init 84 = .ok (.return_, 1) := by decide +kernel
set_option maxRecDepth 20000 in
theorem ggX3_addRule_X4_isDay : GoodIn wsX3_addRule wsX4_isDay := goodIn_r _ [7, 8, 9, 6, 10] (by decide +kernel) (by decide +kernel)
set_option maxRecDepth 20000 in
theorem gX3_addRule_X4_isDay_n42 : GoodIn wsX3_addRule (wsX4_isDay) := ggX3_addRule_X4_isDay
set_option maxRecDepth 20000 in
theorem ggX3_addRule_X4_isWithin : GoodIn wsX3_addRule wsX4_isWithin := goodIn_r _ [10] (by decide +kernel) (by decide +kernel)
set_option maxRecDepth 20000 in
theorem gX3_addRule_X4_isWithin_n46 : GoodIn wsX3_addRule (wsX4_isWithin) := ggX3_addRule_X4_isWithin
theorem dX3_addRule_0 : decode cX3_addRule 0 = .ok (.iload_n 1, 1) := by decide +kernel
theorem dX3_addRule_1 : decode cX3_addRule 1 = .ok (.invokestatic 42, 3) := by decide +kernel
theorem dX3_addRule_4 : decode cX3_addRule 4 = .ok (.ifCond .eq 23, 3) := by decide +kernel
theorem dX3_addRule_7 : decode cX3_addRule 7 = .ok (.iload_n 2, 1) := by decide +kernel
theorem dX3_addRule_8 : decode cX3_addRule 8 = .ok (.iconst 2, 1) := by decide +kernel
theorem dX3_addRule_9 : decode cX3_addRule 9 = .ok (.bipush 30, 2) := by decide +kernel
theorem dX3_addRule_11 : decode cX3_addRule 11 = .ok (.invokestatic 46, 3) := by decide +kernel
theorem dX3_addRule_14 : decode cX3_addRule 14 = .ok (.ifCond .eq 13, 3) := by decide +kernel
theorem dX3_addRule_17 : decode cX3_addRule 17 = .ok (.iload_n 3, 1) := by decide +kernel
theorem dX3_addRule_18 : decode cX3_addRule 18 = .ok (.iconst 0, 1) := by decide +kernel
theorem dX3_addRule_19 : decode cX3_addRule 19 = .ok (.bipush 50, 2) := by decide +kernel
theorem dX3_addRule_21 : decode cX3_addRule 21 = .ok (.invokestatic 46, 3) := by decide +kernel
theorem dX3_addRule_24 : decode cX3_addRule 24 = .ok (.ifCond .ne 6, 3) := by decide +kernel
theorem dX3_addRule_27 : decode cX3_addRule 27 = .ok (.bipush (-2), 2) := by decide +kernel
theorem dX3_addRule_29 : decode cX3_addRule 29 = .ok (.ireturn, 1) := by decide +kernel
theorem dX3_addRule_30 : decode cX3_addRule 30 = .ok (.aload_n 0, 1) := by decide +kernel
theorem dX3_addRule_31 : decode cX3_addRule 31 = .ok (.getfield 50, 3) := by decide +kernel
theorem dX3_addRule_34 : decode cX3_addRule 34 = .ok (.bipush 6, 2) := by decide +kernel
theorem dX3_addRule_36 : decode cX3_addRule 36 = .ok (.if_icmp .lt 6, 3) := by decide +kernel
theorem dX3_addRule_39 : decode cX3_addRule 39 = .ok (.bipush (-4), 2) := by decide +kernel
theorem dX3_addRule_41 : decode cX3_addRule 41 = .ok (.ireturn, 1) := by decide +kernel
theorem dX3_addRule_42 : decode cX3_addRule 42 = .ok (.aload_n 0, 1) := by decide +kernel
theorem dX3_addRule_43 : decode cX3_addRule 43 = .ok (.getfield 11, 3) := by decide +kernel
theorem dX3_addRule_46 : decode cX3_addRule 46 = .ok (.aload_n 0, 1) := by decide +kernel
theorem dX3_addRule_47 : decode cX3_addRule 47 = .ok (.getfield 50, 3) := by decide +kernel
theorem dX3_addRule_50 : decode cX3_addRule 50 = .ok (.iload_n 1, 1) := by decide +kernel
theorem dX3_addRule_51 : decode cX3_addRule 51 = .ok (.iastore, 1) := by decide +kernel
theorem dX3_addRule_52 : decode cX3_addRule 52 = .ok (.aload_n 0, 1) := by decide +kernel
theorem dX3_addRule_53 : decode cX3_addRule 53 = .ok (.getfield 15, 3) := by decide +kernel
theorem dX3_addRule_56 : decode cX3_addRule 56 = .ok (.aload_n 0, 1) := by decide +kernel
theorem dX3_addRule_57 : decode cX3_addRule 57 = .ok (.getfield 50, 3) := by decide +kernel
theorem dX3_addRule_60 : decode cX3_addRule 60 = .ok (.iload_n 2, 1) := by decide +kernel
theorem dX3_addRule_61 : decode cX3_addRule 61 = .ok (.iastore, 1) := by decide +kernel
theorem dX3_addRule_62 : decode cX3_addRule 62 = .ok (.aload_n 0, 1) := by decide +kernel
theorem dX3_addRule_63 : decode cX3_addRule 63 = .ok (.getfield 18, 3) := by decide +kernel
theorem dX3_addRule_66 : decode cX3_addRule 66 = .ok (.aload_n 0, 1) := by decide +kernel
theorem dX3_addRule_67 : decode cX3_addRule 67 = .ok (.getfield 50, 3) := by decide +kernel
theorem dX3_addRule_70 : decode cX3_addRule 70 = .ok (.iload_n 3, 1) := by decide +kernel
theorem dX3_addRule_71 : decode cX3_addRule 71 = .ok (.iastore, 1) := by decide +kernel
theorem dX3_addRule_72 : decode cX3_addRule 72 = .ok (.aload_n 0, 1) := by decide +kernel
theorem dX3_addRule_73 : decode cX3_addRule 73 = .ok (.dup, 1) := by decide +kernel
theorem dX3_addRule_74 : decode cX3_addRule 74 = .ok (.getfield 50, 3) := by decide +kernel
theorem dX3_addRule_77 : decode cX3_addRule 77 = .ok (.iconst 1, 1) := by decide +kernel
theorem dX3_addRule_78 : decode cX3_addRule 78 = .ok (.iadd, 1) := by decide +kernel
theorem dX3_addRule_79 : decode cX3_addRule 79 = .ok (.putfield 50, 3) := by decide +kernel
theorem dX3_addRule_82 : decode cX3_addRule 82 = .ok (.aload_n 0, 1) := by decide +kernel
theorem dX3_addRule_83 : decode cX3_addRule 83 = .ok (.getfield 50, 3) := by decide +kernel
theorem dX3_addRule_86 : decode cX3_addRule 86 = .ok (.ireturn, 1) := by decide +kernel
set_option maxRecDepth 20000 in
theorem ggX3_inForce_X4_isDay : GoodIn wsX3_inForce wsX4_isDay := goodIn_r _ [3, 4, 5, 2, 6] (by decide +kernel) (by decide +kernel)
set_option maxRecDepth 20000 in
theorem gX3_inForce_X4_isDay_n42 : GoodIn wsX3_inForce (wsX4_isDay) := ggX3_inForce_X4_isDay
set_option maxRecDepth 20000 in
theorem ggX3_inForce_X4_isWithin : GoodIn wsX3_inForce wsX4_isWithin := goodIn_r _ [6] (by decide +kernel) (by decide +kernel)
set_option maxRecDepth 20000 in
theorem gX3_inForce_X4_isWithin_n46 : GoodIn wsX3_inForce (wsX4_isWithin) := ggX3_inForce_X4_isWithin
set_option maxRecDepth 20000 in
theorem ggX3_inForce_X3_ratioOn : GoodIn wsX3_inForce wsX3_ratioOn := goodIn_r _ [11, 12, 13, 14, 15, 10, 16, 17, 18, 24, 25, 26, 27, 28, 29, 30, 31, 32, 33, 34, 35, 36] (by decide +kernel) (by decide +kernel)
set_option maxRecDepth 20000 in
theorem gX3_inForce_X3_ratioOn : GoodIn wsX3_inForce (wsV RX3 54 RX3 yX3_ratioOn wsX3_ratioOn) := goodIn_app (goodIn_of _ (by decide +kernel)) ggX3_inForce_X3_ratioOn
set_option maxRecDepth 20000 in
theorem ggX3_inForce_X3_slackOn : GoodIn wsX3_inForce wsX3_slackOn := goodIn_r _ [22, 23, 13, 14, 15, 10, 16, 17, 18, 24, 25, 26, 27, 28, 29, 30, 31, 32, 33, 34, 35, 36] (by decide +kernel) (by decide +kernel)
set_option maxRecDepth 20000 in
theorem gX3_inForce_X3_slackOn : GoodIn wsX3_inForce (wsV RX3 58 RX3 yX3_slackOn wsX3_slackOn) := goodIn_app (goodIn_of _ (by decide +kernel)) ggX3_inForce_X3_slackOn
theorem dX3_inForce_0 : decode cX3_inForce 0 = .ok (.iload_n 1, 1) := by decide +kernel
theorem dX3_inForce_1 : decode cX3_inForce 1 = .ok (.invokestatic 42, 3) := by decide +kernel
theorem dX3_inForce_4 : decode cX3_inForce 4 = .ok (.ifCond .eq 12, 3) := by decide +kernel
theorem dX3_inForce_7 : decode cX3_inForce 7 = .ok (.iload_n 2, 1) := by decide +kernel
theorem dX3_inForce_8 : decode cX3_inForce 8 = .ok (.iconst 0, 1) := by decide +kernel
theorem dX3_inForce_9 : decode cX3_inForce 9 = .ok (.iconst 1, 1) := by decide +kernel
theorem dX3_inForce_10 : decode cX3_inForce 10 = .ok (.invokestatic 46, 3) := by decide +kernel
theorem dX3_inForce_13 : decode cX3_inForce 13 = .ok (.ifCond .ne 6, 3) := by decide +kernel
theorem dX3_inForce_16 : decode cX3_inForce 16 = .ok (.bipush (-2), 2) := by decide +kernel
theorem dX3_inForce_18 : decode cX3_inForce 18 = .ok (.ireturn, 1) := by decide +kernel
theorem dX3_inForce_19 : decode cX3_inForce 19 = .ok (.iload_n 2, 1) := by decide +kernel
theorem dX3_inForce_20 : decode cX3_inForce 20 = .ok (.ifCond .ne 11, 3) := by decide +kernel
theorem dX3_inForce_23 : decode cX3_inForce 23 = .ok (.aload_n 0, 1) := by decide +kernel
theorem dX3_inForce_24 : decode cX3_inForce 24 = .ok (.iload_n 1, 1) := by decide +kernel
theorem dX3_inForce_25 : decode cX3_inForce 25 = .ok (.invokevirtual 54, 3) := by decide +kernel
theorem dX3_inForce_28 : decode cX3_inForce 28 = .ok (.goto 8, 3) := by decide +kernel
theorem dX3_inForce_31 : decode cX3_inForce 31 = .ok (.aload_n 0, 1) := by decide +kernel
theorem dX3_inForce_32 : decode cX3_inForce 32 = .ok (.iload_n 1, 1) := by decide +kernel
theorem dX3_inForce_33 : decode cX3_inForce 33 = .ok (.invokevirtual 58, 3) := by decide +kernel
theorem dX3_inForce_36 : decode cX3_inForce 36 = .ok (.ireturn, 1) := by decide +kernel
set_option maxRecDepth 20000 in
theorem ggX3_addThing_X4_isWithin : GoodIn wsX3_addThing wsX4_isWithin := goodIn_r _ [9] (by decide +kernel) (by decide +kernel)
set_option maxRecDepth 20000 in
theorem gX3_addThing_X4_isWithin_n46 : GoodIn wsX3_addThing (wsX4_isWithin) := ggX3_addThing_X4_isWithin
theorem dX3_addThing_0 : decode cX3_addThing 0 = .ok (.iload_n 1, 1) := by decide +kernel
theorem dX3_addThing_1 : decode cX3_addThing 1 = .ok (.iconst 0, 1) := by decide +kernel
theorem dX3_addThing_2 : decode cX3_addThing 2 = .ok (.iconst 2, 1) := by decide +kernel
theorem dX3_addThing_3 : decode cX3_addThing 3 = .ok (.invokestatic 46, 3) := by decide +kernel
theorem dX3_addThing_6 : decode cX3_addThing 6 = .ok (.ifCond .eq 36, 3) := by decide +kernel
theorem dX3_addThing_9 : decode cX3_addThing 9 = .ok (.iload_n 2, 1) := by decide +kernel
theorem dX3_addThing_10 : decode cX3_addThing 10 = .ok (.bipush 100, 2) := by decide +kernel
theorem dX3_addThing_12 : decode cX3_addThing 12 = .ok (.ldc 61, 2) := by decide +kernel
theorem dX3_addThing_14 : decode cX3_addThing 14 = .ok (.invokestatic 46, 3) := by decide +kernel
theorem dX3_addThing_17 : decode cX3_addThing 17 = .ok (.ifCond .eq 25, 3) := by decide +kernel
theorem dX3_addThing_20 : decode cX3_addThing 20 = .ok (.iload_n 3, 1) := by decide +kernel
theorem dX3_addThing_21 : decode cX3_addThing 21 = .ok (.iconst 1, 1) := by decide +kernel
theorem dX3_addThing_22 : decode cX3_addThing 22 = .ok (.sipush 9000, 3) := by decide +kernel
theorem dX3_addThing_25 : decode cX3_addThing 25 = .ok (.invokestatic 46, 3) := by decide +kernel
theorem dX3_addThing_28 : decode cX3_addThing 28 = .ok (.ifCond .eq 14, 3) := by decide +kernel
theorem dX3_addThing_31 : decode cX3_addThing 31 = .ok (.iload 4, 2) := by decide +kernel
theorem dX3_addThing_33 : decode cX3_addThing 33 = .ok (.iconst 0, 1) := by decide +kernel
theorem dX3_addThing_34 : decode cX3_addThing 34 = .ok (.bipush 50, 2) := by decide +kernel
theorem dX3_addThing_36 : decode cX3_addThing 36 = .ok (.invokestatic 46, 3) := by decide +kernel
theorem dX3_addThing_39 : decode cX3_addThing 39 = .ok (.ifCond .ne 6, 3) := by decide +kernel
theorem dX3_addThing_42 : decode cX3_addThing 42 = .ok (.bipush (-2), 2) := by decide +kernel
theorem dX3_addThing_44 : decode cX3_addThing 44 = .ok (.ireturn, 1) := by decide +kernel
theorem dX3_addThing_45 : decode cX3_addThing 45 = .ok (.aload_n 0, 1) := by decide +kernel
theorem dX3_addThing_46 : decode cX3_addThing 46 = .ok (.getfield 62, 3) := by decide +kernel
theorem dX3_addThing_49 : decode cX3_addThing 49 = .ok (.bipush 20, 2) := by decide +kernel
theorem dX3_addThing_51 : decode cX3_addThing 51 = .ok (.if_icmp .lt 6, 3) := by decide +kernel
theorem dX3_addThing_54 : decode cX3_addThing 54 = .ok (.bipush (-4), 2) := by decide +kernel
theorem dX3_addThing_56 : decode cX3_addThing 56 = .ok (.ireturn, 1) := by decide +kernel
theorem dX3_addThing_57 : decode cX3_addThing 57 = .ok (.aload_n 0, 1) := by decide +kernel
theorem dX3_addThing_58 : decode cX3_addThing 58 = .ok (.getfield 21, 3) := by decide +kernel
theorem dX3_addThing_61 : decode cX3_addThing 61 = .ok (.aload_n 0, 1) := by decide +kernel
theorem dX3_addThing_62 : decode cX3_addThing 62 = .ok (.getfield 62, 3) := by decide +kernel
theorem dX3_addThing_65 : decode cX3_addThing 65 = .ok (.iload_n 1, 1) := by decide +kernel
theorem dX3_addThing_66 : decode cX3_addThing 66 = .ok (.iastore, 1) := by decide +kernel
theorem dX3_addThing_67 : decode cX3_addThing 67 = .ok (.aload_n 0, 1) := by decide +kernel
theorem dX3_addThing_68 : decode cX3_addThing 68 = .ok (.getfield 24, 3) := by decide +kernel
theorem dX3_addThing_71 : decode cX3_addThing 71 = .ok (.aload_n 0, 1) := by decide +kernel
theorem dX3_addThing_72 : decode cX3_addThing 72 = .ok (.getfield 62, 3) := by decide +kernel
theorem dX3_addThing_75 : decode cX3_addThing 75 = .ok (.iload_n 2, 1) := by decide +kernel
theorem dX3_addThing_76 : decode cX3_addThing 76 = .ok (.iastore, 1) := by decide +kernel
theorem dX3_addThing_77 : decode cX3_addThing 77 = .ok (.aload_n 0, 1) := by decide +kernel
theorem dX3_addThing_78 : decode cX3_addThing 78 = .ok (.getfield 27, 3) := by decide +kernel
theorem dX3_addThing_81 : decode cX3_addThing 81 = .ok (.aload_n 0, 1) := by decide +kernel
theorem dX3_addThing_82 : decode cX3_addThing 82 = .ok (.getfield 62, 3) := by decide +kernel
theorem dX3_addThing_85 : decode cX3_addThing 85 = .ok (.iload_n 3, 1) := by decide +kernel
theorem dX3_addThing_86 : decode cX3_addThing 86 = .ok (.iastore, 1) := by decide +kernel
theorem dX3_addThing_87 : decode cX3_addThing 87 = .ok (.aload_n 0, 1) := by decide +kernel
theorem dX3_addThing_88 : decode cX3_addThing 88 = .ok (.getfield 30, 3) := by decide +kernel
theorem dX3_addThing_91 : decode cX3_addThing 91 = .ok (.aload_n 0, 1) := by decide +kernel
theorem dX3_addThing_92 : decode cX3_addThing 92 = .ok (.getfield 62, 3) := by decide +kernel
theorem dX3_addThing_95 : decode cX3_addThing 95 = .ok (.iload_n 1, 1) := by decide +kernel
theorem dX3_addThing_96 : decode cX3_addThing 96 = .ok (.iconst 1, 1) := by decide +kernel
theorem dX3_addThing_97 : decode cX3_addThing 97 = .ok (.if_icmp .ne 8, 3) := by decide +kernel
theorem dX3_addThing_100 : decode cX3_addThing 100 = .ok (.iload 4, 2) := by decide +kernel
theorem dX3_addThing_102 : decode cX3_addThing 102 = .ok (.goto 4, 3) := by decide +kernel
theorem dX3_addThing_105 : decode cX3_addThing 105 = .ok (.iconst 0, 1) := by decide +kernel
theorem dX3_addThing_106 : decode cX3_addThing 106 = .ok (.iastore, 1) := by decide +kernel
theorem dX3_addThing_107 : decode cX3_addThing 107 = .ok (.aload_n 0, 1) := by decide +kernel
theorem dX3_addThing_108 : decode cX3_addThing 108 = .ok (.dup, 1) := by decide +kernel
theorem dX3_addThing_109 : decode cX3_addThing 109 = .ok (.getfield 62, 3) := by decide +kernel
theorem dX3_addThing_112 : decode cX3_addThing 112 = .ok (.iconst 1, 1) := by decide +kernel
theorem dX3_addThing_113 : decode cX3_addThing 113 = .ok (.iadd, 1) := by decide +kernel
theorem dX3_addThing_114 : decode cX3_addThing 114 = .ok (.putfield 62, 3) := by decide +kernel
theorem dX3_addThing_117 : decode cX3_addThing 117 = .ok (.aload_n 0, 1) := by decide +kernel
theorem dX3_addThing_118 : decode cX3_addThing 118 = .ok (.getfield 62, 3) := by decide +kernel
theorem dX3_addThing_121 : decode cX3_addThing 121 = .ok (.iconst 1, 1) := by decide +kernel
theorem dX3_addThing_122 : decode cX3_addThing 122 = .ok (.isub, 1) := by decide +kernel
theorem dX3_addThing_123 : decode cX3_addThing 123 = .ok (.ireturn, 1) := by decide +kernel
set_option maxRecDepth 20000 in
theorem ggX3_clipTree_X3_isThing : GoodIn wsX3_clipTree wsX3_isThing := goodIn_r _ [10, 11, 12, 13, 14, 28, 29, 30, 31, 32, 33, 34, 35, 36, 37, 38, 39, 40] (by decide +kernel) (by decide +kernel)
set_option maxRecDepth 20000 in
theorem gX3_clipTree_X3_isThing : GoodIn wsX3_clipTree (wsV RX3 65 RX3 yX3_isThing wsX3_isThing) := goodIn_app (goodIn_of _ (by decide +kernel)) ggX3_clipTree_X3_isThing
set_option maxRecDepth 20000 in
theorem ggX3_clipTree_X4_isDay : GoodIn wsX3_clipTree wsX4_isDay := goodIn_r _ [16, 17, 12, 13, 14] (by decide +kernel) (by decide +kernel)
set_option maxRecDepth 20000 in
theorem gX3_clipTree_X4_isDay_n42 : GoodIn wsX3_clipTree (wsX4_isDay) := ggX3_clipTree_X4_isDay
set_option maxRecDepth 20000 in
theorem ggX3_clipTree_X4_isWithin : GoodIn wsX3_clipTree wsX4_isWithin := goodIn_r _ [14] (by decide +kernel) (by decide +kernel)
set_option maxRecDepth 20000 in
theorem gX3_clipTree_X4_isWithin_n46 : GoodIn wsX3_clipTree (wsX4_isWithin) := ggX3_clipTree_X4_isWithin
set_option maxRecDepth 20000 in
theorem ggX3_clipTree_X3_clippingOn : GoodIn wsX3_clipTree wsX3_clippingOn := goodIn_r _ [21, 2, 4, 3, 28, 29, 30, 31, 32, 33, 34, 35, 36, 37, 38, 39, 40] (by decide +kernel) (by decide +kernel)
set_option maxRecDepth 20000 in
theorem gX3_clipTree_X3_clippingOn : GoodIn wsX3_clipTree (wsV RX3 71 RX3 yX3_clippingOn wsX3_clippingOn) := goodIn_app (goodIn_of _ (by decide +kernel)) ggX3_clipTree_X3_clippingOn
set_option maxRecDepth 20000 in
theorem ggX3_clipTree_X3_sizeOn : GoodIn wsX3_clipTree wsX3_sizeOn := goodIn_r _ [25, 3, 26, 5, 27, 18, 19, 20, 9, 21, 2, 4, 28, 29, 30, 31, 32, 33, 34, 35, 36, 37, 38, 39, 40] (by decide +kernel) (by decide +kernel)
set_option maxRecDepth 20000 in
theorem gX3_clipTree_X3_sizeOn : GoodIn wsX3_clipTree (wsV RX3 75 RX3 yX3_sizeOn wsX3_sizeOn) := goodIn_app (goodIn_of _ (by decide +kernel)) ggX3_clipTree_X3_sizeOn
theorem dX3_clipTree_0 : decode cX3_clipTree 0 = .ok (.aload_n 0, 1) := by decide +kernel
theorem dX3_clipTree_1 : decode cX3_clipTree 1 = .ok (.iload_n 1, 1) := by decide +kernel
theorem dX3_clipTree_2 : decode cX3_clipTree 2 = .ok (.invokevirtual 65, 3) := by decide +kernel
theorem dX3_clipTree_5 : decode cX3_clipTree 5 = .ok (.ifCond .ne 5, 3) := by decide +kernel
theorem dX3_clipTree_8 : decode cX3_clipTree 8 = .ok (.iconst (-1), 1) := by decide +kernel
theorem dX3_clipTree_9 : decode cX3_clipTree 9 = .ok (.ireturn, 1) := by decide +kernel
theorem dX3_clipTree_10 : decode cX3_clipTree 10 = .ok (.iload_n 2, 1) := by decide +kernel
theorem dX3_clipTree_11 : decode cX3_clipTree 11 = .ok (.invokestatic 42, 3) := by decide +kernel
theorem dX3_clipTree_14 : decode cX3_clipTree 14 = .ok (.ifCond .eq 14, 3) := by decide +kernel
theorem dX3_clipTree_17 : decode cX3_clipTree 17 = .ok (.iload_n 3, 1) := by decide +kernel
theorem dX3_clipTree_18 : decode cX3_clipTree 18 = .ok (.iconst 1, 1) := by decide +kernel
theorem dX3_clipTree_19 : decode cX3_clipTree 19 = .ok (.sipush 9000, 3) := by decide +kernel
theorem dX3_clipTree_22 : decode cX3_clipTree 22 = .ok (.invokestatic 46, 3) := by decide +kernel
theorem dX3_clipTree_25 : decode cX3_clipTree 25 = .ok (.ifCond .ne 6, 3) := by decide +kernel
theorem dX3_clipTree_28 : decode cX3_clipTree 28 = .ok (.bipush (-2), 2) := by decide +kernel
theorem dX3_clipTree_30 : decode cX3_clipTree 30 = .ok (.ireturn, 1) := by decide +kernel
theorem dX3_clipTree_31 : decode cX3_clipTree 31 = .ok (.aload_n 0, 1) := by decide +kernel
theorem dX3_clipTree_32 : decode cX3_clipTree 32 = .ok (.getfield 21, 3) := by decide +kernel
theorem dX3_clipTree_35 : decode cX3_clipTree 35 = .ok (.iload_n 1, 1) := by decide +kernel
theorem dX3_clipTree_36 : decode cX3_clipTree 36 = .ok (.iaload, 1) := by decide +kernel
theorem dX3_clipTree_37 : decode cX3_clipTree 37 = .ok (.iconst 1, 1) := by decide +kernel
theorem dX3_clipTree_38 : decode cX3_clipTree 38 = .ok (.if_icmp .eq 6, 3) := by decide +kernel
theorem dX3_clipTree_41 : decode cX3_clipTree 41 = .ok (.bipush (-3), 2) := by decide +kernel
theorem dX3_clipTree_43 : decode cX3_clipTree 43 = .ok (.ireturn, 1) := by decide +kernel
theorem dX3_clipTree_44 : decode cX3_clipTree 44 = .ok (.aload_n 0, 1) := by decide +kernel
theorem dX3_clipTree_45 : decode cX3_clipTree 45 = .ok (.getfield 68, 3) := by decide +kernel
theorem dX3_clipTree_48 : decode cX3_clipTree 48 = .ok (.bipush 60, 2) := by decide +kernel
theorem dX3_clipTree_50 : decode cX3_clipTree 50 = .ok (.if_icmp .lt 6, 3) := by decide +kernel
theorem dX3_clipTree_53 : decode cX3_clipTree 53 = .ok (.bipush (-4), 2) := by decide +kernel
theorem dX3_clipTree_55 : decode cX3_clipTree 55 = .ok (.ireturn, 1) := by decide +kernel
theorem dX3_clipTree_56 : decode cX3_clipTree 56 = .ok (.aload_n 0, 1) := by decide +kernel
theorem dX3_clipTree_57 : decode cX3_clipTree 57 = .ok (.iload_n 1, 1) := by decide +kernel
theorem dX3_clipTree_58 : decode cX3_clipTree 58 = .ok (.sipush 3000, 3) := by decide +kernel
theorem dX3_clipTree_61 : decode cX3_clipTree 61 = .ok (.invokevirtual 71, 3) := by decide +kernel
theorem dX3_clipTree_64 : decode cX3_clipTree 64 = .ok (.istore 4, 2) := by decide +kernel
theorem dX3_clipTree_66 : decode cX3_clipTree 66 = .ok (.iload 4, 2) := by decide +kernel
theorem dX3_clipTree_68 : decode cX3_clipTree 68 = .ok (.bipush (-6), 2) := by decide +kernel
theorem dX3_clipTree_70 : decode cX3_clipTree 70 = .ok (.if_icmp .eq 17, 3) := by decide +kernel
theorem dX3_clipTree_73 : decode cX3_clipTree 73 = .ok (.iload_n 2, 1) := by decide +kernel
theorem dX3_clipTree_74 : decode cX3_clipTree 74 = .ok (.aload_n 0, 1) := by decide +kernel
theorem dX3_clipTree_75 : decode cX3_clipTree 75 = .ok (.getfield 36, 3) := by decide +kernel
theorem dX3_clipTree_78 : decode cX3_clipTree 78 = .ok (.iload 4, 2) := by decide +kernel
theorem dX3_clipTree_80 : decode cX3_clipTree 80 = .ok (.iaload, 1) := by decide +kernel
theorem dX3_clipTree_81 : decode cX3_clipTree 81 = .ok (.if_icmp .ge 6, 3) := by decide +kernel
theorem dX3_clipTree_84 : decode cX3_clipTree 84 = .ok (.bipush (-5), 2) := by decide +kernel
theorem dX3_clipTree_86 : decode cX3_clipTree 86 = .ok (.ireturn, 1) := by decide +kernel
theorem dX3_clipTree_87 : decode cX3_clipTree 87 = .ok (.aload_n 0, 1) := by decide +kernel
theorem dX3_clipTree_88 : decode cX3_clipTree 88 = .ok (.iload_n 1, 1) := by decide +kernel
theorem dX3_clipTree_89 : decode cX3_clipTree 89 = .ok (.iload_n 2, 1) := by decide +kernel
theorem dX3_clipTree_90 : decode cX3_clipTree 90 = .ok (.invokevirtual 75, 3) := by decide +kernel
theorem dX3_clipTree_93 : decode cX3_clipTree 93 = .ok (.istore 5, 2) := by decide +kernel
theorem dX3_clipTree_95 : decode cX3_clipTree 95 = .ok (.aload_n 0, 1) := by decide +kernel
theorem dX3_clipTree_96 : decode cX3_clipTree 96 = .ok (.getfield 33, 3) := by decide +kernel
theorem dX3_clipTree_99 : decode cX3_clipTree 99 = .ok (.aload_n 0, 1) := by decide +kernel
theorem dX3_clipTree_100 : decode cX3_clipTree 100 = .ok (.getfield 68, 3) := by decide +kernel
theorem dX3_clipTree_103 : decode cX3_clipTree 103 = .ok (.iload_n 1, 1) := by decide +kernel
theorem dX3_clipTree_104 : decode cX3_clipTree 104 = .ok (.iastore, 1) := by decide +kernel
theorem dX3_clipTree_105 : decode cX3_clipTree 105 = .ok (.aload_n 0, 1) := by decide +kernel
theorem dX3_clipTree_106 : decode cX3_clipTree 106 = .ok (.getfield 36, 3) := by decide +kernel
theorem dX3_clipTree_109 : decode cX3_clipTree 109 = .ok (.aload_n 0, 1) := by decide +kernel
theorem dX3_clipTree_110 : decode cX3_clipTree 110 = .ok (.getfield 68, 3) := by decide +kernel
theorem dX3_clipTree_113 : decode cX3_clipTree 113 = .ok (.iload_n 2, 1) := by decide +kernel
theorem dX3_clipTree_114 : decode cX3_clipTree 114 = .ok (.iastore, 1) := by decide +kernel
theorem dX3_clipTree_115 : decode cX3_clipTree 115 = .ok (.aload_n 0, 1) := by decide +kernel
theorem dX3_clipTree_116 : decode cX3_clipTree 116 = .ok (.getfield 39, 3) := by decide +kernel
theorem dX3_clipTree_119 : decode cX3_clipTree 119 = .ok (.aload_n 0, 1) := by decide +kernel
theorem dX3_clipTree_120 : decode cX3_clipTree 120 = .ok (.getfield 68, 3) := by decide +kernel
theorem dX3_clipTree_123 : decode cX3_clipTree 123 = .ok (.iload_n 3, 1) := by decide +kernel
theorem dX3_clipTree_124 : decode cX3_clipTree 124 = .ok (.iastore, 1) := by decide +kernel
theorem dX3_clipTree_125 : decode cX3_clipTree 125 = .ok (.aload_n 0, 1) := by decide +kernel
theorem dX3_clipTree_126 : decode cX3_clipTree 126 = .ok (.dup, 1) := by decide +kernel
theorem dX3_clipTree_127 : decode cX3_clipTree 127 = .ok (.getfield 68, 3) := by decide +kernel
theorem dX3_clipTree_130 : decode cX3_clipTree 130 = .ok (.iconst 1, 1) := by decide +kernel
theorem dX3_clipTree_131 : decode cX3_clipTree 131 = .ok (.iadd, 1) := by decide +kernel
theorem dX3_clipTree_132 : decode cX3_clipTree 132 = .ok (.putfield 68, 3) := by decide +kernel
theorem dX3_clipTree_135 : decode cX3_clipTree 135 = .ok (.iload 5, 2) := by decide +kernel
theorem dX3_clipTree_137 : decode cX3_clipTree 137 = .ok (.ireturn, 1) := by decide +kernel
set_option maxRecDepth 20000 in
theorem ggX3_lookAt_X3_isThing : GoodIn wsX3_lookAt wsX3_isThing := goodIn_r _ [5, 6, 7, 8, 9, 53, 54, 55, 56, 57, 58, 59, 60, 61, 62, 63, 64, 65] (by decide +kernel) (by decide +kernel)
set_option maxRecDepth 20000 in
theorem gX3_lookAt_X3_isThing : GoodIn wsX3_lookAt (wsV RX3 65 RX3 yX3_isThing wsX3_isThing) := goodIn_app (goodIn_of _ (by decide +kernel)) ggX3_lookAt_X3_isThing
set_option maxRecDepth 20000 in
theorem ggX3_lookAt_X4_isDay : GoodIn wsX3_lookAt wsX4_isDay := goodIn_r _ [11, 12, 7, 8, 9] (by decide +kernel) (by decide +kernel)
set_option maxRecDepth 20000 in
theorem gX3_lookAt_X4_isDay_n42 : GoodIn wsX3_lookAt (wsX4_isDay) := ggX3_lookAt_X4_isDay
set_option maxRecDepth 20000 in
theorem ggX3_lookAt_X3_sizeOn : GoodIn wsX3_lookAt wsX3_sizeOn := goodIn_r _ [16, 17, 18, 19, 20, 21, 22, 23, 4, 24, 25, 26, 53, 54, 55, 56, 57, 58, 59, 60, 61, 62, 63, 64, 65] (by decide +kernel) (by decide +kernel)
set_option maxRecDepth 20000 in
theorem gX3_lookAt_X3_sizeOn : GoodIn wsX3_lookAt (wsV RX3 75 RX3 yX3_sizeOn wsX3_sizeOn) := goodIn_app (goodIn_of _ (by decide +kernel)) ggX3_lookAt_X3_sizeOn
set_option maxRecDepth 20000 in
theorem ggX3_lookAt_X3_dueOn : GoodIn wsX3_lookAt wsX3_dueOn := goodIn_r _ [30, 31, 32, 33, 34, 4, 35, 36, 37, 38, 39, 40, 41, 42, 53, 54, 55, 56, 57, 58, 59, 60, 61, 62, 63, 64, 65] (by decide +kernel) (by decide +kernel)
set_option maxRecDepth 20000 in
theorem gX3_lookAt_X3_dueOn : GoodIn wsX3_lookAt (wsV RX3 78 RX3 yX3_dueOn wsX3_dueOn) := goodIn_app (goodIn_of _ (by decide +kernel)) ggX3_lookAt_X3_dueOn
set_option maxRecDepth 20000 in
theorem ggX3_lookAt_X3_faultOn : GoodIn wsX3_lookAt wsX3_faultOn := goodIn_r _ [46, 47, 27, 28, 29, 4, 30, 31, 32, 33, 34, 35, 36, 37, 38, 39, 40, 41, 42, 48, 49, 50, 51, 52, 13, 14, 15, 16, 17, 18, 19, 20, 21, 22, 23, 24, 25, 26, 53, 54, 55, 56, 57, 58, 59, 60, 61, 62, 63, 64, 65] (by decide +kernel) (by decide +kernel)
set_option maxRecDepth 20000 in
theorem gX3_lookAt_X3_faultOn : GoodIn wsX3_lookAt (wsV RX3 81 RX3 yX3_faultOn wsX3_faultOn) := goodIn_app (goodIn_of _ (by decide +kernel)) ggX3_lookAt_X3_faultOn
theorem dX3_lookAt_0 : decode cX3_lookAt 0 = .ok (.aload_n 0, 1) := by decide +kernel
theorem dX3_lookAt_1 : decode cX3_lookAt 1 = .ok (.iload_n 1, 1) := by decide +kernel
theorem dX3_lookAt_2 : decode cX3_lookAt 2 = .ok (.invokevirtual 65, 3) := by decide +kernel
theorem dX3_lookAt_5 : decode cX3_lookAt 5 = .ok (.ifCond .ne 5, 3) := by decide +kernel
theorem dX3_lookAt_8 : decode cX3_lookAt 8 = .ok (.iconst (-1), 1) := by decide +kernel
theorem dX3_lookAt_9 : decode cX3_lookAt 9 = .ok (.ireturn, 1) := by decide +kernel
theorem dX3_lookAt_10 : decode cX3_lookAt 10 = .ok (.iload_n 2, 1) := by decide +kernel
theorem dX3_lookAt_11 : decode cX3_lookAt 11 = .ok (.invokestatic 42, 3) := by decide +kernel
theorem dX3_lookAt_14 : decode cX3_lookAt 14 = .ok (.ifCond .ne 6, 3) := by decide +kernel
theorem dX3_lookAt_17 : decode cX3_lookAt 17 = .ok (.bipush (-2), 2) := by decide +kernel
theorem dX3_lookAt_19 : decode cX3_lookAt 19 = .ok (.ireturn, 1) := by decide +kernel
theorem dX3_lookAt_20 : decode cX3_lookAt 20 = .ok (.iload_n 3, 1) := by decide +kernel
theorem dX3_lookAt_21 : decode cX3_lookAt 21 = .ok (.tableswitch 48 0 2 #[27, 34, 41], 27) := by decide +kernel
theorem dX3_lookAt_48 : decode cX3_lookAt 48 = .ok (.aload_n 0, 1) := by decide +kernel
theorem dX3_lookAt_49 : decode cX3_lookAt 49 = .ok (.iload_n 1, 1) := by decide +kernel
theorem dX3_lookAt_50 : decode cX3_lookAt 50 = .ok (.iload_n 2, 1) := by decide +kernel
theorem dX3_lookAt_51 : decode cX3_lookAt 51 = .ok (.invokevirtual 75, 3) := by decide +kernel
theorem dX3_lookAt_54 : decode cX3_lookAt 54 = .ok (.ireturn, 1) := by decide +kernel
theorem dX3_lookAt_55 : decode cX3_lookAt 55 = .ok (.aload_n 0, 1) := by decide +kernel
theorem dX3_lookAt_56 : decode cX3_lookAt 56 = .ok (.iload_n 1, 1) := by decide +kernel
theorem dX3_lookAt_57 : decode cX3_lookAt 57 = .ok (.iload_n 2, 1) := by decide +kernel
theorem dX3_lookAt_58 : decode cX3_lookAt 58 = .ok (.invokevirtual 78, 3) := by decide +kernel
theorem dX3_lookAt_61 : decode cX3_lookAt 61 = .ok (.ireturn, 1) := by decide +kernel
theorem dX3_lookAt_62 : decode cX3_lookAt 62 = .ok (.aload_n 0, 1) := by decide +kernel
theorem dX3_lookAt_63 : decode cX3_lookAt 63 = .ok (.iload_n 1, 1) := by decide +kernel
theorem dX3_lookAt_64 : decode cX3_lookAt 64 = .ok (.iload_n 2, 1) := by decide +kernel
theorem dX3_lookAt_65 : decode cX3_lookAt 65 = .ok (.invokevirtual 81, 3) := by decide +kernel
theorem dX3_lookAt_68 : decode cX3_lookAt 68 = .ok (.ireturn, 1) := by decide +kernel
theorem dX3_lookAt_69 : decode cX3_lookAt 69 = .ok (.bipush (-2), 2) := by decide +kernel
theorem dX3_lookAt_71 : decode cX3_lookAt 71 = .ok (.ireturn, 1) := by decide +kernel
set_option maxRecDepth 20000 in
theorem ggX3_firstFaulty_X4_isDay : GoodIn wsX3_firstFaulty wsX4_isDay := goodIn_r _ [4, 5, 6, 3, 7] (by decide +kernel) (by decide +kernel)
set_option maxRecDepth 20000 in
theorem gX3_firstFaulty_X4_isDay_n42 : GoodIn wsX3_firstFaulty (wsX4_isDay) := ggX3_firstFaulty_X4_isDay
set_option maxRecDepth 20000 in
theorem ggX3_firstFaulty_X3_faultOn : GoodIn wsX3_firstFaulty wsX3_faultOn := goodIn_r _ [12, 13, 14, 15, 16, 11, 17, 18, 19, 20, 21, 22, 23, 24, 25, 26, 27, 28, 29, 30, 31, 32, 33, 34, 35, 36, 37, 38, 39, 40, 41, 42, 43, 44, 45, 46, 47, 48, 49, 50, 51, 52, 53, 54, 55, 56, 57, 58, 59, 60, 61] (by decide +kernel) (by decide +kernel)
set_option maxRecDepth 20000 in
theorem gX3_firstFaulty_X3_faultOn : GoodIn wsX3_firstFaulty (wsV RX3 81 RX3 yX3_faultOn wsX3_faultOn) := goodIn_app (goodIn_of _ (by decide +kernel)) ggX3_firstFaulty_X3_faultOn
theorem dX3_firstFaulty_0 : decode cX3_firstFaulty 0 = .ok (.iload_n 1, 1) := by decide +kernel
theorem dX3_firstFaulty_1 : decode cX3_firstFaulty 1 = .ok (.invokestatic 42, 3) := by decide +kernel
theorem dX3_firstFaulty_4 : decode cX3_firstFaulty 4 = .ok (.ifCond .ne 6, 3) := by decide +kernel
theorem dX3_firstFaulty_7 : decode cX3_firstFaulty 7 = .ok (.bipush (-2), 2) := by decide +kernel
theorem dX3_firstFaulty_9 : decode cX3_firstFaulty 9 = .ok (.ireturn, 1) := by decide +kernel
theorem dX3_firstFaulty_10 : decode cX3_firstFaulty 10 = .ok (.iconst 0, 1) := by decide +kernel
theorem dX3_firstFaulty_11 : decode cX3_firstFaulty 11 = .ok (.istore_n 2, 1) := by decide +kernel
theorem dX3_firstFaulty_12 : decode cX3_firstFaulty 12 = .ok (.iload_n 2, 1) := by decide +kernel
theorem dX3_firstFaulty_13 : decode cX3_firstFaulty 13 = .ok (.aload_n 0, 1) := by decide +kernel
theorem dX3_firstFaulty_14 : decode cX3_firstFaulty 14 = .ok (.getfield 62, 3) := by decide +kernel
theorem dX3_firstFaulty_17 : decode cX3_firstFaulty 17 = .ok (.if_icmp .ge 20, 3) := by decide +kernel
theorem dX3_firstFaulty_20 : decode cX3_firstFaulty 20 = .ok (.aload_n 0, 1) := by decide +kernel
theorem dX3_firstFaulty_21 : decode cX3_firstFaulty 21 = .ok (.iload_n 2, 1) := by decide +kernel
theorem dX3_firstFaulty_22 : decode cX3_firstFaulty 22 = .ok (.iload_n 1, 1) := by decide +kernel
theorem dX3_firstFaulty_23 : decode cX3_firstFaulty 23 = .ok (.invokevirtual 81, 3) := by decide +kernel
theorem dX3_firstFaulty_26 : decode cX3_firstFaulty 26 = .ok (.ifCond .eq 5, 3) := by decide +kernel
theorem dX3_firstFaulty_29 : decode cX3_firstFaulty 29 = .ok (.iload_n 2, 1) := by decide +kernel
theorem dX3_firstFaulty_30 : decode cX3_firstFaulty 30 = .ok (.ireturn, 1) := by decide +kernel
theorem dX3_firstFaulty_31 : decode cX3_firstFaulty 31 = .ok (.iinc 2 1, 3) := by decide +kernel
theorem dX3_firstFaulty_34 : decode cX3_firstFaulty 34 = .ok (.goto (-22), 3) := by decide +kernel
theorem dX3_firstFaulty_37 : decode cX3_firstFaulty 37 = .ok (.bipush (-6), 2) := by decide +kernel
theorem dX3_firstFaulty_39 : decode cX3_firstFaulty 39 = .ok (.ireturn, 1) := by decide +kernel
set_option maxRecDepth 20000 in
theorem ggX3_firstFaultyDay_X3_isThing : GoodIn wsX3_firstFaultyDay wsX3_isThing := goodIn_r _ [5, 6, 7, 8, 9, 53, 54, 55, 56, 57, 58, 59, 60, 61, 62, 63, 64, 65] (by decide +kernel) (by decide +kernel)
set_option maxRecDepth 20000 in
theorem gX3_firstFaultyDay_X3_isThing : GoodIn wsX3_firstFaultyDay (wsV RX3 65 RX3 yX3_isThing wsX3_isThing) := goodIn_app (goodIn_of _ (by decide +kernel)) ggX3_firstFaultyDay_X3_isThing
set_option maxRecDepth 20000 in
theorem ggX3_firstFaultyDay_X4_isDay : GoodIn wsX3_firstFaultyDay wsX4_isDay := goodIn_r _ [11, 12, 7, 8, 9] (by decide +kernel) (by decide +kernel)
set_option maxRecDepth 20000 in
theorem gX3_firstFaultyDay_X4_isDay_n42 : GoodIn wsX3_firstFaultyDay (wsX4_isDay) := ggX3_firstFaultyDay_X4_isDay
set_option maxRecDepth 20000 in
theorem ggX3_firstFaultyDay_X3_faultOn : GoodIn wsX3_firstFaultyDay wsX3_faultOn := goodIn_r _ [16, 17, 18, 19, 20, 4, 21, 22, 23, 24, 25, 26, 27, 28, 29, 30, 31, 32, 33, 34, 35, 36, 37, 38, 39, 40, 41, 42, 43, 44, 45, 46, 47, 48, 49, 50, 51, 52, 53, 54, 55, 56, 57, 58, 59, 60, 61, 62, 63, 64, 65] (by decide +kernel) (by decide +kernel)
set_option maxRecDepth 20000 in
theorem gX3_firstFaultyDay_X3_faultOn : GoodIn wsX3_firstFaultyDay (wsV RX3 81 RX3 yX3_faultOn wsX3_faultOn) := goodIn_app (goodIn_of _ (by decide +kernel)) ggX3_firstFaultyDay_X3_faultOn
theorem dX3_firstFaultyDay_0 : decode cX3_firstFaultyDay 0 = .ok (.aload_n 0, 1) := by decide +kernel
theorem dX3_firstFaultyDay_1 : decode cX3_firstFaultyDay 1 = .ok (.iload_n 1, 1) := by decide +kernel
theorem dX3_firstFaultyDay_2 : decode cX3_firstFaultyDay 2 = .ok (.invokevirtual 65, 3) := by decide +kernel
theorem dX3_firstFaultyDay_5 : decode cX3_firstFaultyDay 5 = .ok (.ifCond .ne 5, 3) := by decide +kernel
theorem dX3_firstFaultyDay_8 : decode cX3_firstFaultyDay 8 = .ok (.iconst (-1), 1) := by decide +kernel
theorem dX3_firstFaultyDay_9 : decode cX3_firstFaultyDay 9 = .ok (.ireturn, 1) := by decide +kernel
theorem dX3_firstFaultyDay_10 : decode cX3_firstFaultyDay 10 = .ok (.iload_n 2, 1) := by decide +kernel
theorem dX3_firstFaultyDay_11 : decode cX3_firstFaultyDay 11 = .ok (.invokestatic 42, 3) := by decide +kernel
theorem dX3_firstFaultyDay_14 : decode cX3_firstFaultyDay 14 = .ok (.ifCond .ne 6, 3) := by decide +kernel
theorem dX3_firstFaultyDay_17 : decode cX3_firstFaultyDay 17 = .ok (.bipush (-2), 2) := by decide +kernel
theorem dX3_firstFaultyDay_19 : decode cX3_firstFaultyDay 19 = .ok (.ireturn, 1) := by decide +kernel
theorem dX3_firstFaultyDay_20 : decode cX3_firstFaultyDay 20 = .ok (.iload_n 2, 1) := by decide +kernel
theorem dX3_firstFaultyDay_21 : decode cX3_firstFaultyDay 21 = .ok (.istore_n 3, 1) := by decide +kernel
theorem dX3_firstFaultyDay_22 : decode cX3_firstFaultyDay 22 = .ok (.iload_n 3, 1) := by decide +kernel
theorem dX3_firstFaultyDay_23 : decode cX3_firstFaultyDay 23 = .ok (.sipush 3000, 3) := by decide +kernel
theorem dX3_firstFaultyDay_26 : decode cX3_firstFaultyDay 26 = .ok (.if_icmp .gt 20, 3) := by decide +kernel
theorem dX3_firstFaultyDay_29 : decode cX3_firstFaultyDay 29 = .ok (.aload_n 0, 1) := by decide +kernel
theorem dX3_firstFaultyDay_30 : decode cX3_firstFaultyDay 30 = .ok (.iload_n 1, 1) := by decide +kernel
theorem dX3_firstFaultyDay_31 : decode cX3_firstFaultyDay 31 = .ok (.iload_n 3, 1) := by decide +kernel
theorem dX3_firstFaultyDay_32 : decode cX3_firstFaultyDay 32 = .ok (.invokevirtual 81, 3) := by decide +kernel
theorem dX3_firstFaultyDay_35 : decode cX3_firstFaultyDay 35 = .ok (.ifCond .eq 5, 3) := by decide +kernel
theorem dX3_firstFaultyDay_38 : decode cX3_firstFaultyDay 38 = .ok (.iload_n 3, 1) := by decide +kernel
theorem dX3_firstFaultyDay_39 : decode cX3_firstFaultyDay 39 = .ok (.ireturn, 1) := by decide +kernel
theorem dX3_firstFaultyDay_40 : decode cX3_firstFaultyDay 40 = .ok (.iinc 3 1, 3) := by decide +kernel
theorem dX3_firstFaultyDay_43 : decode cX3_firstFaultyDay 43 = .ok (.goto (-21), 3) := by decide +kernel
theorem dX3_firstFaultyDay_46 : decode cX3_firstFaultyDay 46 = .ok (.bipush (-6), 2) := by decide +kernel
theorem dX3_firstFaultyDay_48 : decode cX3_firstFaultyDay 48 = .ok (.ireturn, 1) := by decide +kernel
set_option maxRecDepth 20000 in
theorem ggX3_isThing_X4_isWithin : GoodIn wsX3_isThing wsX4_isWithin := goodIn_r _ [4] (by decide +kernel) (by decide +kernel)
set_option maxRecDepth 20000 in
theorem gX3_isThing_X4_isWithin_n46 : GoodIn wsX3_isThing (wsX4_isWithin) := ggX3_isThing_X4_isWithin
theorem dX3_isThing_0 : decode cX3_isThing 0 = .ok (.iload_n 1, 1) := by decide +kernel
theorem dX3_isThing_1 : decode cX3_isThing 1 = .ok (.iconst 0, 1) := by decide +kernel
theorem dX3_isThing_2 : decode cX3_isThing 2 = .ok (.aload_n 0, 1) := by decide +kernel
theorem dX3_isThing_3 : decode cX3_isThing 3 = .ok (.getfield 62, 3) := by decide +kernel
theorem dX3_isThing_6 : decode cX3_isThing 6 = .ok (.iconst 1, 1) := by decide +kernel
theorem dX3_isThing_7 : decode cX3_isThing 7 = .ok (.isub, 1) := by decide +kernel
theorem dX3_isThing_8 : decode cX3_isThing 8 = .ok (.invokestatic 46, 3) := by decide +kernel
theorem dX3_isThing_11 : decode cX3_isThing 11 = .ok (.ireturn, 1) := by decide +kernel
theorem dX3_ruleOn_0 : decode cX3_ruleOn 0 = .ok (.bipush (-6), 2) := by decide +kernel
theorem dX3_ruleOn_2 : decode cX3_ruleOn 2 = .ok (.istore_n 2, 1) := by decide +kernel
theorem dX3_ruleOn_3 : decode cX3_ruleOn 3 = .ok (.iconst 0, 1) := by decide +kernel
theorem dX3_ruleOn_4 : decode cX3_ruleOn 4 = .ok (.istore_n 3, 1) := by decide +kernel
theorem dX3_ruleOn_5 : decode cX3_ruleOn 5 = .ok (.iload_n 3, 1) := by decide +kernel
theorem dX3_ruleOn_6 : decode cX3_ruleOn 6 = .ok (.aload_n 0, 1) := by decide +kernel
theorem dX3_ruleOn_7 : decode cX3_ruleOn 7 = .ok (.getfield 50, 3) := by decide +kernel
theorem dX3_ruleOn_10 : decode cX3_ruleOn 10 = .ok (.if_icmp .ge 42, 3) := by decide +kernel
theorem dX3_ruleOn_13 : decode cX3_ruleOn 13 = .ok (.aload_n 0, 1) := by decide +kernel
theorem dX3_ruleOn_14 : decode cX3_ruleOn 14 = .ok (.getfield 11, 3) := by decide +kernel
theorem dX3_ruleOn_17 : decode cX3_ruleOn 17 = .ok (.iload_n 3, 1) := by decide +kernel
theorem dX3_ruleOn_18 : decode cX3_ruleOn 18 = .ok (.iaload, 1) := by decide +kernel
theorem dX3_ruleOn_19 : decode cX3_ruleOn 19 = .ok (.iload_n 1, 1) := by decide +kernel
theorem dX3_ruleOn_20 : decode cX3_ruleOn 20 = .ok (.if_icmp .gt 26, 3) := by decide +kernel
theorem dX3_ruleOn_23 : decode cX3_ruleOn 23 = .ok (.iload_n 2, 1) := by decide +kernel
theorem dX3_ruleOn_24 : decode cX3_ruleOn 24 = .ok (.bipush (-6), 2) := by decide +kernel
theorem dX3_ruleOn_26 : decode cX3_ruleOn 26 = .ok (.if_icmp .eq 18, 3) := by decide +kernel
theorem dX3_ruleOn_29 : decode cX3_ruleOn 29 = .ok (.aload_n 0, 1) := by decide +kernel
theorem dX3_ruleOn_30 : decode cX3_ruleOn 30 = .ok (.getfield 11, 3) := by decide +kernel
theorem dX3_ruleOn_33 : decode cX3_ruleOn 33 = .ok (.iload_n 3, 1) := by decide +kernel
theorem dX3_ruleOn_34 : decode cX3_ruleOn 34 = .ok (.iaload, 1) := by decide +kernel
theorem dX3_ruleOn_35 : decode cX3_ruleOn 35 = .ok (.aload_n 0, 1) := by decide +kernel
theorem dX3_ruleOn_36 : decode cX3_ruleOn 36 = .ok (.getfield 11, 3) := by decide +kernel
theorem dX3_ruleOn_39 : decode cX3_ruleOn 39 = .ok (.iload_n 2, 1) := by decide +kernel
theorem dX3_ruleOn_40 : decode cX3_ruleOn 40 = .ok (.iaload, 1) := by decide +kernel
theorem dX3_ruleOn_41 : decode cX3_ruleOn 41 = .ok (.if_icmp .lt 5, 3) := by decide +kernel
theorem dX3_ruleOn_44 : decode cX3_ruleOn 44 = .ok (.iload_n 3, 1) := by decide +kernel
theorem dX3_ruleOn_45 : decode cX3_ruleOn 45 = .ok (.istore_n 2, 1) := by decide +kernel
theorem dX3_ruleOn_46 : decode cX3_ruleOn 46 = .ok (.iinc 3 1, 3) := by decide +kernel
theorem dX3_ruleOn_49 : decode cX3_ruleOn 49 = .ok (.goto (-44), 3) := by decide +kernel
theorem dX3_ruleOn_52 : decode cX3_ruleOn 52 = .ok (.iload_n 2, 1) := by decide +kernel
theorem dX3_ruleOn_53 : decode cX3_ruleOn 53 = .ok (.ireturn, 1) := by decide +kernel
set_option maxRecDepth 20000 in
theorem ggX3_ratioOn_X3_ruleOn : GoodIn wsX3_ratioOn wsX3_ruleOn := goodIn_r _ [6, 7, 8, 9, 10, 11, 12, 13, 14, 15, 16, 17, 18, 19, 20, 21] (by decide +kernel) (by decide +kernel)
set_option maxRecDepth 20000 in
theorem gX3_ratioOn_X3_ruleOn : GoodIn wsX3_ratioOn (wsV RX3 84 RX3 yX3_ruleOn wsX3_ruleOn) := goodIn_app (goodIn_of _ (by decide +kernel)) ggX3_ratioOn_X3_ruleOn
theorem dX3_ratioOn_0 : decode cX3_ratioOn 0 = .ok (.aload_n 0, 1) := by decide +kernel
theorem dX3_ratioOn_1 : decode cX3_ratioOn 1 = .ok (.iload_n 1, 1) := by decide +kernel
theorem dX3_ratioOn_2 : decode cX3_ratioOn 2 = .ok (.invokevirtual 84, 3) := by decide +kernel
theorem dX3_ratioOn_5 : decode cX3_ratioOn 5 = .ok (.istore_n 2, 1) := by decide +kernel
theorem dX3_ratioOn_6 : decode cX3_ratioOn 6 = .ok (.iload_n 2, 1) := by decide +kernel
theorem dX3_ratioOn_7 : decode cX3_ratioOn 7 = .ok (.bipush (-6), 2) := by decide +kernel
theorem dX3_ratioOn_9 : decode cX3_ratioOn 9 = .ok (.if_icmp .ne 8, 3) := by decide +kernel
theorem dX3_ratioOn_12 : decode cX3_ratioOn 12 = .ok (.bipush 12, 2) := by decide +kernel
theorem dX3_ratioOn_14 : decode cX3_ratioOn 14 = .ok (.goto 9, 3) := by decide +kernel
theorem dX3_ratioOn_17 : decode cX3_ratioOn 17 = .ok (.aload_n 0, 1) := by decide +kernel
theorem dX3_ratioOn_18 : decode cX3_ratioOn 18 = .ok (.getfield 15, 3) := by decide +kernel
theorem dX3_ratioOn_21 : decode cX3_ratioOn 21 = .ok (.iload_n 2, 1) := by decide +kernel
theorem dX3_ratioOn_22 : decode cX3_ratioOn 22 = .ok (.iaload, 1) := by decide +kernel
theorem dX3_ratioOn_23 : decode cX3_ratioOn 23 = .ok (.ireturn, 1) := by decide +kernel
set_option maxRecDepth 20000 in
theorem ggX3_slackOn_X3_ruleOn : GoodIn wsX3_slackOn wsX3_ruleOn := goodIn_r _ [6, 7, 8, 9, 10, 11, 12, 13, 14, 15, 16, 17, 18, 19, 20, 21] (by decide +kernel) (by decide +kernel)
set_option maxRecDepth 20000 in
theorem gX3_slackOn_X3_ruleOn : GoodIn wsX3_slackOn (wsV RX3 84 RX3 yX3_ruleOn wsX3_ruleOn) := goodIn_app (goodIn_of _ (by decide +kernel)) ggX3_slackOn_X3_ruleOn
theorem dX3_slackOn_0 : decode cX3_slackOn 0 = .ok (.aload_n 0, 1) := by decide +kernel
theorem dX3_slackOn_1 : decode cX3_slackOn 1 = .ok (.iload_n 1, 1) := by decide +kernel
theorem dX3_slackOn_2 : decode cX3_slackOn 2 = .ok (.invokevirtual 84, 3) := by decide +kernel
theorem dX3_slackOn_5 : decode cX3_slackOn 5 = .ok (.istore_n 2, 1) := by decide +kernel
theorem dX3_slackOn_6 : decode cX3_slackOn 6 = .ok (.iload_n 2, 1) := by decide +kernel
theorem dX3_slackOn_7 : decode cX3_slackOn 7 = .ok (.bipush (-6), 2) := by decide +kernel
theorem dX3_slackOn_9 : decode cX3_slackOn 9 = .ok (.if_icmp .ne 8, 3) := by decide +kernel
theorem dX3_slackOn_12 : decode cX3_slackOn 12 = .ok (.bipush 10, 2) := by decide +kernel
theorem dX3_slackOn_14 : decode cX3_slackOn 14 = .ok (.goto 9, 3) := by decide +kernel
theorem dX3_slackOn_17 : decode cX3_slackOn 17 = .ok (.aload_n 0, 1) := by decide +kernel
theorem dX3_slackOn_18 : decode cX3_slackOn 18 = .ok (.getfield 18, 3) := by decide +kernel
theorem dX3_slackOn_21 : decode cX3_slackOn 21 = .ok (.iload_n 2, 1) := by decide +kernel
theorem dX3_slackOn_22 : decode cX3_slackOn 22 = .ok (.iaload, 1) := by decide +kernel
theorem dX3_slackOn_23 : decode cX3_slackOn 23 = .ok (.ireturn, 1) := by decide +kernel
theorem dX3_clippingOn_0 : decode cX3_clippingOn 0 = .ok (.aload_n 0, 1) := by decide +kernel
theorem dX3_clippingOn_1 : decode cX3_clippingOn 1 = .ok (.getfield 68, 3) := by decide +kernel
theorem dX3_clippingOn_4 : decode cX3_clippingOn 4 = .ok (.iconst 1, 1) := by decide +kernel
theorem dX3_clippingOn_5 : decode cX3_clippingOn 5 = .ok (.isub, 1) := by decide +kernel
theorem dX3_clippingOn_6 : decode cX3_clippingOn 6 = .ok (.istore_n 3, 1) := by decide +kernel
theorem dX3_clippingOn_7 : decode cX3_clippingOn 7 = .ok (.iload_n 3, 1) := by decide +kernel
theorem dX3_clippingOn_8 : decode cX3_clippingOn 8 = .ok (.ifCond .lt 31, 3) := by decide +kernel
theorem dX3_clippingOn_11 : decode cX3_clippingOn 11 = .ok (.aload_n 0, 1) := by decide +kernel
theorem dX3_clippingOn_12 : decode cX3_clippingOn 12 = .ok (.getfield 33, 3) := by decide +kernel
theorem dX3_clippingOn_15 : decode cX3_clippingOn 15 = .ok (.iload_n 3, 1) := by decide +kernel
theorem dX3_clippingOn_16 : decode cX3_clippingOn 16 = .ok (.iaload, 1) := by decide +kernel
theorem dX3_clippingOn_17 : decode cX3_clippingOn 17 = .ok (.iload_n 1, 1) := by decide +kernel
theorem dX3_clippingOn_18 : decode cX3_clippingOn 18 = .ok (.if_icmp .ne 15, 3) := by decide +kernel
theorem dX3_clippingOn_21 : decode cX3_clippingOn 21 = .ok (.aload_n 0, 1) := by decide +kernel
theorem dX3_clippingOn_22 : decode cX3_clippingOn 22 = .ok (.getfield 36, 3) := by decide +kernel
theorem dX3_clippingOn_25 : decode cX3_clippingOn 25 = .ok (.iload_n 3, 1) := by decide +kernel
theorem dX3_clippingOn_26 : decode cX3_clippingOn 26 = .ok (.iaload, 1) := by decide +kernel
theorem dX3_clippingOn_27 : decode cX3_clippingOn 27 = .ok (.iload_n 2, 1) := by decide +kernel
theorem dX3_clippingOn_28 : decode cX3_clippingOn 28 = .ok (.if_icmp .gt 5, 3) := by decide +kernel
theorem dX3_clippingOn_31 : decode cX3_clippingOn 31 = .ok (.iload_n 3, 1) := by decide +kernel
theorem dX3_clippingOn_32 : decode cX3_clippingOn 32 = .ok (.ireturn, 1) := by decide +kernel
theorem dX3_clippingOn_33 : decode cX3_clippingOn 33 = .ok (.iinc 3 (-1), 3) := by decide +kernel
theorem dX3_clippingOn_36 : decode cX3_clippingOn 36 = .ok (.goto (-29), 3) := by decide +kernel
theorem dX3_clippingOn_39 : decode cX3_clippingOn 39 = .ok (.bipush (-6), 2) := by decide +kernel
theorem dX3_clippingOn_41 : decode cX3_clippingOn 41 = .ok (.ireturn, 1) := by decide +kernel
set_option maxRecDepth 20000 in
theorem ggX3_sizeOn_X3_clippingOn : GoodIn wsX3_sizeOn wsX3_clippingOn := goodIn_r _ [9, 10, 11, 1, 12, 13, 14, 15, 16, 17, 18, 19, 20, 21, 22, 23, 24] (by decide +kernel) (by decide +kernel)
set_option maxRecDepth 20000 in
theorem gX3_sizeOn_X3_clippingOn : GoodIn wsX3_sizeOn (wsV RX3 71 RX3 yX3_clippingOn wsX3_clippingOn) := goodIn_app (goodIn_of _ (by decide +kernel)) ggX3_sizeOn_X3_clippingOn
theorem dX3_sizeOn_0 : decode cX3_sizeOn 0 = .ok (.aload_n 0, 1) := by decide +kernel
theorem dX3_sizeOn_1 : decode cX3_sizeOn 1 = .ok (.iload_n 1, 1) := by decide +kernel
theorem dX3_sizeOn_2 : decode cX3_sizeOn 2 = .ok (.iload_n 2, 1) := by decide +kernel
theorem dX3_sizeOn_3 : decode cX3_sizeOn 3 = .ok (.invokevirtual 71, 3) := by decide +kernel
theorem dX3_sizeOn_6 : decode cX3_sizeOn 6 = .ok (.istore_n 3, 1) := by decide +kernel
theorem dX3_sizeOn_7 : decode cX3_sizeOn 7 = .ok (.iload_n 3, 1) := by decide +kernel
theorem dX3_sizeOn_8 : decode cX3_sizeOn 8 = .ok (.bipush (-6), 2) := by decide +kernel
theorem dX3_sizeOn_10 : decode cX3_sizeOn 10 = .ok (.if_icmp .ne 7, 3) := by decide +kernel
theorem dX3_sizeOn_13 : decode cX3_sizeOn 13 = .ok (.iconst 0, 1) := by decide +kernel
theorem dX3_sizeOn_14 : decode cX3_sizeOn 14 = .ok (.goto 9, 3) := by decide +kernel
theorem dX3_sizeOn_17 : decode cX3_sizeOn 17 = .ok (.aload_n 0, 1) := by decide +kernel
theorem dX3_sizeOn_18 : decode cX3_sizeOn 18 = .ok (.getfield 36, 3) := by decide +kernel
theorem dX3_sizeOn_21 : decode cX3_sizeOn 21 = .ok (.iload_n 3, 1) := by decide +kernel
theorem dX3_sizeOn_22 : decode cX3_sizeOn 22 = .ok (.iaload, 1) := by decide +kernel
theorem dX3_sizeOn_23 : decode cX3_sizeOn 23 = .ok (.istore 4, 2) := by decide +kernel
theorem dX3_sizeOn_25 : decode cX3_sizeOn 25 = .ok (.iload_n 3, 1) := by decide +kernel
theorem dX3_sizeOn_26 : decode cX3_sizeOn 26 = .ok (.bipush (-6), 2) := by decide +kernel
theorem dX3_sizeOn_28 : decode cX3_sizeOn 28 = .ok (.if_icmp .ne 12, 3) := by decide +kernel
theorem dX3_sizeOn_31 : decode cX3_sizeOn 31 = .ok (.aload_n 0, 1) := by decide +kernel
theorem dX3_sizeOn_32 : decode cX3_sizeOn 32 = .ok (.getfield 27, 3) := by decide +kernel
theorem dX3_sizeOn_35 : decode cX3_sizeOn 35 = .ok (.iload_n 1, 1) := by decide +kernel
theorem dX3_sizeOn_36 : decode cX3_sizeOn 36 = .ok (.iaload, 1) := by decide +kernel
theorem dX3_sizeOn_37 : decode cX3_sizeOn 37 = .ok (.goto 9, 3) := by decide +kernel
theorem dX3_sizeOn_40 : decode cX3_sizeOn 40 = .ok (.aload_n 0, 1) := by decide +kernel
theorem dX3_sizeOn_41 : decode cX3_sizeOn 41 = .ok (.getfield 39, 3) := by decide +kernel
theorem dX3_sizeOn_44 : decode cX3_sizeOn 44 = .ok (.iload_n 3, 1) := by decide +kernel
theorem dX3_sizeOn_45 : decode cX3_sizeOn 45 = .ok (.iaload, 1) := by decide +kernel
theorem dX3_sizeOn_46 : decode cX3_sizeOn 46 = .ok (.istore 5, 2) := by decide +kernel
theorem dX3_sizeOn_48 : decode cX3_sizeOn 48 = .ok (.iload 5, 2) := by decide +kernel
theorem dX3_sizeOn_50 : decode cX3_sizeOn 50 = .ok (.iload_n 2, 1) := by decide +kernel
theorem dX3_sizeOn_51 : decode cX3_sizeOn 51 = .ok (.iload 4, 2) := by decide +kernel
theorem dX3_sizeOn_53 : decode cX3_sizeOn 53 = .ok (.isub, 1) := by decide +kernel
theorem dX3_sizeOn_54 : decode cX3_sizeOn 54 = .ok (.bipush 7, 2) := by decide +kernel
theorem dX3_sizeOn_56 : decode cX3_sizeOn 56 = .ok (.idiv, 1) := by decide +kernel
theorem dX3_sizeOn_57 : decode cX3_sizeOn 57 = .ok (.aload_n 0, 1) := by decide +kernel
theorem dX3_sizeOn_58 : decode cX3_sizeOn 58 = .ok (.getfield 30, 3) := by decide +kernel
theorem dX3_sizeOn_61 : decode cX3_sizeOn 61 = .ok (.iload_n 1, 1) := by decide +kernel
theorem dX3_sizeOn_62 : decode cX3_sizeOn 62 = .ok (.iaload, 1) := by decide +kernel
theorem dX3_sizeOn_63 : decode cX3_sizeOn 63 = .ok (.imul, 1) := by decide +kernel
theorem dX3_sizeOn_64 : decode cX3_sizeOn 64 = .ok (.iadd, 1) := by decide +kernel
theorem dX3_sizeOn_65 : decode cX3_sizeOn 65 = .ok (.ireturn, 1) := by decide +kernel
set_option maxRecDepth 20000 in
theorem ggX3_dueOn_X3_ratioOn : GoodIn wsX3_dueOn wsX3_ratioOn := goodIn_r _ [6, 7, 8, 9, 10, 5, 11, 12, 13, 14, 15, 16, 17, 18, 19, 20, 21, 22, 23, 24, 25, 26] (by decide +kernel) (by decide +kernel)
set_option maxRecDepth 20000 in
theorem gX3_dueOn_X3_ratioOn : GoodIn wsX3_dueOn (wsV RX3 54 RX3 yX3_ratioOn wsX3_ratioOn) := goodIn_app (goodIn_of _ (by decide +kernel)) ggX3_dueOn_X3_ratioOn
theorem dX3_dueOn_0 : decode cX3_dueOn 0 = .ok (.aload_n 0, 1) := by decide +kernel
theorem dX3_dueOn_1 : decode cX3_dueOn 1 = .ok (.getfield 24, 3) := by decide +kernel
theorem dX3_dueOn_4 : decode cX3_dueOn 4 = .ok (.iload_n 1, 1) := by decide +kernel
theorem dX3_dueOn_5 : decode cX3_dueOn 5 = .ok (.iaload, 1) := by decide +kernel
theorem dX3_dueOn_6 : decode cX3_dueOn 6 = .ok (.aload_n 0, 1) := by decide +kernel
theorem dX3_dueOn_7 : decode cX3_dueOn 7 = .ok (.iload_n 2, 1) := by decide +kernel
theorem dX3_dueOn_8 : decode cX3_dueOn 8 = .ok (.invokevirtual 54, 3) := by decide +kernel
theorem dX3_dueOn_11 : decode cX3_dueOn 11 = .ok (.idiv, 1) := by decide +kernel
theorem dX3_dueOn_12 : decode cX3_dueOn 12 = .ok (.ireturn, 1) := by decide +kernel
set_option maxRecDepth 20000 in
theorem ggX3_faultOn_X3_dueOn : GoodIn wsX3_faultOn wsX3_dueOn := goodIn_r _ [6, 7, 8, 9, 10, 5, 11, 12, 13, 14, 15, 16, 17, 18, 38, 39, 40, 41, 42, 43, 44, 45, 46, 47, 48, 49, 50] (by decide +kernel) (by decide +kernel)
set_option maxRecDepth 20000 in
theorem gX3_faultOn_X3_dueOn : GoodIn wsX3_faultOn (wsV RX3 78 RX3 yX3_dueOn wsX3_dueOn) := goodIn_app (goodIn_of _ (by decide +kernel)) ggX3_faultOn_X3_dueOn
set_option maxRecDepth 20000 in
theorem ggX3_faultOn_X3_slackOn : GoodIn wsX3_faultOn wsX3_slackOn := goodIn_r _ [22, 23, 13, 14, 15, 5, 16, 17, 18, 38, 39, 40, 41, 42, 43, 44, 45, 46, 47, 48, 49, 50] (by decide +kernel) (by decide +kernel)
set_option maxRecDepth 20000 in
theorem gX3_faultOn_X3_slackOn : GoodIn wsX3_faultOn (wsV RX3 58 RX3 yX3_slackOn wsX3_slackOn) := goodIn_app (goodIn_of _ (by decide +kernel)) ggX3_faultOn_X3_slackOn
set_option maxRecDepth 20000 in
theorem ggX3_faultOn_X3_sizeOn : GoodIn wsX3_faultOn wsX3_sizeOn := goodIn_r _ [27, 28, 29, 30, 31, 32, 33, 34, 5, 35, 36, 37, 38, 39, 40, 41, 42, 43, 44, 45, 46, 47, 48, 49, 50] (by decide +kernel) (by decide +kernel)
set_option maxRecDepth 20000 in
theorem gX3_faultOn_X3_sizeOn : GoodIn wsX3_faultOn (wsV RX3 75 RX3 yX3_sizeOn wsX3_sizeOn) := goodIn_app (goodIn_of _ (by decide +kernel)) ggX3_faultOn_X3_sizeOn
theorem dX3_faultOn_0 : decode cX3_faultOn 0 = .ok (.aload_n 0, 1) := by decide +kernel
theorem dX3_faultOn_1 : decode cX3_faultOn 1 = .ok (.iload_n 1, 1) := by decide +kernel
theorem dX3_faultOn_2 : decode cX3_faultOn 2 = .ok (.iload_n 2, 1) := by decide +kernel
theorem dX3_faultOn_3 : decode cX3_faultOn 3 = .ok (.invokevirtual 78, 3) := by decide +kernel
theorem dX3_faultOn_6 : decode cX3_faultOn 6 = .ok (.istore_n 3, 1) := by decide +kernel
theorem dX3_faultOn_7 : decode cX3_faultOn 7 = .ok (.iload_n 3, 1) := by decide +kernel
theorem dX3_faultOn_8 : decode cX3_faultOn 8 = .ok (.aload_n 0, 1) := by decide +kernel
theorem dX3_faultOn_9 : decode cX3_faultOn 9 = .ok (.iload_n 2, 1) := by decide +kernel
theorem dX3_faultOn_10 : decode cX3_faultOn 10 = .ok (.invokevirtual 58, 3) := by decide +kernel
theorem dX3_faultOn_13 : decode cX3_faultOn 13 = .ok (.imul, 1) := by decide +kernel
theorem dX3_faultOn_14 : decode cX3_faultOn 14 = .ok (.bipush 100, 2) := by decide +kernel
theorem dX3_faultOn_16 : decode cX3_faultOn 16 = .ok (.idiv, 1) := by decide +kernel
theorem dX3_faultOn_17 : decode cX3_faultOn 17 = .ok (.istore 4, 2) := by decide +kernel
theorem dX3_faultOn_19 : decode cX3_faultOn 19 = .ok (.aload_n 0, 1) := by decide +kernel
theorem dX3_faultOn_20 : decode cX3_faultOn 20 = .ok (.iload_n 1, 1) := by decide +kernel
theorem dX3_faultOn_21 : decode cX3_faultOn 21 = .ok (.iload_n 2, 1) := by decide +kernel
theorem dX3_faultOn_22 : decode cX3_faultOn 22 = .ok (.invokevirtual 75, 3) := by decide +kernel
theorem dX3_faultOn_25 : decode cX3_faultOn 25 = .ok (.iload_n 3, 1) := by decide +kernel
theorem dX3_faultOn_26 : decode cX3_faultOn 26 = .ok (.isub, 1) := by decide +kernel
theorem dX3_faultOn_27 : decode cX3_faultOn 27 = .ok (.istore 5, 2) := by decide +kernel
theorem dX3_faultOn_29 : decode cX3_faultOn 29 = .ok (.iload 5, 2) := by decide +kernel
theorem dX3_faultOn_31 : decode cX3_faultOn 31 = .ok (.iload 4, 2) := by decide +kernel
theorem dX3_faultOn_33 : decode cX3_faultOn 33 = .ok (.if_icmp .le 15, 3) := by decide +kernel
theorem dX3_faultOn_36 : decode cX3_faultOn 36 = .ok (.aload_n 0, 1) := by decide +kernel
theorem dX3_faultOn_37 : decode cX3_faultOn 37 = .ok (.getfield 21, 3) := by decide +kernel
theorem dX3_faultOn_40 : decode cX3_faultOn 40 = .ok (.iload_n 1, 1) := by decide +kernel
theorem dX3_faultOn_41 : decode cX3_faultOn 41 = .ok (.iaload, 1) := by decide +kernel
theorem dX3_faultOn_42 : decode cX3_faultOn 42 = .ok (.iconst 2, 1) := by decide +kernel
theorem dX3_faultOn_43 : decode cX3_faultOn 43 = .ok (.if_icmp .eq 5, 3) := by decide +kernel
theorem dX3_faultOn_46 : decode cX3_faultOn 46 = .ok (.iconst 1, 1) := by decide +kernel
theorem dX3_faultOn_47 : decode cX3_faultOn 47 = .ok (.ireturn, 1) := by decide +kernel
theorem dX3_faultOn_48 : decode cX3_faultOn 48 = .ok (.iload 5, 2) := by decide +kernel
theorem dX3_faultOn_50 : decode cX3_faultOn 50 = .ok (.ineg, 1) := by decide +kernel
theorem dX3_faultOn_51 : decode cX3_faultOn 51 = .ok (.iload 4, 2) := by decide +kernel
theorem dX3_faultOn_53 : decode cX3_faultOn 53 = .ok (.if_icmp .le 15, 3) := by decide +kernel
theorem dX3_faultOn_56 : decode cX3_faultOn 56 = .ok (.aload_n 0, 1) := by decide +kernel
theorem dX3_faultOn_57 : decode cX3_faultOn 57 = .ok (.getfield 21, 3) := by decide +kernel
theorem dX3_faultOn_60 : decode cX3_faultOn 60 = .ok (.iload_n 1, 1) := by decide +kernel
theorem dX3_faultOn_61 : decode cX3_faultOn 61 = .ok (.iaload, 1) := by decide +kernel
theorem dX3_faultOn_62 : decode cX3_faultOn 62 = .ok (.iconst 1, 1) := by decide +kernel
theorem dX3_faultOn_63 : decode cX3_faultOn 63 = .ok (.if_icmp .eq 5, 3) := by decide +kernel
theorem dX3_faultOn_66 : decode cX3_faultOn 66 = .ok (.iconst 2, 1) := by decide +kernel
theorem dX3_faultOn_67 : decode cX3_faultOn 67 = .ok (.ireturn, 1) := by decide +kernel
theorem dX3_faultOn_68 : decode cX3_faultOn 68 = .ok (.iconst 0, 1) := by decide +kernel
theorem dX3_faultOn_69 : decode cX3_faultOn 69 = .ok (.ireturn, 1) := by decide +kernel
set_option maxRecDepth 20000 in
theorem ggX4_init_X3_init : GoodIn wsX4_init wsX3_init := goodIn_r _ [21, 22, 2, 3, 23, 24, 25, 26, 27, 28, 29, 30, 31, 32, 33, 69, 70, 71, 72, 73, 74, 75, 76, 77, 78, 79, 80, 81] (by decide +kernel) (by decide +kernel)
set_option maxRecDepth 20000 in
theorem gX4_init_X3_init_n9 : GoodIn wsX4_init (wsX3_init) := ggX4_init_X3_init
set_option maxRecDepth 20000 in
theorem ggX4_init_X1_init : GoodIn wsX4_init wsX1_init := goodIn_r _ [36, 37, 2, 3, 23, 38, 39, 40, 41, 42, 43, 44, 45, 46, 47, 48, 86, 87, 88, 89, 90, 91, 92, 93, 94, 95, 96, 97, 98, 99, 100, 101] (by decide +kernel) (by decide +kernel)
set_option maxRecDepth 20000 in
theorem gX4_init_X1_init : GoodIn wsX4_init (wsX1_init) := ggX4_init_X1_init
set_option maxRecDepth 20000 in
theorem ggX4_init_X2_init : GoodIn wsX4_init wsX2_init := goodIn_r _ [50, 51, 2, 3, 52, 23, 53, 54, 55, 56, 57, 58, 59, 60, 39, 61, 102, 103, 104, 105, 106, 107, 108, 109, 110, 111, 112, 113] (by decide +kernel) (by decide +kernel)
set_option maxRecDepth 20000 in
theorem gX4_init_X2_init_n25 : GoodIn wsX4_init (wsX2_init) := ggX4_init_X2_init
set_option maxRecDepth 20000 in
theorem ggX4_init_X0_init : GoodIn wsX4_init wsX0_init := goodIn_r _ [63, 64, 2, 3, 23, 65, 66, 67, 68, 114, 115, 116, 117, 118, 119] (by decide +kernel) (by decide +kernel)
set_option maxRecDepth 20000 in
theorem gX4_init_X0_init_n32 : GoodIn wsX4_init (wsX0_init) := ggX4_init_X0_init
theorem dX4_init_0 : decode cX4_init 0 = .ok (.aload_n 0, 1) := by decide +kernel
theorem dX4_init_1 : decode cX4_init 1 = .ok (.invokespecial 1, 3) := by decide +kernel
theorem dX4_init_4 : decode cX4_init 4 = .ok (.aload_n 0, 1) := by decide +kernel
theorem dX4_init_5 : decode cX4_init 5 = .ok (.new 7, 3) := by decide +kernel
theorem dX4_init_8 : decode cX4_init 8 = .ok (.dup, 1) := by decide +kernel
theorem dX4_init_9 : decode cX4_init 9 = .ok (.invokespecial 9, 3) := by decide +kernel
theorem dX4_init_12 : decode cX4_init 12 = .ok (.putfield 10, 3) := by decide +kernel
theorem dX4_init_15 : decode cX4_init 15 = .ok (.aload_n 0, 1) := by decide +kernel
theorem dX4_init_16 : decode cX4_init 16 = .ok (.new 16, 3) := by decide +kernel
theorem dX4_init_19 : decode cX4_init 19 = .ok (.dup, 1) := by decide +kernel
theorem dX4_init_20 : decode cX4_init 20 = .ok (.invokespecial 18, 3) := by decide +kernel
theorem dX4_init_23 : decode cX4_init 23 = .ok (.putfield 19, 3) := by decide +kernel
theorem dX4_init_26 : decode cX4_init 26 = .ok (.aload_n 0, 1) := by decide +kernel
theorem dX4_init_27 : decode cX4_init 27 = .ok (.new 23, 3) := by decide +kernel
theorem dX4_init_30 : decode cX4_init 30 = .ok (.dup, 1) := by decide +kernel
theorem dX4_init_31 : decode cX4_init 31 = .ok (.invokespecial 25, 3) := by decide +kernel
theorem dX4_init_34 : decode cX4_init 34 = .ok (.putfield 26, 3) := by decide +kernel
theorem dX4_init_37 : decode cX4_init 37 = .ok (.aload_n 0, 1) := by decide +kernel
theorem dX4_init_38 : decode cX4_init 38 = .ok (.new 30, 3) := by decide +kernel
theorem dX4_init_41 : decode cX4_init 41 = .ok (.dup, 1) := by decide +kernel
theorem dX4_init_42 : decode cX4_init 42 = .ok (.invokespecial 32, 3) := by decide +kernel
theorem dX4_init_45 : decode cX4_init 45 = .ok (.putfield 33, 3) := by decide +kernel
theorem dX4_init_48 : decode cX4_init 48 = .ok (.return_, 1) := by decide +kernel
set_option maxRecDepth 20000 in
theorem ggX4_rule_X3_addRule : GoodIn wsX4_rule wsX3_addRule := goodIn_r _ [6, 7, 8, 9, 10, 11, 12, 13, 14, 15, 16, 21, 22, 23, 24, 25, 26, 27, 28, 29, 30, 31, 32, 33] (by decide +kernel) (by decide +kernel)
set_option maxRecDepth 20000 in
theorem gX4_rule_X3_addRule : GoodIn wsX4_rule (wsV RX4 37 RX3 yX3_addRule wsX3_addRule) := goodIn_app (goodIn_of _ (by decide +kernel)) ggX4_rule_X3_addRule
theorem dX4_rule_0 : decode cX4_rule 0 = .ok (.aload_n 0, 1) := by decide +kernel
theorem dX4_rule_1 : decode cX4_rule 1 = .ok (.getfield 10, 3) := by decide +kernel
theorem dX4_rule_4 : decode cX4_rule 4 = .ok (.iload_n 1, 1) := by decide +kernel
theorem dX4_rule_5 : decode cX4_rule 5 = .ok (.iload_n 2, 1) := by decide +kernel
theorem dX4_rule_6 : decode cX4_rule 6 = .ok (.iload_n 3, 1) := by decide +kernel
theorem dX4_rule_7 : decode cX4_rule 7 = .ok (.invokevirtual 37, 3) := by decide +kernel
theorem dX4_rule_10 : decode cX4_rule 10 = .ok (.ireturn, 1) := by decide +kernel
set_option maxRecDepth 20000 in
theorem ggX4_force_X3_inForce : GoodIn wsX4_force wsX3_inForce := goodIn_r _ [6, 7, 8, 9, 10, 11, 12, 13, 14, 15, 5, 16, 17, 18, 19, 20, 21, 22, 23, 24, 25, 26, 27, 28, 33, 34, 35, 36, 37, 38, 39, 40, 41, 42, 43, 44, 45] (by decide +kernel) (by decide +kernel)
set_option maxRecDepth 20000 in
theorem gX4_force_X3_inForce : GoodIn wsX4_force (wsV RX4 41 RX3 yX3_inForce wsX3_inForce) := goodIn_app (goodIn_of _ (by decide +kernel)) ggX4_force_X3_inForce
theorem dX4_force_0 : decode cX4_force 0 = .ok (.aload_n 0, 1) := by decide +kernel
theorem dX4_force_1 : decode cX4_force 1 = .ok (.getfield 10, 3) := by decide +kernel
theorem dX4_force_4 : decode cX4_force 4 = .ok (.iload_n 1, 1) := by decide +kernel
theorem dX4_force_5 : decode cX4_force 5 = .ok (.iload_n 2, 1) := by decide +kernel
theorem dX4_force_6 : decode cX4_force 6 = .ok (.invokevirtual 41, 3) := by decide +kernel
theorem dX4_force_9 : decode cX4_force 9 = .ok (.ireturn, 1) := by decide +kernel
set_option maxRecDepth 20000 in
theorem ggX4_thing_X3_addThing : GoodIn wsX4_thing wsX3_addThing := goodIn_r _ [6, 7, 8, 9, 10, 11, 12, 13, 14, 15, 20, 21, 22, 23, 24, 25, 26, 27, 28, 29, 30, 31, 32] (by decide +kernel) (by decide +kernel)
set_option maxRecDepth 20000 in
theorem gX4_thing_X3_addThing : GoodIn wsX4_thing (wsV RX4 45 RX3 yX3_addThing wsX3_addThing) := goodIn_app (goodIn_of _ (by decide +kernel)) ggX4_thing_X3_addThing
theorem dX4_thing_0 : decode cX4_thing 0 = .ok (.aload_n 0, 1) := by decide +kernel
theorem dX4_thing_1 : decode cX4_thing 1 = .ok (.getfield 10, 3) := by decide +kernel
theorem dX4_thing_4 : decode cX4_thing 4 = .ok (.iload_n 1, 1) := by decide +kernel
theorem dX4_thing_5 : decode cX4_thing 5 = .ok (.iload_n 2, 1) := by decide +kernel
theorem dX4_thing_6 : decode cX4_thing 6 = .ok (.iload_n 3, 1) := by decide +kernel
theorem dX4_thing_7 : decode cX4_thing 7 = .ok (.iload 4, 2) := by decide +kernel
theorem dX4_thing_9 : decode cX4_thing 9 = .ok (.invokevirtual 45, 3) := by decide +kernel
theorem dX4_thing_12 : decode cX4_thing 12 = .ok (.ireturn, 1) := by decide +kernel
set_option maxRecDepth 20000 in
theorem ggX4_clip_X3_clipTree : GoodIn wsX4_clip wsX3_clipTree := goodIn_r _ [6, 7, 8, 9, 10, 11, 12, 13, 14, 5, 15, 16, 17, 18, 19, 20, 21, 22, 23, 24, 25, 26, 27, 28, 29, 30, 31, 32, 37, 38, 39, 40, 41, 42, 43, 44, 45, 46, 47, 48, 49] (by decide +kernel) (by decide +kernel)
set_option maxRecDepth 20000 in
theorem gX4_clip_X3_clipTree : GoodIn wsX4_clip (wsV RX4 49 RX3 yX3_clipTree wsX3_clipTree) := goodIn_app (goodIn_of _ (by decide +kernel)) ggX4_clip_X3_clipTree
theorem dX4_clip_0 : decode cX4_clip 0 = .ok (.aload_n 0, 1) := by decide +kernel
theorem dX4_clip_1 : decode cX4_clip 1 = .ok (.getfield 10, 3) := by decide +kernel
theorem dX4_clip_4 : decode cX4_clip 4 = .ok (.iload_n 1, 1) := by decide +kernel
theorem dX4_clip_5 : decode cX4_clip 5 = .ok (.iload_n 2, 1) := by decide +kernel
theorem dX4_clip_6 : decode cX4_clip 6 = .ok (.iload_n 3, 1) := by decide +kernel
theorem dX4_clip_7 : decode cX4_clip 7 = .ok (.invokevirtual 49, 3) := by decide +kernel
theorem dX4_clip_10 : decode cX4_clip 10 = .ok (.ireturn, 1) := by decide +kernel
set_option maxRecDepth 20000 in
theorem ggX4_look_X3_lookAt : GoodIn wsX4_look wsX3_lookAt := goodIn_r _ [6, 7, 8, 9, 5, 10, 11, 12, 13, 14, 15, 16, 17, 18, 19, 20, 21, 22, 23, 24, 25, 26, 27, 28, 29, 30, 31, 32, 33, 34, 35, 36, 37, 38, 39, 40, 41, 42, 43, 44, 45, 46, 47, 48, 49, 50, 51, 52, 53, 54, 55, 56, 57, 62, 63, 64, 65, 66, 67, 68, 69, 70, 71, 72, 73, 74] (by decide +kernel) (by decide +kernel)
set_option maxRecDepth 20000 in
theorem gX4_look_X3_lookAt : GoodIn wsX4_look (wsV RX4 52 RX3 yX3_lookAt wsX3_lookAt) := goodIn_app (goodIn_of _ (by decide +kernel)) ggX4_look_X3_lookAt
theorem dX4_look_0 : decode cX4_look 0 = .ok (.aload_n 0, 1) := by decide +kernel
theorem dX4_look_1 : decode cX4_look 1 = .ok (.getfield 10, 3) := by decide +kernel
theorem dX4_look_4 : decode cX4_look 4 = .ok (.iload_n 1, 1) := by decide +kernel
theorem dX4_look_5 : decode cX4_look 5 = .ok (.iload_n 2, 1) := by decide +kernel
theorem dX4_look_6 : decode cX4_look 6 = .ok (.iload_n 3, 1) := by decide +kernel
theorem dX4_look_7 : decode cX4_look 7 = .ok (.invokevirtual 52, 3) := by decide +kernel
theorem dX4_look_10 : decode cX4_look 10 = .ok (.ireturn, 1) := by decide +kernel
set_option maxRecDepth 20000 in
theorem ggX4_fault_X3_firstFaulty : GoodIn wsX4_fault wsX3_firstFaulty := goodIn_r _ [6, 7, 8, 9, 10, 11, 12, 13, 14, 15, 16, 5, 17, 18, 19, 20, 21, 22, 23, 24, 25, 26, 27, 28, 29, 30, 31, 32, 33, 34, 35, 36, 37, 38, 39, 40, 41, 42, 43, 44, 45, 46, 47, 48, 49, 50, 51, 52, 53, 58, 59, 60, 61, 62, 63, 64, 65, 66, 67, 68, 69, 70] (by decide +kernel) (by decide +kernel)
set_option maxRecDepth 20000 in
theorem gX4_fault_X3_firstFaulty : GoodIn wsX4_fault (wsV RX4 55 RX3 yX3_firstFaulty wsX3_firstFaulty) := goodIn_app (goodIn_of _ (by decide +kernel)) ggX4_fault_X3_firstFaulty
theorem dX4_fault_0 : decode cX4_fault 0 = .ok (.aload_n 0, 1) := by decide +kernel
theorem dX4_fault_1 : decode cX4_fault 1 = .ok (.getfield 10, 3) := by decide +kernel
theorem dX4_fault_4 : decode cX4_fault 4 = .ok (.iload_n 1, 1) := by decide +kernel
theorem dX4_fault_5 : decode cX4_fault 5 = .ok (.invokevirtual 55, 3) := by decide +kernel
theorem dX4_fault_8 : decode cX4_fault 8 = .ok (.ireturn, 1) := by decide +kernel
set_option maxRecDepth 20000 in
theorem ggX4_spoils_X3_firstFaultyDay : GoodIn wsX4_spoils wsX3_firstFaultyDay := goodIn_r _ [6, 7, 8, 9, 5, 10, 11, 12, 13, 14, 15, 16, 17, 18, 19, 20, 21, 22, 23, 24, 25, 26, 27, 28, 29, 30, 31, 32, 33, 34, 35, 36, 37, 38, 39, 40, 41, 42, 43, 44, 45, 46, 47, 48, 49, 50, 51, 52, 53, 54, 55, 56, 57, 62, 63, 64, 65, 66, 67, 68, 69, 70, 71, 72, 73, 74] (by decide +kernel) (by decide +kernel)
set_option maxRecDepth 20000 in
theorem gX4_spoils_X3_firstFaultyDay : GoodIn wsX4_spoils (wsV RX4 59 RX3 yX3_firstFaultyDay wsX3_firstFaultyDay) := goodIn_app (goodIn_of _ (by decide +kernel)) ggX4_spoils_X3_firstFaultyDay
theorem dX4_spoils_0 : decode cX4_spoils 0 = .ok (.aload_n 0, 1) := by decide +kernel
theorem dX4_spoils_1 : decode cX4_spoils 1 = .ok (.getfield 10, 3) := by decide +kernel
theorem dX4_spoils_4 : decode cX4_spoils 4 = .ok (.iload_n 1, 1) := by decide +kernel
theorem dX4_spoils_5 : decode cX4_spoils 5 = .ok (.iload_n 2, 1) := by decide +kernel
theorem dX4_spoils_6 : decode cX4_spoils 6 = .ok (.invokevirtual 59, 3) := by decide +kernel
theorem dX4_spoils_9 : decode cX4_spoils 9 = .ok (.ireturn, 1) := by decide +kernel
set_option maxRecDepth 20000 in
theorem ggX4_fade_X1_setFade : GoodIn wsX4_fade wsX1_setFade := goodIn_r _ [6, 7, 8, 9, 10, 15, 16, 17, 18, 19, 20, 21, 22, 23, 24, 25, 26, 27, 28, 29, 30] (by decide +kernel) (by decide +kernel)
set_option maxRecDepth 20000 in
theorem gX4_fade_X1_setFade : GoodIn wsX4_fade (wsV RX4 62 RX1 yX1_setFade wsX1_setFade) := goodIn_app (goodIn_of _ (by decide +kernel)) ggX4_fade_X1_setFade
theorem dX4_fade_0 : decode cX4_fade 0 = .ok (.aload_n 0, 1) := by decide +kernel
theorem dX4_fade_1 : decode cX4_fade 1 = .ok (.getfield 19, 3) := by decide +kernel
theorem dX4_fade_4 : decode cX4_fade 4 = .ok (.iload_n 1, 1) := by decide +kernel
theorem dX4_fade_5 : decode cX4_fade 5 = .ok (.iload_n 2, 1) := by decide +kernel
theorem dX4_fade_6 : decode cX4_fade 6 = .ok (.invokevirtual 62, 3) := by decide +kernel
theorem dX4_fade_9 : decode cX4_fade 9 = .ok (.ireturn, 1) := by decide +kernel
set_option maxRecDepth 20000 in
theorem ggX4_wall_X1_addWall : GoodIn wsX4_wall wsX1_addWall := goodIn_r _ [6, 7, 8, 9, 10, 11, 12, 13, 14, 19, 20, 21, 22, 23, 24, 25, 26, 27, 28, 29, 30, 31, 32, 33, 34] (by decide +kernel) (by decide +kernel)
set_option maxRecDepth 20000 in
theorem gX4_wall_X1_addWall : GoodIn wsX4_wall (wsV RX4 65 RX1 yX1_addWall wsX1_addWall) := goodIn_app (goodIn_of _ (by decide +kernel)) ggX4_wall_X1_addWall
theorem dX4_wall_0 : decode cX4_wall 0 = .ok (.aload_n 0, 1) := by decide +kernel
theorem dX4_wall_1 : decode cX4_wall 1 = .ok (.getfield 19, 3) := by decide +kernel
theorem dX4_wall_4 : decode cX4_wall 4 = .ok (.iload_n 1, 1) := by decide +kernel
theorem dX4_wall_5 : decode cX4_wall 5 = .ok (.iload_n 2, 1) := by decide +kernel
theorem dX4_wall_6 : decode cX4_wall 6 = .ok (.iload_n 3, 1) := by decide +kernel
theorem dX4_wall_7 : decode cX4_wall 7 = .ok (.invokevirtual 65, 3) := by decide +kernel
theorem dX4_wall_10 : decode cX4_wall 10 = .ok (.ireturn, 1) := by decide +kernel
set_option maxRecDepth 20000 in
theorem ggX4_wallOf_X1_aboutWall : GoodIn wsX4_wallOf wsX1_aboutWall := goodIn_r _ [6, 7, 8, 9, 10, 11, 12, 13, 14, 15, 20, 21, 22, 23, 24, 25, 26, 27, 28, 29, 30, 31, 32, 33, 34, 35] (by decide +kernel) (by decide +kernel)
set_option maxRecDepth 20000 in
theorem gX4_wallOf_X1_aboutWall : GoodIn wsX4_wallOf (wsV RX4 68 RX1 yX1_aboutWall wsX1_aboutWall) := goodIn_app (goodIn_of _ (by decide +kernel)) ggX4_wallOf_X1_aboutWall
theorem dX4_wallOf_0 : decode cX4_wallOf 0 = .ok (.aload_n 0, 1) := by decide +kernel
theorem dX4_wallOf_1 : decode cX4_wallOf 1 = .ok (.getfield 19, 3) := by decide +kernel
theorem dX4_wallOf_4 : decode cX4_wallOf 4 = .ok (.iload_n 1, 1) := by decide +kernel
theorem dX4_wallOf_5 : decode cX4_wallOf 5 = .ok (.iload_n 2, 1) := by decide +kernel
theorem dX4_wallOf_6 : decode cX4_wallOf 6 = .ok (.invokevirtual 68, 3) := by decide +kernel
theorem dX4_wallOf_9 : decode cX4_wallOf 9 = .ok (.ireturn, 1) := by decide +kernel
set_option maxRecDepth 20000 in
theorem ggX4_hands_X1_setHands : GoodIn wsX4_hands wsX1_setHands := goodIn_r _ [6, 7, 8, 9, 10, 15, 16, 17, 18, 19, 20, 21, 22, 23, 24, 25, 26, 27, 28, 29, 30] (by decide +kernel) (by decide +kernel)
set_option maxRecDepth 20000 in
theorem gX4_hands_X1_setHands : GoodIn wsX4_hands (wsV RX4 71 RX1 yX1_setHands wsX1_setHands) := goodIn_app (goodIn_of _ (by decide +kernel)) ggX4_hands_X1_setHands
theorem dX4_hands_0 : decode cX4_hands 0 = .ok (.aload_n 0, 1) := by decide +kernel
theorem dX4_hands_1 : decode cX4_hands 1 = .ok (.getfield 19, 3) := by decide +kernel
theorem dX4_hands_4 : decode cX4_hands 4 = .ok (.iload_n 1, 1) := by decide +kernel
theorem dX4_hands_5 : decode cX4_hands 5 = .ok (.invokevirtual 71, 3) := by decide +kernel
theorem dX4_hands_8 : decode cX4_hands 8 = .ok (.ireturn, 1) := by decide +kernel
set_option maxRecDepth 20000 in
theorem ggX4_frost_X1_setFrost : GoodIn wsX4_frost wsX1_setFrost := goodIn_r _ [6, 7, 8, 9, 10, 11, 12, 13, 18, 19, 20, 21, 22, 23, 24, 25, 26, 27, 28, 29, 30, 31, 32, 33] (by decide +kernel) (by decide +kernel)
set_option maxRecDepth 20000 in
theorem gX4_frost_X1_setFrost : GoodIn wsX4_frost (wsV RX4 74 RX1 yX1_setFrost wsX1_setFrost) := goodIn_app (goodIn_of _ (by decide +kernel)) ggX4_frost_X1_setFrost
theorem dX4_frost_0 : decode cX4_frost 0 = .ok (.aload_n 0, 1) := by decide +kernel
theorem dX4_frost_1 : decode cX4_frost 1 = .ok (.getfield 19, 3) := by decide +kernel
theorem dX4_frost_4 : decode cX4_frost 4 = .ok (.iload_n 1, 1) := by decide +kernel
theorem dX4_frost_5 : decode cX4_frost 5 = .ok (.iload_n 2, 1) := by decide +kernel
theorem dX4_frost_6 : decode cX4_frost 6 = .ok (.invokevirtual 74, 3) := by decide +kernel
theorem dX4_frost_9 : decode cX4_frost 9 = .ok (.ireturn, 1) := by decide +kernel
set_option maxRecDepth 20000 in
theorem ggX4_week_X1_goWeek : GoodIn wsX4_week wsX1_goWeek := goodIn_r _ [6, 7, 8, 9, 10, 11, 12, 13, 5, 14, 15, 16, 17, 18, 19, 20, 21, 22, 23, 24, 25, 26, 27, 28, 29, 30, 31, 32, 37, 38, 39, 40, 41, 42, 43, 44, 45, 46, 47, 48, 49, 50, 51, 52] (by decide +kernel) (by decide +kernel)
set_option maxRecDepth 20000 in
theorem gX4_week_X1_goWeek : GoodIn wsX4_week (wsV RX4 78 RX1 yX1_goWeek wsX1_goWeek) := goodIn_app (goodIn_of _ (by decide +kernel)) ggX4_week_X1_goWeek
theorem dX4_week_0 : decode cX4_week 0 = .ok (.aload_n 0, 1) := by decide +kernel
theorem dX4_week_1 : decode cX4_week 1 = .ok (.getfield 19, 3) := by decide +kernel
theorem dX4_week_4 : decode cX4_week 4 = .ok (.invokevirtual 78, 3) := by decide +kernel
theorem dX4_week_7 : decode cX4_week 7 = .ok (.ireturn, 1) := by decide +kernel
set_option maxRecDepth 20000 in
theorem ggX4_foretell_X1_leastForetold : GoodIn wsX4_foretell wsX1_leastForetold := goodIn_r _ [6, 7, 8, 9, 10, 11, 12, 13, 14, 15, 16, 17, 18, 5, 19, 20, 21, 22, 23, 24, 25, 26, 27, 28, 29, 30, 31, 32, 33, 34, 35, 36, 37, 38, 39, 40, 41, 42, 43, 44, 45, 46, 47, 48, 49, 50, 51, 56, 57, 58, 59, 60, 61, 62, 63, 64, 65, 66, 67, 68, 69, 70, 71] (by decide +kernel) (by decide +kernel)
set_option maxRecDepth 20000 in
theorem gX4_foretell_X1_leastForetold : GoodIn wsX4_foretell (wsV RX4 82 RX1 yX1_leastForetold wsX1_leastForetold) := goodIn_app (goodIn_of _ (by decide +kernel)) ggX4_foretell_X1_leastForetold
theorem dX4_foretell_0 : decode cX4_foretell 0 = .ok (.aload_n 0, 1) := by decide +kernel
theorem dX4_foretell_1 : decode cX4_foretell 1 = .ok (.getfield 19, 3) := by decide +kernel
theorem dX4_foretell_4 : decode cX4_foretell 4 = .ok (.iload_n 1, 1) := by decide +kernel
theorem dX4_foretell_5 : decode cX4_foretell 5 = .ok (.iload_n 2, 1) := by decide +kernel
theorem dX4_foretell_6 : decode cX4_foretell 6 = .ok (.invokevirtual 82, 3) := by decide +kernel
theorem dX4_foretell_9 : decode cX4_foretell 9 = .ok (.ireturn, 1) := by decide +kernel
set_option maxRecDepth 20000 in
theorem ggX4_enough_X1_fewestHands : GoodIn wsX4_enough wsX1_fewestHands := goodIn_r _ [6, 7, 8, 9, 10, 11, 12, 13, 14, 15, 16, 5, 17, 18, 19, 20, 21, 22, 23, 24, 25, 26, 27, 28, 29, 30, 31, 32, 33, 34, 35, 36, 37, 38, 39, 40, 41, 42, 43, 44, 45, 46, 47, 48, 49, 50, 55, 56, 57, 58, 59, 60, 61, 62, 63, 64, 65, 66, 67, 68, 69, 70] (by decide +kernel) (by decide +kernel)
set_option maxRecDepth 20000 in
theorem gX4_enough_X1_fewestHands : GoodIn wsX4_enough (wsV RX4 85 RX1 yX1_fewestHands wsX1_fewestHands) := goodIn_app (goodIn_of _ (by decide +kernel)) ggX4_enough_X1_fewestHands
theorem dX4_enough_0 : decode cX4_enough 0 = .ok (.aload_n 0, 1) := by decide +kernel
theorem dX4_enough_1 : decode cX4_enough 1 = .ok (.getfield 19, 3) := by decide +kernel
theorem dX4_enough_4 : decode cX4_enough 4 = .ok (.iload_n 1, 1) := by decide +kernel
theorem dX4_enough_5 : decode cX4_enough 5 = .ok (.iload_n 2, 1) := by decide +kernel
theorem dX4_enough_6 : decode cX4_enough 6 = .ok (.invokevirtual 85, 3) := by decide +kernel
theorem dX4_enough_9 : decode cX4_enough 9 = .ok (.ireturn, 1) := by decide +kernel
set_option maxRecDepth 20000 in
theorem ggX4_ring_X2_addRing : GoodIn wsX4_ring wsX2_addRing := goodIn_r _ [6, 7, 12, 13, 14, 15, 16, 17, 18, 19, 20, 21, 22, 23] (by decide +kernel) (by decide +kernel)
set_option maxRecDepth 20000 in
theorem gX4_ring_X2_addRing : GoodIn wsX4_ring (wsV RX4 88 RX2 yX2_addRing wsX2_addRing) := goodIn_app (goodIn_of _ (by decide +kernel)) ggX4_ring_X2_addRing
theorem dX4_ring_0 : decode cX4_ring 0 = .ok (.aload_n 0, 1) := by decide +kernel
theorem dX4_ring_1 : decode cX4_ring 1 = .ok (.getfield 26, 3) := by decide +kernel
theorem dX4_ring_4 : decode cX4_ring 4 = .ok (.invokevirtual 88, 3) := by decide +kernel
theorem dX4_ring_7 : decode cX4_ring 7 = .ok (.ireturn, 1) := by decide +kernel
set_option maxRecDepth 20000 in
theorem ggX4_block_X2_addBlock : GoodIn wsX4_block wsX2_addBlock := goodIn_r _ [6, 7, 8, 9, 10, 11, 5, 12, 13, 14, 15, 16, 17, 18, 19, 20, 21, 22, 23, 24, 25, 26, 31, 32, 33, 34, 35, 36, 37, 38, 39, 40, 41, 42] (by decide +kernel) (by decide +kernel)
set_option maxRecDepth 20000 in
theorem gX4_block_X2_addBlock : GoodIn wsX4_block (wsV RX4 91 RX2 yX2_addBlock wsX2_addBlock) := goodIn_app (goodIn_of _ (by decide +kernel)) ggX4_block_X2_addBlock
theorem dX4_block_0 : decode cX4_block 0 = .ok (.aload_n 0, 1) := by decide +kernel
theorem dX4_block_1 : decode cX4_block 1 = .ok (.getfield 26, 3) := by decide +kernel
theorem dX4_block_4 : decode cX4_block 4 = .ok (.iload_n 1, 1) := by decide +kernel
theorem dX4_block_5 : decode cX4_block 5 = .ok (.iload_n 2, 1) := by decide +kernel
theorem dX4_block_6 : decode cX4_block 6 = .ok (.invokevirtual 91, 3) := by decide +kernel
theorem dX4_block_9 : decode cX4_block 9 = .ok (.ireturn, 1) := by decide +kernel
set_option maxRecDepth 20000 in
theorem ggX4_train_X2_addTrain : GoodIn wsX4_train wsX2_addTrain := goodIn_r _ [6, 7, 8, 9, 10, 11, 12, 13, 14, 15, 5, 16, 17, 18, 19, 20, 21, 22, 23, 24, 25, 26, 27, 28, 33, 34, 35, 36, 37, 38, 39, 40, 41, 42, 43, 44] (by decide +kernel) (by decide +kernel)
set_option maxRecDepth 20000 in
theorem gX4_train_X2_addTrain : GoodIn wsX4_train (wsV RX4 94 RX2 yX2_addTrain wsX2_addTrain) := goodIn_app (goodIn_of _ (by decide +kernel)) ggX4_train_X2_addTrain
theorem dX4_train_0 : decode cX4_train 0 = .ok (.aload_n 0, 1) := by decide +kernel
theorem dX4_train_1 : decode cX4_train 1 = .ok (.getfield 26, 3) := by decide +kernel
theorem dX4_train_4 : decode cX4_train 4 = .ok (.iload_n 1, 1) := by decide +kernel
theorem dX4_train_5 : decode cX4_train 5 = .ok (.iload_n 2, 1) := by decide +kernel
theorem dX4_train_6 : decode cX4_train 6 = .ok (.iload_n 3, 1) := by decide +kernel
theorem dX4_train_7 : decode cX4_train 7 = .ok (.invokevirtual 94, 3) := by decide +kernel
theorem dX4_train_10 : decode cX4_train 10 = .ok (.ireturn, 1) := by decide +kernel
set_option maxRecDepth 20000 in
theorem ggX4_stick_X2_setStuck : GoodIn wsX4_stick wsX2_setStuck := goodIn_r _ [6, 7, 8, 9, 10, 5, 11, 12, 13, 14, 15, 16, 17, 22, 23, 24, 25, 26, 27, 28, 29, 30, 31, 32, 33] (by decide +kernel) (by decide +kernel)
set_option maxRecDepth 20000 in
theorem gX4_stick_X2_setStuck : GoodIn wsX4_stick (wsV RX4 97 RX2 yX2_setStuck wsX2_setStuck) := goodIn_app (goodIn_of _ (by decide +kernel)) ggX4_stick_X2_setStuck
theorem dX4_stick_0 : decode cX4_stick 0 = .ok (.aload_n 0, 1) := by decide +kernel
theorem dX4_stick_1 : decode cX4_stick 1 = .ok (.getfield 26, 3) := by decide +kernel
theorem dX4_stick_4 : decode cX4_stick 4 = .ok (.iload_n 1, 1) := by decide +kernel
theorem dX4_stick_5 : decode cX4_stick 5 = .ok (.iload_n 2, 1) := by decide +kernel
theorem dX4_stick_6 : decode cX4_stick 6 = .ok (.invokevirtual 97, 3) := by decide +kernel
theorem dX4_stick_9 : decode cX4_stick 9 = .ok (.ireturn, 1) := by decide +kernel
set_option maxRecDepth 20000 in
theorem ggX4_run_X2_goMinutes : GoodIn wsX4_run wsX2_goMinutes := goodIn_r _ [6, 7, 8, 9, 10, 11, 12, 13, 14, 15, 5, 16, 17, 18, 19, 20, 21, 22, 23, 24, 25, 26, 27, 28, 29, 30, 31, 32, 33, 34, 35, 36, 37, 38, 39, 40, 41, 42, 47, 48, 49, 50, 51, 52, 53, 54, 55, 56, 57, 58] (by decide +kernel) (by decide +kernel)
set_option maxRecDepth 20000 in
theorem gX4_run_X2_goMinutes : GoodIn wsX4_run (wsV RX4 100 RX2 yX2_goMinutes wsX2_goMinutes) := goodIn_app (goodIn_of _ (by decide +kernel)) ggX4_run_X2_goMinutes
theorem dX4_run_0 : decode cX4_run 0 = .ok (.aload_n 0, 1) := by decide +kernel
theorem dX4_run_1 : decode cX4_run 1 = .ok (.getfield 26, 3) := by decide +kernel
theorem dX4_run_4 : decode cX4_run 4 = .ok (.iload_n 1, 1) := by decide +kernel
theorem dX4_run_5 : decode cX4_run 5 = .ok (.invokevirtual 100, 3) := by decide +kernel
theorem dX4_run_8 : decode cX4_run 8 = .ok (.ireturn, 1) := by decide +kernel
set_option maxRecDepth 20000 in
theorem ggX4_trainOf_X2_aboutTrain : GoodIn wsX4_trainOf wsX2_aboutTrain := goodIn_r _ [6, 7, 8, 9, 10, 11, 12, 13, 14, 15, 5, 16, 17, 18, 19, 20, 21, 22, 23, 24, 25, 26, 27, 28, 29, 30, 31, 32, 33, 34, 35, 36, 37, 38, 39, 40, 45, 46, 47, 48, 49, 50, 51, 52, 53, 54, 55, 56] (by decide +kernel) (by decide +kernel)
set_option maxRecDepth 20000 in
theorem gX4_trainOf_X2_aboutTrain : GoodIn wsX4_trainOf (wsV RX4 103 RX2 yX2_aboutTrain wsX2_aboutTrain) := goodIn_app (goodIn_of _ (by decide +kernel)) ggX4_trainOf_X2_aboutTrain
theorem dX4_trainOf_0 : decode cX4_trainOf 0 = .ok (.aload_n 0, 1) := by decide +kernel
theorem dX4_trainOf_1 : decode cX4_trainOf 1 = .ok (.getfield 26, 3) := by decide +kernel
theorem dX4_trainOf_4 : decode cX4_trainOf 4 = .ok (.iload_n 1, 1) := by decide +kernel
theorem dX4_trainOf_5 : decode cX4_trainOf 5 = .ok (.iload_n 2, 1) := by decide +kernel
theorem dX4_trainOf_6 : decode cX4_trainOf 6 = .ok (.invokevirtual 103, 3) := by decide +kernel
theorem dX4_trainOf_9 : decode cX4_trainOf 9 = .ok (.ireturn, 1) := by decide +kernel
set_option maxRecDepth 20000 in
theorem ggX4_stands_X2_standing : GoodIn wsX4_stands wsX2_standing := goodIn_r _ [6, 7, 8, 9, 10, 5, 11, 12, 13, 14, 15, 16, 17, 18, 19, 20, 21, 22, 23, 24, 25, 26, 27, 28, 29, 30, 31, 32, 37, 38, 39, 40, 41, 42, 43, 44, 45, 46, 47, 48] (by decide +kernel) (by decide +kernel)
set_option maxRecDepth 20000 in
theorem gX4_stands_X2_standing : GoodIn wsX4_stands (wsV RX4 106 RX2 yX2_standing wsX2_standing) := goodIn_app (goodIn_of _ (by decide +kernel)) ggX4_stands_X2_standing
theorem dX4_stands_0 : decode cX4_stands 0 = .ok (.aload_n 0, 1) := by decide +kernel
theorem dX4_stands_1 : decode cX4_stands 1 = .ok (.getfield 26, 3) := by decide +kernel
theorem dX4_stands_4 : decode cX4_stands 4 = .ok (.invokevirtual 106, 3) := by decide +kernel
theorem dX4_stands_7 : decode cX4_stands 7 = .ok (.ireturn, 1) := by decide +kernel
set_option maxRecDepth 20000 in
theorem ggX4_figure_X0_addFigure : GoodIn wsX4_figure wsX0_addFigure := goodIn_r _ [6, 7, 12, 13, 14, 15, 16, 17] (by decide +kernel) (by decide +kernel)
set_option maxRecDepth 20000 in
theorem gX4_figure_X0_addFigure : GoodIn wsX4_figure (wsV RX4 109 RX0 yX0_addFigure wsX0_addFigure) := goodIn_app (goodIn_of _ (by decide +kernel)) ggX4_figure_X0_addFigure
theorem dX4_figure_0 : decode cX4_figure 0 = .ok (.aload_n 0, 1) := by decide +kernel
theorem dX4_figure_1 : decode cX4_figure 1 = .ok (.getfield 33, 3) := by decide +kernel
theorem dX4_figure_4 : decode cX4_figure 4 = .ok (.invokevirtual 109, 3) := by decide +kernel
theorem dX4_figure_7 : decode cX4_figure 7 = .ok (.ireturn, 1) := by decide +kernel
set_option maxRecDepth 20000 in
theorem ggX4_note_X0_addNote : GoodIn wsX4_note wsX0_addNote := goodIn_r _ [6, 7, 8, 9, 10, 11, 12, 13, 14, 5, 15, 16, 17, 18, 19, 20, 21, 22, 27, 28, 29, 30, 31, 32] (by decide +kernel) (by decide +kernel)
set_option maxRecDepth 20000 in
theorem gX4_note_X0_addNote : GoodIn wsX4_note (wsV RX4 112 RX0 yX0_addNote wsX0_addNote) := goodIn_app (goodIn_of _ (by decide +kernel)) ggX4_note_X0_addNote
theorem dX4_note_0 : decode cX4_note 0 = .ok (.aload_n 0, 1) := by decide +kernel
theorem dX4_note_1 : decode cX4_note 1 = .ok (.getfield 33, 3) := by decide +kernel
theorem dX4_note_4 : decode cX4_note 4 = .ok (.iload_n 1, 1) := by decide +kernel
theorem dX4_note_5 : decode cX4_note 5 = .ok (.iload_n 2, 1) := by decide +kernel
theorem dX4_note_6 : decode cX4_note 6 = .ok (.iload_n 3, 1) := by decide +kernel
theorem dX4_note_7 : decode cX4_note 7 = .ok (.iload 4, 2) := by decide +kernel
theorem dX4_note_9 : decode cX4_note 9 = .ok (.invokevirtual 112, 3) := by decide +kernel
theorem dX4_note_12 : decode cX4_note 12 = .ok (.ireturn, 1) := by decide +kernel
set_option maxRecDepth 20000 in
theorem ggX4_where_X0_whereIs : GoodIn wsX4_where wsX0_whereIs := goodIn_r _ [6, 7, 8, 9, 5, 10, 11, 12, 13, 14, 15, 16, 17, 18, 19, 20, 21, 22, 23, 24, 25, 26, 27, 28, 29, 30, 31, 32, 33, 34, 39, 40, 41, 42, 43, 44] (by decide +kernel) (by decide +kernel)
set_option maxRecDepth 20000 in
theorem gX4_where_X0_whereIs : GoodIn wsX4_where (wsV RX4 115 RX0 yX0_whereIs wsX0_whereIs) := goodIn_app (goodIn_of _ (by decide +kernel)) ggX4_where_X0_whereIs
theorem dX4_where_0 : decode cX4_where 0 = .ok (.aload_n 0, 1) := by decide +kernel
theorem dX4_where_1 : decode cX4_where 1 = .ok (.getfield 33, 3) := by decide +kernel
theorem dX4_where_4 : decode cX4_where 4 = .ok (.iload_n 1, 1) := by decide +kernel
theorem dX4_where_5 : decode cX4_where 5 = .ok (.iload_n 2, 1) := by decide +kernel
theorem dX4_where_6 : decode cX4_where 6 = .ok (.iload_n 3, 1) := by decide +kernel
theorem dX4_where_7 : decode cX4_where 7 = .ok (.invokevirtual 115, 3) := by decide +kernel
theorem dX4_where_10 : decode cX4_where 10 = .ok (.ireturn, 1) := by decide +kernel
set_option maxRecDepth 20000 in
theorem ggX4_at_X0_figuresAt : GoodIn wsX4_at wsX0_figuresAt := goodIn_r _ [6, 7, 8, 9, 10, 11, 12, 13, 14, 15, 16, 5, 17, 18, 19, 20, 21, 22, 23, 24, 25, 26, 27, 28, 29, 30, 35, 36, 37, 38, 39, 40] (by decide +kernel) (by decide +kernel)
set_option maxRecDepth 20000 in
theorem gX4_at_X0_figuresAt : GoodIn wsX4_at (wsV RX4 118 RX0 yX0_figuresAt wsX0_figuresAt) := goodIn_app (goodIn_of _ (by decide +kernel)) ggX4_at_X0_figuresAt
theorem dX4_at_0 : decode cX4_at 0 = .ok (.aload_n 0, 1) := by decide +kernel
theorem dX4_at_1 : decode cX4_at 1 = .ok (.getfield 33, 3) := by decide +kernel
theorem dX4_at_4 : decode cX4_at 4 = .ok (.iload_n 1, 1) := by decide +kernel
theorem dX4_at_5 : decode cX4_at 5 = .ok (.iload_n 2, 1) := by decide +kernel
theorem dX4_at_6 : decode cX4_at 6 = .ok (.iload_n 3, 1) := by decide +kernel
theorem dX4_at_7 : decode cX4_at 7 = .ok (.invokevirtual 118, 3) := by decide +kernel
theorem dX4_at_10 : decode cX4_at 10 = .ok (.ireturn, 1) := by decide +kernel
set_option maxRecDepth 20000 in
theorem ggX4_turns_X0_turnsOf : GoodIn wsX4_turns wsX0_turnsOf := goodIn_r _ [6, 7, 8, 9, 10, 11, 5, 12, 13, 14, 15, 16, 17, 18, 19, 20, 21, 22, 23, 24, 25, 26, 27, 28, 29, 34, 35, 36, 37, 38, 39] (by decide +kernel) (by decide +kernel)
set_option maxRecDepth 20000 in
theorem gX4_turns_X0_turnsOf : GoodIn wsX4_turns (wsV RX4 121 RX0 yX0_turnsOf wsX0_turnsOf) := goodIn_app (goodIn_of _ (by decide +kernel)) ggX4_turns_X0_turnsOf
theorem dX4_turns_0 : decode cX4_turns 0 = .ok (.aload_n 0, 1) := by decide +kernel
theorem dX4_turns_1 : decode cX4_turns 1 = .ok (.getfield 33, 3) := by decide +kernel
theorem dX4_turns_4 : decode cX4_turns 4 = .ok (.iload_n 1, 1) := by decide +kernel
theorem dX4_turns_5 : decode cX4_turns 5 = .ok (.iload_n 2, 1) := by decide +kernel
theorem dX4_turns_6 : decode cX4_turns 6 = .ok (.invokevirtual 121, 3) := by decide +kernel
theorem dX4_turns_9 : decode cX4_turns 9 = .ok (.ireturn, 1) := by decide +kernel
theorem dX4_told_0 : decode cX4_told 0 = .ok (.iload_n 1, 1) := by decide +kernel
theorem dX4_told_1 : decode cX4_told 1 = .ok (.tableswitch 135 0 9 #[55, 63, 71, 79, 87, 95, 103, 111, 119, 127], 55) := by decide +kernel
theorem dX4_told_56 : decode cX4_told 56 = .ok (.aload_n 0, 1) := by decide +kernel
theorem dX4_told_57 : decode cX4_told 57 = .ok (.getfield 10, 3) := by decide +kernel
theorem dX4_told_60 : decode cX4_told 60 = .ok (.getfield 124, 3) := by decide +kernel
theorem dX4_told_63 : decode cX4_told 63 = .ok (.ireturn, 1) := by decide +kernel
theorem dX4_told_64 : decode cX4_told 64 = .ok (.aload_n 0, 1) := by decide +kernel
theorem dX4_told_65 : decode cX4_told 65 = .ok (.getfield 10, 3) := by decide +kernel
theorem dX4_told_68 : decode cX4_told 68 = .ok (.getfield 128, 3) := by decide +kernel
theorem dX4_told_71 : decode cX4_told 71 = .ok (.ireturn, 1) := by decide +kernel
theorem dX4_told_72 : decode cX4_told 72 = .ok (.aload_n 0, 1) := by decide +kernel
theorem dX4_told_73 : decode cX4_told 73 = .ok (.getfield 19, 3) := by decide +kernel
theorem dX4_told_76 : decode cX4_told 76 = .ok (.getfield 131, 3) := by decide +kernel
theorem dX4_told_79 : decode cX4_told 79 = .ok (.ireturn, 1) := by decide +kernel
theorem dX4_told_80 : decode cX4_told 80 = .ok (.aload_n 0, 1) := by decide +kernel
theorem dX4_told_81 : decode cX4_told 81 = .ok (.getfield 19, 3) := by decide +kernel
theorem dX4_told_84 : decode cX4_told 84 = .ok (.getfield 134, 3) := by decide +kernel
theorem dX4_told_87 : decode cX4_told 87 = .ok (.ireturn, 1) := by decide +kernel
theorem dX4_told_88 : decode cX4_told 88 = .ok (.aload_n 0, 1) := by decide +kernel
theorem dX4_told_89 : decode cX4_told 89 = .ok (.getfield 19, 3) := by decide +kernel
theorem dX4_told_92 : decode cX4_told 92 = .ok (.getfield 137, 3) := by decide +kernel
theorem dX4_told_95 : decode cX4_told 95 = .ok (.ireturn, 1) := by decide +kernel
theorem dX4_told_96 : decode cX4_told 96 = .ok (.aload_n 0, 1) := by decide +kernel
theorem dX4_told_97 : decode cX4_told 97 = .ok (.getfield 26, 3) := by decide +kernel
theorem dX4_told_100 : decode cX4_told 100 = .ok (.getfield 140, 3) := by decide +kernel
theorem dX4_told_103 : decode cX4_told 103 = .ok (.ireturn, 1) := by decide +kernel
theorem dX4_told_104 : decode cX4_told 104 = .ok (.aload_n 0, 1) := by decide +kernel
theorem dX4_told_105 : decode cX4_told 105 = .ok (.getfield 26, 3) := by decide +kernel
theorem dX4_told_108 : decode cX4_told 108 = .ok (.getfield 143, 3) := by decide +kernel
theorem dX4_told_111 : decode cX4_told 111 = .ok (.ireturn, 1) := by decide +kernel
theorem dX4_told_112 : decode cX4_told 112 = .ok (.aload_n 0, 1) := by decide +kernel
theorem dX4_told_113 : decode cX4_told 113 = .ok (.getfield 26, 3) := by decide +kernel
theorem dX4_told_116 : decode cX4_told 116 = .ok (.getfield 146, 3) := by decide +kernel
theorem dX4_told_119 : decode cX4_told 119 = .ok (.ireturn, 1) := by decide +kernel
theorem dX4_told_120 : decode cX4_told 120 = .ok (.aload_n 0, 1) := by decide +kernel
theorem dX4_told_121 : decode cX4_told 121 = .ok (.getfield 33, 3) := by decide +kernel
theorem dX4_told_124 : decode cX4_told 124 = .ok (.getfield 149, 3) := by decide +kernel
theorem dX4_told_127 : decode cX4_told 127 = .ok (.ireturn, 1) := by decide +kernel
theorem dX4_told_128 : decode cX4_told 128 = .ok (.aload_n 0, 1) := by decide +kernel
theorem dX4_told_129 : decode cX4_told 129 = .ok (.getfield 33, 3) := by decide +kernel
theorem dX4_told_132 : decode cX4_told 132 = .ok (.getfield 152, 3) := by decide +kernel
theorem dX4_told_135 : decode cX4_told 135 = .ok (.ireturn, 1) := by decide +kernel
theorem dX4_told_136 : decode cX4_told 136 = .ok (.bipush (-2), 2) := by decide +kernel
theorem dX4_told_138 : decode cX4_told 138 = .ok (.ireturn, 1) := by decide +kernel
theorem dX4_isWithin_0 : decode cX4_isWithin 0 = .ok (.iload_n 0, 1) := by decide +kernel
theorem dX4_isWithin_1 : decode cX4_isWithin 1 = .ok (.iload_n 1, 1) := by decide +kernel
theorem dX4_isWithin_2 : decode cX4_isWithin 2 = .ok (.if_icmp .lt 12, 3) := by decide +kernel
theorem dX4_isWithin_5 : decode cX4_isWithin 5 = .ok (.iload_n 0, 1) := by decide +kernel
theorem dX4_isWithin_6 : decode cX4_isWithin 6 = .ok (.iload_n 2, 1) := by decide +kernel
theorem dX4_isWithin_7 : decode cX4_isWithin 7 = .ok (.if_icmp .gt 7, 3) := by decide +kernel
theorem dX4_isWithin_10 : decode cX4_isWithin 10 = .ok (.iconst 1, 1) := by decide +kernel
theorem dX4_isWithin_11 : decode cX4_isWithin 11 = .ok (.goto 4, 3) := by decide +kernel
theorem dX4_isWithin_14 : decode cX4_isWithin 14 = .ok (.iconst 0, 1) := by decide +kernel
theorem dX4_isWithin_15 : decode cX4_isWithin 15 = .ok (.ireturn, 1) := by decide +kernel
set_option maxRecDepth 20000 in
theorem ggX4_isDay_X4_isWithin : GoodIn wsX4_isDay wsX4_isWithin := goodIn_r _ [4] (by decide +kernel) (by decide +kernel)
set_option maxRecDepth 20000 in
theorem gX4_isDay_X4_isWithin : GoodIn wsX4_isDay (va_wsS RX4 155 yX4_isWithin wsX4_isWithin) := goodIn_app (goodIn_of _ (by decide +kernel)) ggX4_isDay_X4_isWithin
theorem dX4_isDay_0 : decode cX4_isDay 0 = .ok (.iload_n 0, 1) := by decide +kernel
theorem dX4_isDay_1 : decode cX4_isDay 1 = .ok (.iconst 0, 1) := by decide +kernel
theorem dX4_isDay_2 : decode cX4_isDay 2 = .ok (.sipush 3000, 3) := by decide +kernel
theorem dX4_isDay_5 : decode cX4_isDay 5 = .ok (.invokestatic 155, 3) := by decide +kernel
theorem dX4_isDay_8 : decode cX4_isDay 8 = .ok (.ireturn, 1) := by decide +kernel
theorem dX4_oneIf_0 : decode cX4_oneIf 0 = .ok (.iload_n 0, 1) := by decide +kernel
theorem dX4_oneIf_1 : decode cX4_oneIf 1 = .ok (.ifCond .eq 7, 3) := by decide +kernel
theorem dX4_oneIf_4 : decode cX4_oneIf 4 = .ok (.iconst 1, 1) := by decide +kernel
theorem dX4_oneIf_5 : decode cX4_oneIf 5 = .ok (.goto 4, 3) := by decide +kernel
theorem dX4_oneIf_8 : decode cX4_oneIf 8 = .ok (.iconst 0, 1) := by decide +kernel
theorem dX4_oneIf_9 : decode cX4_oneIf 9 = .ok (.ireturn, 1) := by decide +kernel
