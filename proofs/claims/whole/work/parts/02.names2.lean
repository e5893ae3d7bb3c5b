set_option maxRecDepth 20000 in
theorem gX0_init_X0_isSide : GoodIn wsX0_init (va_wsS RX0 7 yX0_isSide wsX0_isSide) := goodIn_app (goodIn_of _ (by decide +kernel)) ggX0_init_X0_isSide
set_option maxRecDepth 20000 in
theorem ggX0_init_X0_isPrime : GoodIn wsX0_init wsX0_isPrime := goodIn_r _ [22] (by decide +kernel) (by decide +kernel)
set_option maxRecDepth 20000 in
theorem gX0_init_X0_isPrime : GoodIn wsX0_init (va_wsS RX0 13 yX0_isPrime wsX0_isPrime) := goodIn_app (goodIn_of _ (by decide +kernel)) ggX0_init_X0_isPrime
theorem dX0_init_0 : decode cX0_init 0 = .ok (.aload_n 0, 1) := by decide +kernel
theorem dX0_init_1 : decode cX0_init 1 = .ok (.invokespecial 1, 3) := by decide +kernel
theorem dX0_init_4 : decode cX0_init 4 = .ok (.iload_n 2, 1) := by decide +kernel
theorem dX0_init_5 : decode cX0_init 5 = .ok (.invokestatic 7, 3) := by decide +kernel
theorem dX0_init_8 : decode cX0_init 8 = .ok (.ifCond .eq 21, 3) := by decide +kernel
theorem dX0_init_11 : decode cX0_init 11 = .ok (.iload_n 3, 1) := by decide +kernel
theorem dX0_init_12 : decode cX0_init 12 = .ok (.invokestatic 7, 3) := by decide +kernel
theorem dX0_init_15 : decode cX0_init 15 = .ok (.ifCond .eq 14, 3) := by decide +kernel
theorem dX0_init_18 : decode cX0_init 18 = .ok (.iload_n 1, 1) := by decide +kernel
theorem dX0_init_19 : decode cX0_init 19 = .ok (.invokestatic 13, 3) := by decide +kernel
theorem dX0_init_22 : decode cX0_init 22 = .ok (.ifCond .eq 7, 3) := by decide +kernel
theorem dX0_init_25 : decode cX0_init 25 = .ok (.iconst 1, 1) := by decide +kernel
theorem dX0_init_26 : decode cX0_init 26 = .ok (.goto 4, 3) := by decide +kernel
theorem dX0_init_29 : decode cX0_init 29 = .ok (.iconst 0, 1) := by decide +kernel
theorem dX0_init_30 : decode cX0_init 30 = .ok (.istore 4, 2) := by decide +kernel
theorem dX0_init_32 : decode cX0_init 32 = .ok (.aload_n 0, 1) := by decide +kernel
theorem dX0_init_33 : decode cX0_init 33 = .ok (.iload_n 1, 1) := by decide +kernel
theorem dX0_init_34 : decode cX0_init 34 = .ok (.putfield 16, 3) := by decide +kernel
theorem dX0_init_37 : decode cX0_init 37 = .ok (.aload_n 0, 1) := by decide +kernel
theorem dX0_init_38 : decode cX0_init 38 = .ok (.iload 4, 2) := by decide +kernel
theorem dX0_init_40 : decode cX0_init 40 = .ok (.ifCond .eq 7, 3) := by decide +kernel
theorem dX0_init_43 : decode cX0_init 43 = .ok (.iload_n 2, 1) := by decide +kernel
theorem dX0_init_44 : decode cX0_init 44 = .ok (.goto 4, 3) := by decide +kernel
theorem dX0_init_47 : decode cX0_init 47 = .ok (.iconst 0, 1) := by decide +kernel
theorem dX0_init_48 : decode cX0_init 48 = .ok (.putfield 20, 3) := by decide +kernel
theorem dX0_init_51 : decode cX0_init 51 = .ok (.aload_n 0, 1) := by decide +kernel
theorem dX0_init_52 : decode cX0_init 52 = .ok (.iload 4, 2) := by decide +kernel
theorem dX0_init_54 : decode cX0_init 54 = .ok (.ifCond .eq 7, 3) := by decide +kernel
theorem dX0_init_57 : decode cX0_init 57 = .ok (.iload_n 3, 1) := by decide +kernel
theorem dX0_init_58 : decode cX0_init 58 = .ok (.goto 4, 3) := by decide +kernel
theorem dX0_init_61 : decode cX0_init 61 = .ok (.iconst 0, 1) := by decide +kernel
theorem dX0_init_62 : decode cX0_init 62 = .ok (.putfield 23, 3) := by decide +kernel
theorem dX0_init_65 : decode cX0_init 65 = .ok (.aload_n 0, 1) := by decide +kernel
theorem dX0_init_66 : decode cX0_init 66 = .ok (.aload_n 0, 1) := by decide +kernel
theorem dX0_init_67 : decode cX0_init 67 = .ok (.getfield 23, 3) := by decide +kernel
theorem dX0_init_70 : decode cX0_init 70 = .ok (.aload_n 0, 1) := by decide +kernel
theorem dX0_init_71 : decode cX0_init 71 = .ok (.getfield 20, 3) := by decide +kernel
theorem dX0_init_74 : decode cX0_init 74 = .ok (.iadd, 1) := by decide +kernel
theorem dX0_init_75 : decode cX0_init 75 = .ok (.putfield 26, 3) := by decide +kernel
theorem dX0_init_78 : decode cX0_init 78 = .ok (.aload_n 0, 1) := by decide +kernel
theorem dX0_init_79 : decode cX0_init 79 = .ok (.aload_n 0, 1) := by decide +kernel
theorem dX0_init_80 : decode cX0_init 80 = .ok (.getfield 20, 3) := by decide +kernel
theorem dX0_init_83 : decode cX0_init 83 = .ok (.aload_n 0, 1) := by decide +kernel
theorem dX0_init_84 : decode cX0_init 84 = .ok (.getfield 23, 3) := by decide +kernel
theorem dX0_init_87 : decode cX0_init 87 = .ok (.imul, 1) := by decide +kernel
theorem dX0_init_88 : decode cX0_init 88 = .ok (.newarray .int, 2) := by decide +kernel
theorem dX0_init_90 : decode cX0_init 90 = .ok (.putfield 29, 3) := by decide +kernel
theorem dX0_init_93 : decode cX0_init 93 = .ok (.aload_n 0, 1) := by decide +kernel
theorem dX0_init_94 : decode cX0_init 94 = .ok (.aload_n 0, 1) := by decide +kernel
theorem dX0_init_95 : decode cX0_init 95 = .ok (.getfield 20, 3) := by decide +kernel
theorem dX0_init_98 : decode cX0_init 98 = .ok (.newarray .int, 2) := by decide +kernel
theorem dX0_init_100 : decode cX0_init 100 = .ok (.putfield 33, 3) := by decide +kernel
theorem dX0_init_103 : decode cX0_init 103 = .ok (.aload_n 0, 1) := by decide +kernel
theorem dX0_init_104 : decode cX0_init 104 = .ok (.aload_n 0, 1) := by decide +kernel
theorem dX0_init_105 : decode cX0_init 105 = .ok (.getfield 20, 3) := by decide +kernel
theorem dX0_init_108 : decode cX0_init 108 = .ok (.aload_n 0, 1) := by decide +kernel
theorem dX0_init_109 : decode cX0_init 109 = .ok (.getfield 26, 3) := by decide +kernel
theorem dX0_init_112 : decode cX0_init 112 = .ok (.imul, 1) := by decide +kernel
theorem dX0_init_113 : decode cX0_init 113 = .ok (.newarray .int, 2) := by decide +kernel
theorem dX0_init_115 : decode cX0_init 115 = .ok (.putfield 36, 3) := by decide +kernel
theorem dX0_init_118 : decode cX0_init 118 = .ok (.aload_n 0, 1) := by decide +kernel
theorem dX0_init_119 : decode cX0_init 119 = .ok (.aload_n 0, 1) := by decide +kernel
theorem dX0_init_120 : decode cX0_init 120 = .ok (.getfield 23, 3) := by decide +kernel
theorem dX0_init_123 : decode cX0_init 123 = .ok (.newarray .int, 2) := by decide +kernel
theorem dX0_init_125 : decode cX0_init 125 = .ok (.putfield 39, 3) := by decide +kernel
theorem dX0_init_128 : decode cX0_init 128 = .ok (.aload_n 0, 1) := by decide +kernel
theorem dX0_init_129 : decode cX0_init 129 = .ok (.iconst 0, 1) := by decide +kernel
theorem dX0_init_130 : decode cX0_init 130 = .ok (.putfield 42, 3) := by decide +kernel
theorem dX0_init_133 : decode cX0_init 133 = .ok (.aload_n 0, 1) := by decide +kernel
theorem dX0_init_134 : decode cX0_init 134 = .ok (.iconst 0, 1) := by decide +kernel
theorem dX0_init_135 : decode cX0_init 135 = .ok (.putfield 46, 3) := by decide +kernel
theorem dX0_init_138 : decode cX0_init 138 = .ok (.aload_n 0, 1) := by decide +kernel
theorem dX0_init_139 : decode cX0_init 139 = .ok (.lconst 1, 1) := by decide +kernel
theorem dX0_init_140 : decode cX0_init 140 = .ok (.putfield 49, 3) := by decide +kernel
theorem dX0_init_143 : decode cX0_init 143 = .ok (.return_, 1) := by decide +kernel
set_option maxRecDepth 20000 in
theorem ggX0_set_X0_isRow : GoodIn wsX0_set wsX0_isRow := goodIn_r _ [9, 10, 15, 16, 17, 18, 19, 20, 21, 22, 23, 24, 25] (by decide +kernel) (by decide +kernel)
set_option maxRecDepth 20000 in
theorem gX0_set_X0_isRow : GoodIn wsX0_set (wsV RX0 53 RX0 yX0_isRow wsX0_isRow) := goodIn_app (goodIn_of _ (by decide +kernel)) ggX0_set_X0_isRow
set_option maxRecDepth 20000 in
theorem ggX0_set_X0_isColumn : GoodIn wsX0_set wsX0_isColumn := goodIn_r _ [14, 2, 15, 16, 17, 18, 19, 20, 21, 22, 23, 24, 25] (by decide +kernel) (by decide +kernel)
set_option maxRecDepth 20000 in
theorem gX0_set_X0_isColumn : GoodIn wsX0_set (wsV RX0 56 RX0 yX0_isColumn wsX0_isColumn) := goodIn_app (goodIn_of _ (by decide +kernel)) ggX0_set_X0_isColumn
theorem dX0_set_0 : decode cX0_set 0 = .ok (.aload_n 0, 1) := by decide +kernel
theorem dX0_set_1 : decode cX0_set 1 = .ok (.iload_n 1, 1) := by decide +kernel
theorem dX0_set_2 : decode cX0_set 2 = .ok (.invokevirtual 53, 3) := by decide +kernel
theorem dX0_set_5 : decode cX0_set 5 = .ok (.ifCond .eq 15, 3) := by decide +kernel
theorem dX0_set_8 : decode cX0_set 8 = .ok (.aload_n 0, 1) := by decide +kernel
theorem dX0_set_9 : decode cX0_set 9 = .ok (.iload_n 2, 1) := by decide +kernel
theorem dX0_set_10 : decode cX0_set 10 = .ok (.invokevirtual 56, 3) := by decide +kernel
theorem dX0_set_13 : decode cX0_set 13 = .ok (.ifCond .eq 7, 3) := by decide +kernel
theorem dX0_set_16 : decode cX0_set 16 = .ok (.iload_n 3, 1) := by decide +kernel
theorem dX0_set_17 : decode cX0_set 17 = .ok (.ifCond .ge 5, 3) := by decide +kernel
theorem dX0_set_20 : decode cX0_set 20 = .ok (.iconst 0, 1) := by decide +kernel
theorem dX0_set_21 : decode cX0_set 21 = .ok (.ireturn, 1) := by decide +kernel
theorem dX0_set_22 : decode cX0_set 22 = .ok (.aload_n 0, 1) := by decide +kernel
theorem dX0_set_23 : decode cX0_set 23 = .ok (.getfield 29, 3) := by decide +kernel
theorem dX0_set_26 : decode cX0_set 26 = .ok (.iload_n 1, 1) := by decide +kernel
theorem dX0_set_27 : decode cX0_set 27 = .ok (.aload_n 0, 1) := by decide +kernel
theorem dX0_set_28 : decode cX0_set 28 = .ok (.getfield 23, 3) := by decide +kernel
theorem dX0_set_31 : decode cX0_set 31 = .ok (.imul, 1) := by decide +kernel
theorem dX0_set_32 : decode cX0_set 32 = .ok (.iload_n 2, 1) := by decide +kernel
theorem dX0_set_33 : decode cX0_set 33 = .ok (.iadd, 1) := by decide +kernel
theorem dX0_set_34 : decode cX0_set 34 = .ok (.iload_n 3, 1) := by decide +kernel
theorem dX0_set_35 : decode cX0_set 35 = .ok (.aload_n 0, 1) := by decide +kernel
theorem dX0_set_36 : decode cX0_set 36 = .ok (.getfield 16, 3) := by decide +kernel
theorem dX0_set_39 : decode cX0_set 39 = .ok (.irem, 1) := by decide +kernel
theorem dX0_set_40 : decode cX0_set 40 = .ok (.iastore, 1) := by decide +kernel
theorem dX0_set_41 : decode cX0_set 41 = .ok (.aload_n 0, 1) := by decide +kernel
theorem dX0_set_42 : decode cX0_set 42 = .ok (.iconst 0, 1) := by decide +kernel
theorem dX0_set_43 : decode cX0_set 43 = .ok (.putfield 42, 3) := by decide +kernel
theorem dX0_set_46 : decode cX0_set 46 = .ok (.iconst 1, 1) := by decide +kernel
theorem dX0_set_47 : decode cX0_set 47 = .ok (.ireturn, 1) := by decide +kernel
set_option maxRecDepth 20000 in
theorem ggX0_get_X0_isRow : GoodIn wsX0_get wsX0_isRow := goodIn_r _ [7, 8, 13, 14, 15, 16, 17, 18, 19, 20, 21, 22, 23] (by decide +kernel) (by decide +kernel)
set_option maxRecDepth 20000 in
theorem gX0_get_X0_isRow : GoodIn wsX0_get (wsV RX0 53 RX0 yX0_isRow wsX0_isRow) := goodIn_app (goodIn_of _ (by decide +kernel)) ggX0_get_X0_isRow
set_option maxRecDepth 20000 in
theorem ggX0_get_X0_isColumn : GoodIn wsX0_get wsX0_isColumn := goodIn_r _ [12, 2, 13, 14, 15, 16, 17, 18, 19, 20, 21, 22, 23] (by decide +kernel) (by decide +kernel)
set_option maxRecDepth 20000 in
theorem gX0_get_X0_isColumn : GoodIn wsX0_get (wsV RX0 56 RX0 yX0_isColumn wsX0_isColumn) := goodIn_app (goodIn_of _ (by decide +kernel)) ggX0_get_X0_isColumn
theorem dX0_get_0 : decode cX0_get 0 = .ok (.aload_n 0, 1) := by decide +kernel
theorem dX0_get_1 : decode cX0_get 1 = .ok (.iload_n 1, 1) := by decide +kernel
theorem dX0_get_2 : decode cX0_get 2 = .ok (.invokevirtual 53, 3) := by decide +kernel
theorem dX0_get_5 : decode cX0_get 5 = .ok (.ifCond .eq 11, 3) := by decide +kernel
theorem dX0_get_8 : decode cX0_get 8 = .ok (.aload_n 0, 1) := by decide +kernel
theorem dX0_get_9 : decode cX0_get 9 = .ok (.iload_n 2, 1) := by decide +kernel
theorem dX0_get_10 : decode cX0_get 10 = .ok (.invokevirtual 56, 3) := by decide +kernel
theorem dX0_get_13 : decode cX0_get 13 = .ok (.ifCond .ne 5, 3) := by decide +kernel
theorem dX0_get_16 : decode cX0_get 16 = .ok (.iconst (-1), 1) := by decide +kernel
theorem dX0_get_17 : decode cX0_get 17 = .ok (.ireturn, 1) := by decide +kernel
theorem dX0_get_18 : decode cX0_get 18 = .ok (.aload_n 0, 1) := by decide +kernel
theorem dX0_get_19 : decode cX0_get 19 = .ok (.getfield 29, 3) := by decide +kernel
theorem dX0_get_22 : decode cX0_get 22 = .ok (.iload_n 1, 1) := by decide +kernel
theorem dX0_get_23 : decode cX0_get 23 = .ok (.aload_n 0, 1) := by decide +kernel
theorem dX0_get_24 : decode cX0_get 24 = .ok (.getfield 23, 3) := by decide +kernel
theorem dX0_get_27 : decode cX0_get 27 = .ok (.imul, 1) := by decide +kernel
theorem dX0_get_28 : decode cX0_get 28 = .ok (.iload_n 2, 1) := by decide +kernel
theorem dX0_get_29 : decode cX0_get 29 = .ok (.iadd, 1) := by decide +kernel
theorem dX0_get_30 : decode cX0_get 30 = .ok (.iaload, 1) := by decide +kernel
theorem dX0_get_31 : decode cX0_get 31 = .ok (.ireturn, 1) := by decide +kernel
set_option maxRecDepth 20000 in
theorem ggX0_setRhs_X0_isRow : GoodIn wsX0_setRhs wsX0_isRow := goodIn_r _ [7, 8, 9, 10, 11, 12, 13, 14, 15, 16, 17, 18, 19] (by decide +kernel) (by decide +kernel)
set_option maxRecDepth 20000 in
theorem gX0_setRhs_X0_isRow : GoodIn wsX0_setRhs (wsV RX0 53 RX0 yX0_isRow wsX0_isRow) := goodIn_app (goodIn_of _ (by decide +kernel)) ggX0_setRhs_X0_isRow
theorem dX0_setRhs_0 : decode cX0_setRhs 0 = .ok (.aload_n 0, 1) := by decide +kernel
theorem dX0_setRhs_1 : decode cX0_setRhs 1 = .ok (.iload_n 1, 1) := by decide +kernel
theorem dX0_setRhs_2 : decode cX0_setRhs 2 = .ok (.invokevirtual 53, 3) := by decide +kernel
theorem dX0_setRhs_5 : decode cX0_setRhs 5 = .ok (.ifCond .eq 7, 3) := by decide +kernel
theorem dX0_setRhs_8 : decode cX0_setRhs 8 = .ok (.iload_n 2, 1) := by decide +kernel
theorem dX0_setRhs_9 : decode cX0_setRhs 9 = .ok (.ifCond .ge 5, 3) := by decide +kernel
theorem dX0_setRhs_12 : decode cX0_setRhs 12 = .ok (.iconst 0, 1) := by decide +kernel
theorem dX0_setRhs_13 : decode cX0_setRhs 13 = .ok (.ireturn, 1) := by decide +kernel
theorem dX0_setRhs_14 : decode cX0_setRhs 14 = .ok (.aload_n 0, 1) := by decide +kernel
theorem dX0_setRhs_15 : decode cX0_setRhs 15 = .ok (.getfield 33, 3) := by decide +kernel
theorem dX0_setRhs_18 : decode cX0_setRhs 18 = .ok (.iload_n 1, 1) := by decide +kernel
theorem dX0_setRhs_19 : decode cX0_setRhs 19 = .ok (.iload_n 2, 1) := by decide +kernel
theorem dX0_setRhs_20 : decode cX0_setRhs 20 = .ok (.aload_n 0, 1) := by decide +kernel
theorem dX0_setRhs_21 : decode cX0_setRhs 21 = .ok (.getfield 16, 3) := by decide +kernel
theorem dX0_setRhs_24 : decode cX0_setRhs 24 = .ok (.irem, 1) := by decide +kernel
theorem dX0_setRhs_25 : decode cX0_setRhs 25 = .ok (.iastore, 1) := by decide +kernel
theorem dX0_setRhs_26 : decode cX0_setRhs 26 = .ok (.iconst 1, 1) := by decide +kernel
theorem dX0_setRhs_27 : decode cX0_setRhs 27 = .ok (.ireturn, 1) := by decide +kernel
set_option maxRecDepth 20000 in
theorem ggX0_reduce_X0_startWork : GoodIn wsX0_reduce wsX0_startWork := goodIn_r _ [9, 1, 2, 10, 11, 12, 13, 3, 14, 44, 45, 46, 47, 48, 49, 50, 51, 52, 53, 54] (by decide +kernel) (by decide +kernel)
set_option maxRecDepth 20000 in
theorem gX0_reduce_X0_startWork : GoodIn wsX0_reduce (wsV RX0 59 RX0 yX0_startWork wsX0_startWork) := goodIn_app (goodIn_of _ (by decide +kernel)) ggX0_reduce_X0_startWork
set_option maxRecDepth 20000 in
theorem ggX0_reduce_X0_reduceColumn : GoodIn wsX0_reduce wsX0_reduceColumn := goodIn_r _ [18, 3, 14, 10, 11, 19, 1, 13, 20, 21, 22, 8, 23, 24, 25, 26, 27, 28, 29, 30, 31, 32, 33, 34, 35, 36, 37, 38, 39, 40, 41, 42, 43, 44, 45, 46, 47, 48, 49, 50, 51, 52, 53, 54] (by decide +kernel) (by decide +kernel)
set_option maxRecDepth 20000 in
theorem gX0_reduce_X0_reduceColumn : GoodIn wsX0_reduce (wsV RX0 62 RX0 yX0_reduceColumn wsX0_reduceColumn) := goodIn_app (goodIn_of _ (by decide +kernel)) ggX0_reduce_X0_reduceColumn
theorem dX0_reduce_0 : decode cX0_reduce 0 = .ok (.aload_n 0, 1) := by decide +kernel
theorem dX0_reduce_1 : decode cX0_reduce 1 = .ok (.getfield 20, 3) := by decide +kernel
theorem dX0_reduce_4 : decode cX0_reduce 4 = .ok (.ifCond .ne 5, 3) := by decide +kernel
theorem dX0_reduce_7 : decode cX0_reduce 7 = .ok (.iconst (-1), 1) := by decide +kernel
theorem dX0_reduce_8 : decode cX0_reduce 8 = .ok (.ireturn, 1) := by decide +kernel
theorem dX0_reduce_9 : decode cX0_reduce 9 = .ok (.aload_n 0, 1) := by decide +kernel
theorem dX0_reduce_10 : decode cX0_reduce 10 = .ok (.invokevirtual 59, 3) := by decide +kernel
theorem dX0_reduce_13 : decode cX0_reduce 13 = .ok (.iconst 0, 1) := by decide +kernel
theorem dX0_reduce_14 : decode cX0_reduce 14 = .ok (.istore_n 1, 1) := by decide +kernel
theorem dX0_reduce_15 : decode cX0_reduce 15 = .ok (.iload_n 1, 1) := by decide +kernel
theorem dX0_reduce_16 : decode cX0_reduce 16 = .ok (.aload_n 0, 1) := by decide +kernel
theorem dX0_reduce_17 : decode cX0_reduce 17 = .ok (.getfield 23, 3) := by decide +kernel
theorem dX0_reduce_20 : decode cX0_reduce 20 = .ok (.if_icmp .ge 25, 3) := by decide +kernel
theorem dX0_reduce_23 : decode cX0_reduce 23 = .ok (.aload_n 0, 1) := by decide +kernel
theorem dX0_reduce_24 : decode cX0_reduce 24 = .ok (.getfield 46, 3) := by decide +kernel
theorem dX0_reduce_27 : decode cX0_reduce 27 = .ok (.aload_n 0, 1) := by decide +kernel
theorem dX0_reduce_28 : decode cX0_reduce 28 = .ok (.getfield 20, 3) := by decide +kernel
theorem dX0_reduce_31 : decode cX0_reduce 31 = .ok (.if_icmp .ge 14, 3) := by decide +kernel
theorem dX0_reduce_34 : decode cX0_reduce 34 = .ok (.aload_n 0, 1) := by decide +kernel
theorem dX0_reduce_35 : decode cX0_reduce 35 = .ok (.iload_n 1, 1) := by decide +kernel
theorem dX0_reduce_36 : decode cX0_reduce 36 = .ok (.invokevirtual 62, 3) := by decide +kernel
theorem dX0_reduce_39 : decode cX0_reduce 39 = .ok (.iinc 1 1, 3) := by decide +kernel
theorem dX0_reduce_42 : decode cX0_reduce 42 = .ok (.goto (-27), 3) := by decide +kernel
theorem dX0_reduce_45 : decode cX0_reduce 45 = .ok (.aload_n 0, 1) := by decide +kernel
theorem dX0_reduce_46 : decode cX0_reduce 46 = .ok (.iconst 1, 1) := by decide +kernel
theorem dX0_reduce_47 : decode cX0_reduce 47 = .ok (.putfield 42, 3) := by decide +kernel
theorem dX0_reduce_50 : decode cX0_reduce 50 = .ok (.aload_n 0, 1) := by decide +kernel
theorem dX0_reduce_51 : decode cX0_reduce 51 = .ok (.getfield 46, 3) := by decide +kernel
theorem dX0_reduce_54 : decode cX0_reduce 54 = .ok (.ireturn, 1) := by decide +kernel
theorem dX0_rank_0 : decode cX0_rank 0 = .ok (.aload_n 0, 1) := by decide +kernel
theorem dX0_rank_1 : decode cX0_rank 1 = .ok (.getfield 42, 3) := by decide +kernel
theorem dX0_rank_4 : decode cX0_rank 4 = .ok (.ifCond .eq 10, 3) := by decide +kernel
theorem dX0_rank_7 : decode cX0_rank 7 = .ok (.aload_n 0, 1) := by decide +kernel
theorem dX0_rank_8 : decode cX0_rank 8 = .ok (.getfield 46, 3) := by decide +kernel
theorem dX0_rank_11 : decode cX0_rank 11 = .ok (.goto 4, 3) := by decide +kernel
theorem dX0_rank_14 : decode cX0_rank 14 = .ok (.iconst (-1), 1) := by decide +kernel
theorem dX0_rank_15 : decode cX0_rank 15 = .ok (.ireturn, 1) := by decide +kernel
set_option maxRecDepth 20000 in
theorem ggX0_rrefAt_X0_isRow : GoodIn wsX0_rrefAt wsX0_isRow := goodIn_r _ [8, 9, 15, 16, 17, 18, 19, 20, 21, 22, 23, 24, 25] (by decide +kernel) (by decide +kernel)
set_option maxRecDepth 20000 in
theorem gX0_rrefAt_X0_isRow : GoodIn wsX0_rrefAt (wsV RX0 53 RX0 yX0_isRow wsX0_isRow) := goodIn_app (goodIn_of _ (by decide +kernel)) ggX0_rrefAt_X0_isRow
set_option maxRecDepth 20000 in
theorem ggX0_rrefAt_X0_isColumn : GoodIn wsX0_rrefAt wsX0_isColumn := goodIn_r _ [13, 14, 15, 16, 17, 18, 19, 20, 21, 22, 23, 24, 25] (by decide +kernel) (by decide +kernel)
set_option maxRecDepth 20000 in
theorem gX0_rrefAt_X0_isColumn : GoodIn wsX0_rrefAt (wsV RX0 56 RX0 yX0_isColumn wsX0_isColumn) := goodIn_app (goodIn_of _ (by decide +kernel)) ggX0_rrefAt_X0_isColumn
theorem dX0_rrefAt_0 : decode cX0_rrefAt 0 = .ok (.aload_n 0, 1) := by decide +kernel
theorem dX0_rrefAt_1 : decode cX0_rrefAt 1 = .ok (.getfield 42, 3) := by decide +kernel
theorem dX0_rrefAt_4 : decode cX0_rrefAt 4 = .ok (.ifCond .eq 19, 3) := by decide +kernel
theorem dX0_rrefAt_7 : decode cX0_rrefAt 7 = .ok (.aload_n 0, 1) := by decide +kernel
theorem dX0_rrefAt_8 : decode cX0_rrefAt 8 = .ok (.iload_n 1, 1) := by decide +kernel
theorem dX0_rrefAt_9 : decode cX0_rrefAt 9 = .ok (.invokevirtual 53, 3) := by decide +kernel
theorem dX0_rrefAt_12 : decode cX0_rrefAt 12 = .ok (.ifCond .eq 11, 3) := by decide +kernel
theorem dX0_rrefAt_15 : decode cX0_rrefAt 15 = .ok (.aload_n 0, 1) := by decide +kernel
theorem dX0_rrefAt_16 : decode cX0_rrefAt 16 = .ok (.iload_n 2, 1) := by decide +kernel
theorem dX0_rrefAt_17 : decode cX0_rrefAt 17 = .ok (.invokevirtual 56, 3) := by decide +kernel
theorem dX0_rrefAt_20 : decode cX0_rrefAt 20 = .ok (.ifCond .ne 5, 3) := by decide +kernel
theorem dX0_rrefAt_23 : decode cX0_rrefAt 23 = .ok (.iconst (-1), 1) := by decide +kernel
theorem dX0_rrefAt_24 : decode cX0_rrefAt 24 = .ok (.ireturn, 1) := by decide +kernel
theorem dX0_rrefAt_25 : decode cX0_rrefAt 25 = .ok (.aload_n 0, 1) := by decide +kernel
theorem dX0_rrefAt_26 : decode cX0_rrefAt 26 = .ok (.getfield 36, 3) := by decide +kernel
theorem dX0_rrefAt_29 : decode cX0_rrefAt 29 = .ok (.iload_n 1, 1) := by decide +kernel
theorem dX0_rrefAt_30 : decode cX0_rrefAt 30 = .ok (.aload_n 0, 1) := by decide +kernel
theorem dX0_rrefAt_31 : decode cX0_rrefAt 31 = .ok (.getfield 26, 3) := by decide +kernel
theorem dX0_rrefAt_34 : decode cX0_rrefAt 34 = .ok (.imul, 1) := by decide +kernel
theorem dX0_rrefAt_35 : decode cX0_rrefAt 35 = .ok (.iload_n 2, 1) := by decide +kernel
theorem dX0_rrefAt_36 : decode cX0_rrefAt 36 = .ok (.iadd, 1) := by decide +kernel
theorem dX0_rrefAt_37 : decode cX0_rrefAt 37 = .ok (.iaload, 1) := by decide +kernel
theorem dX0_rrefAt_38 : decode cX0_rrefAt 38 = .ok (.ireturn, 1) := by decide +kernel
set_option maxRecDepth 20000 in
theorem ggX0_transformAt_X0_isRow : GoodIn wsX0_transformAt wsX0_isRow := goodIn_r _ [6, 7, 15, 16, 17, 18, 19, 20, 21, 22, 23, 24, 25] (by decide +kernel) (by decide +kernel)
set_option maxRecDepth 20000 in
theorem gX0_transformAt_X0_isRow : GoodIn wsX0_transformAt (wsV RX0 53 RX0 yX0_isRow wsX0_isRow) := goodIn_app (goodIn_of _ (by decide +kernel)) ggX0_transformAt_X0_isRow
set_option maxRecDepth 20000 in
theorem ggX0_transformAt_X0_transformNumber : GoodIn wsX0_transformAt wsX0_transformNumber := goodIn_r _ [11, 12, 13, 14, 15, 16, 17, 18, 19, 20, 21, 22, 23, 24, 25] (by decide +kernel) (by decide +kernel)
set_option maxRecDepth 20000 in
theorem gX0_transformAt_X0_transformNumber : GoodIn wsX0_transformAt (wsV RX0 66 RX0 yX0_transformNumber wsX0_transformNumber) := goodIn_app (goodIn_of _ (by decide +kernel)) ggX0_transformAt_X0_transformNumber
theorem dX0_transformAt_0 : decode cX0_transformAt 0 = .ok (.aload_n 0, 1) := by decide +kernel
theorem dX0_transformAt_1 : decode cX0_transformAt 1 = .ok (.getfield 42, 3) := by decide +kernel
theorem dX0_transformAt_4 : decode cX0_transformAt 4 = .ok (.ifCond .eq 19, 3) := by decide +kernel
theorem dX0_transformAt_7 : decode cX0_transformAt 7 = .ok (.aload_n 0, 1) := by decide +kernel
theorem dX0_transformAt_8 : decode cX0_transformAt 8 = .ok (.iload_n 1, 1) := by decide +kernel
theorem dX0_transformAt_9 : decode cX0_transformAt 9 = .ok (.invokevirtual 53, 3) := by decide +kernel
theorem dX0_transformAt_12 : decode cX0_transformAt 12 = .ok (.ifCond .eq 11, 3) := by decide +kernel
theorem dX0_transformAt_15 : decode cX0_transformAt 15 = .ok (.aload_n 0, 1) := by decide +kernel
theorem dX0_transformAt_16 : decode cX0_transformAt 16 = .ok (.iload_n 2, 1) := by decide +kernel
theorem dX0_transformAt_17 : decode cX0_transformAt 17 = .ok (.invokevirtual 53, 3) := by decide +kernel
theorem dX0_transformAt_20 : decode cX0_transformAt 20 = .ok (.ifCond .ne 5, 3) := by decide +kernel
theorem dX0_transformAt_23 : decode cX0_transformAt 23 = .ok (.iconst (-1), 1) := by decide +kernel
theorem dX0_transformAt_24 : decode cX0_transformAt 24 = .ok (.ireturn, 1) := by decide +kernel
theorem dX0_transformAt_25 : decode cX0_transformAt 25 = .ok (.aload_n 0, 1) := by decide +kernel
theorem dX0_transformAt_26 : decode cX0_transformAt 26 = .ok (.iload_n 1, 1) := by decide +kernel
theorem dX0_transformAt_27 : decode cX0_transformAt 27 = .ok (.iload_n 2, 1) := by decide +kernel
theorem dX0_transformAt_28 : decode cX0_transformAt 28 = .ok (.invokevirtual 66, 3) := by decide +kernel
theorem dX0_transformAt_31 : decode cX0_transformAt 31 = .ok (.ireturn, 1) := by decide +kernel
theorem dX0_det_0 : decode cX0_det 0 = .ok (.aload_n 0, 1) := by decide +kernel
theorem dX0_det_1 : decode cX0_det 1 = .ok (.getfield 42, 3) := by decide +kernel
theorem dX0_det_4 : decode cX0_det 4 = .ok (.ifCond .eq 14, 3) := by decide +kernel
theorem dX0_det_7 : decode cX0_det 7 = .ok (.aload_n 0, 1) := by decide +kernel
theorem dX0_det_8 : decode cX0_det 8 = .ok (.getfield 20, 3) := by decide +kernel
theorem dX0_det_11 : decode cX0_det 11 = .ok (.aload_n 0, 1) := by decide +kernel
theorem dX0_det_12 : decode cX0_det 12 = .ok (.getfield 23, 3) := by decide +kernel
theorem dX0_det_15 : decode cX0_det 15 = .ok (.if_icmp .eq 5, 3) := by decide +kernel
theorem dX0_det_18 : decode cX0_det 18 = .ok (.iconst (-1), 1) := by decide +kernel
theorem dX0_det_19 : decode cX0_det 19 = .ok (.ireturn, 1) := by decide +kernel
theorem dX0_det_20 : decode cX0_det 20 = .ok (.aload_n 0, 1) := by decide +kernel
theorem dX0_det_21 : decode cX0_det 21 = .ok (.getfield 46, 3) := by decide +kernel
theorem dX0_det_24 : decode cX0_det 24 = .ok (.aload_n 0, 1) := by decide +kernel
theorem dX0_det_25 : decode cX0_det 25 = .ok (.getfield 23, 3) := by decide +kernel
theorem dX0_det_28 : decode cX0_det 28 = .ok (.if_icmp .ge 7, 3) := by decide +kernel
theorem dX0_det_31 : decode cX0_det 31 = .ok (.iconst 0, 1) := by decide +kernel
theorem dX0_det_32 : decode cX0_det 32 = .ok (.goto 8, 3) := by decide +kernel
theorem dX0_det_35 : decode cX0_det 35 = .ok (.aload_n 0, 1) := by decide +kernel
theorem dX0_det_36 : decode cX0_det 36 = .ok (.getfield 49, 3) := by decide +kernel
theorem dX0_det_39 : decode cX0_det 39 = .ok (.l2i, 1) := by decide +kernel
theorem dX0_det_40 : decode cX0_det 40 = .ok (.ireturn, 1) := by decide +kernel
set_option maxRecDepth 20000 in
theorem ggX0_inverseAt_X0_hasInverse : GoodIn wsX0_inverseAt wsX0_hasInverse := goodIn_r _ [5, 6, 7, 8, 9, 20, 21, 22, 23, 24, 25, 26, 27, 28, 29, 30] (by decide +kernel) (by decide +kernel)
set_option maxRecDepth 20000 in
theorem gX0_inverseAt_X0_hasInverse : GoodIn wsX0_inverseAt (wsV RX0 70 RX0 yX0_hasInverse wsX0_hasInverse) := goodIn_app (goodIn_of _ (by decide +kernel)) ggX0_inverseAt_X0_hasInverse
set_option maxRecDepth 20000 in
theorem ggX0_inverseAt_X0_isRow : GoodIn wsX0_inverseAt wsX0_isRow := goodIn_r _ [13, 7, 20, 21, 22, 23, 24, 25, 26, 27, 28, 29, 30] (by decide +kernel) (by decide +kernel)
set_option maxRecDepth 20000 in
theorem gX0_inverseAt_X0_isRow : GoodIn wsX0_inverseAt (wsV RX0 53 RX0 yX0_isRow wsX0_isRow) := goodIn_app (goodIn_of _ (by decide +kernel)) ggX0_inverseAt_X0_isRow
set_option maxRecDepth 20000 in
theorem ggX0_inverseAt_X0_transformNumber : GoodIn wsX0_inverseAt wsX0_transformNumber := goodIn_r _ [17, 18, 19, 8, 20, 21, 22, 23, 24, 25, 26, 27, 28, 29, 30] (by decide +kernel) (by decide +kernel)
set_option maxRecDepth 20000 in
theorem gX0_inverseAt_X0_transformNumber : GoodIn wsX0_inverseAt (wsV RX0 66 RX0 yX0_transformNumber wsX0_transformNumber) := goodIn_app (goodIn_of _ (by decide +kernel)) ggX0_inverseAt_X0_transformNumber
theorem dX0_inverseAt_0 : decode cX0_inverseAt 0 = .ok (.aload_n 0, 1) := by decide +kernel
theorem dX0_inverseAt_1 : decode cX0_inverseAt 1 = .ok (.invokevirtual 70, 3) := by decide +kernel
theorem dX0_inverseAt_4 : decode cX0_inverseAt 4 = .ok (.ifCond .eq 19, 3) := by decide +kernel
theorem dX0_inverseAt_7 : decode cX0_inverseAt 7 = .ok (.aload_n 0, 1) := by decide +kernel
theorem dX0_inverseAt_8 : decode cX0_inverseAt 8 = .ok (.iload_n 1, 1) := by decide +kernel
theorem dX0_inverseAt_9 : decode cX0_inverseAt 9 = .ok (.invokevirtual 53, 3) := by decide +kernel
theorem dX0_inverseAt_12 : decode cX0_inverseAt 12 = .ok (.ifCond .eq 11, 3) := by decide +kernel
theorem dX0_inverseAt_15 : decode cX0_inverseAt 15 = .ok (.aload_n 0, 1) := by decide +kernel
theorem dX0_inverseAt_16 : decode cX0_inverseAt 16 = .ok (.iload_n 2, 1) := by decide +kernel
theorem dX0_inverseAt_17 : decode cX0_inverseAt 17 = .ok (.invokevirtual 53, 3) := by decide +kernel
theorem dX0_inverseAt_20 : decode cX0_inverseAt 20 = .ok (.ifCond .ne 5, 3) := by decide +kernel
theorem dX0_inverseAt_23 : decode cX0_inverseAt 23 = .ok (.iconst (-1), 1) := by decide +kernel
theorem dX0_inverseAt_24 : decode cX0_inverseAt 24 = .ok (.ireturn, 1) := by decide +kernel
theorem dX0_inverseAt_25 : decode cX0_inverseAt 25 = .ok (.aload_n 0, 1) := by decide +kernel
theorem dX0_inverseAt_26 : decode cX0_inverseAt 26 = .ok (.iload_n 1, 1) := by decide +kernel
theorem dX0_inverseAt_27 : decode cX0_inverseAt 27 = .ok (.iload_n 2, 1) := by decide +kernel
theorem dX0_inverseAt_28 : decode cX0_inverseAt 28 = .ok (.invokevirtual 66, 3) := by decide +kernel
theorem dX0_inverseAt_31 : decode cX0_inverseAt 31 = .ok (.ireturn, 1) := by decide +kernel
set_option maxRecDepth 20000 in
theorem ggX0_solvable_X0_changedRightSide : GoodIn wsX0_solvable wsX0_changedRightSide := goodIn_r _ [8, 3, 9, 10, 11, 12, 13, 7, 14, 15, 16, 17, 18, 19, 20, 21, 22, 23, 24, 25, 26, 27, 28] (by decide +kernel) (by decide +kernel)
set_option maxRecDepth 20000 in
theorem gX0_solvable_X0_changedRightSide : GoodIn wsX0_solvable (wsV RX0 74 RX0 yX0_changedRightSide wsX0_changedRightSide) := goodIn_app (goodIn_of _ (by decide +kernel)) ggX0_solvable_X0_changedRightSide
theorem dX0_solvable_0 : decode cX0_solvable 0 = .ok (.aload_n 0, 1) := by decide +kernel
theorem dX0_solvable_1 : decode cX0_solvable 1 = .ok (.getfield 42, 3) := by decide +kernel
theorem dX0_solvable_4 : decode cX0_solvable 4 = .ok (.ifCond .ne 5, 3) := by decide +kernel
theorem dX0_solvable_7 : decode cX0_solvable 7 = .ok (.iconst 0, 1) := by decide +kernel
theorem dX0_solvable_8 : decode cX0_solvable 8 = .ok (.ireturn, 1) := by decide +kernel
theorem dX0_solvable_9 : decode cX0_solvable 9 = .ok (.aload_n 0, 1) := by decide +kernel
theorem dX0_solvable_10 : decode cX0_solvable 10 = .ok (.getfield 46, 3) := by decide +kernel
theorem dX0_solvable_13 : decode cX0_solvable 13 = .ok (.istore_n 1, 1) := by decide +kernel
theorem dX0_solvable_14 : decode cX0_solvable 14 = .ok (.iload_n 1, 1) := by decide +kernel
theorem dX0_solvable_15 : decode cX0_solvable 15 = .ok (.aload_n 0, 1) := by decide +kernel
theorem dX0_solvable_16 : decode cX0_solvable 16 = .ok (.getfield 20, 3) := by decide +kernel
theorem dX0_solvable_19 : decode cX0_solvable 19 = .ok (.if_icmp .ge 19, 3) := by decide +kernel
theorem dX0_solvable_22 : decode cX0_solvable 22 = .ok (.aload_n 0, 1) := by decide +kernel
theorem dX0_solvable_23 : decode cX0_solvable 23 = .ok (.iload_n 1, 1) := by decide +kernel
theorem dX0_solvable_24 : decode cX0_solvable 24 = .ok (.invokevirtual 74, 3) := by decide +kernel
theorem dX0_solvable_27 : decode cX0_solvable 27 = .ok (.ifCond .eq 5, 3) := by decide +kernel
theorem dX0_solvable_30 : decode cX0_solvable 30 = .ok (.iconst 0, 1) := by decide +kernel
theorem dX0_solvable_31 : decode cX0_solvable 31 = .ok (.ireturn, 1) := by decide +kernel
theorem dX0_solvable_32 : decode cX0_solvable 32 = .ok (.iinc 1 1, 3) := by decide +kernel
theorem dX0_solvable_35 : decode cX0_solvable 35 = .ok (.goto (-21), 3) := by decide +kernel
theorem dX0_solvable_38 : decode cX0_solvable 38 = .ok (.iconst 1, 1) := by decide +kernel
theorem dX0_solvable_39 : decode cX0_solvable 39 = .ok (.ireturn, 1) := by decide +kernel
set_option maxRecDepth 20000 in
theorem ggX0_solution_X0_isColumn : GoodIn wsX0_solution wsX0_isColumn := goodIn_r _ [6, 7, 27, 28, 29, 30, 31, 32, 33, 34, 35, 36, 37] (by decide +kernel) (by decide +kernel)
set_option maxRecDepth 20000 in
theorem gX0_solution_X0_isColumn : GoodIn wsX0_solution (wsV RX0 56 RX0 yX0_isColumn wsX0_isColumn) := goodIn_app (goodIn_of _ (by decide +kernel)) ggX0_solution_X0_isColumn
set_option maxRecDepth 20000 in
theorem ggX0_solution_X0_solvable : GoodIn wsX0_solution wsX0_solvable := goodIn_r _ [11, 12, 13, 14, 15, 16, 17, 5, 18, 19, 20, 21, 22, 23, 24, 25, 26, 7, 27, 28, 29, 30, 31, 32, 33, 34, 35, 36, 37] (by decide +kernel) (by decide +kernel)
set_option maxRecDepth 20000 in
theorem gX0_solution_X0_solvable : GoodIn wsX0_solution (wsV RX0 78 RX0 yX0_solvable wsX0_solvable) := goodIn_app (goodIn_of _ (by decide +kernel)) ggX0_solution_X0_solvable
set_option maxRecDepth 20000 in
theorem ggX0_solution_X0_changedRightSide : GoodIn wsX0_solution wsX0_changedRightSide := goodIn_r _ [18, 14, 19, 20, 21, 22, 23, 5, 24, 25, 26, 7, 27, 28, 29, 30, 31, 32, 33, 34, 35, 36, 37] (by decide +kernel) (by decide +kernel)
set_option maxRecDepth 20000 in
theorem gX0_solution_X0_changedRightSide : GoodIn wsX0_solution (wsV RX0 74 RX0 yX0_changedRightSide wsX0_changedRightSide) := goodIn_app (goodIn_of _ (by decide +kernel)) ggX0_solution_X0_changedRightSide
theorem dX0_solution_0 : decode cX0_solution 0 = .ok (.aload_n 0, 1) := by decide +kernel
theorem dX0_solution_1 : decode cX0_solution 1 = .ok (.iload_n 1, 1) := by decide +kernel
theorem dX0_solution_2 : decode cX0_solution 2 = .ok (.invokevirtual 56, 3) := by decide +kernel
theorem dX0_solution_5 : decode cX0_solution 5 = .ok (.ifCond .eq 10, 3) := by decide +kernel
theorem dX0_solution_8 : decode cX0_solution 8 = .ok (.aload_n 0, 1) := by decide +kernel
theorem dX0_solution_9 : decode cX0_solution 9 = .ok (.invokevirtual 78, 3) := by decide +kernel
theorem dX0_solution_12 : decode cX0_solution 12 = .ok (.ifCond .ne 5, 3) := by decide +kernel
theorem dX0_solution_15 : decode cX0_solution 15 = .ok (.iconst (-1), 1) := by decide +kernel
theorem dX0_solution_16 : decode cX0_solution 16 = .ok (.ireturn, 1) := by decide +kernel
theorem dX0_solution_17 : decode cX0_solution 17 = .ok (.aload_n 0, 1) := by decide +kernel
theorem dX0_solution_18 : decode cX0_solution 18 = .ok (.getfield 39, 3) := by decide +kernel
theorem dX0_solution_21 : decode cX0_solution 21 = .ok (.iload_n 1, 1) := by decide +kernel
theorem dX0_solution_22 : decode cX0_solution 22 = .ok (.iaload, 1) := by decide +kernel
theorem dX0_solution_23 : decode cX0_solution 23 = .ok (.istore_n 2, 1) := by decide +kernel
theorem dX0_solution_24 : decode cX0_solution 24 = .ok (.iload_n 2, 1) := by decide +kernel
theorem dX0_solution_25 : decode cX0_solution 25 = .ok (.iconst (-1), 1) := by decide +kernel
theorem dX0_solution_26 : decode cX0_solution 26 = .ok (.if_icmp .ne 7, 3) := by decide +kernel
theorem dX0_solution_29 : decode cX0_solution 29 = .ok (.iconst 0, 1) := by decide +kernel
theorem dX0_solution_30 : decode cX0_solution 30 = .ok (.goto 8, 3) := by decide +kernel
theorem dX0_solution_33 : decode cX0_solution 33 = .ok (.aload_n 0, 1) := by decide +kernel
theorem dX0_solution_34 : decode cX0_solution 34 = .ok (.iload_n 2, 1) := by decide +kernel
theorem dX0_solution_35 : decode cX0_solution 35 = .ok (.invokevirtual 74, 3) := by decide +kernel
theorem dX0_solution_38 : decode cX0_solution 38 = .ok (.ireturn, 1) := by decide +kernel
theorem dX0_kernelDim_0 : decode cX0_kernelDim 0 = .ok (.aload_n 0, 1) := by decide +kernel
theorem dX0_kernelDim_1 : decode cX0_kernelDim 1 = .ok (.getfield 42, 3) := by decide +kernel
theorem dX0_kernelDim_4 : decode cX0_kernelDim 4 = .ok (.ifCond .eq 15, 3) := by decide +kernel
theorem dX0_kernelDim_7 : decode cX0_kernelDim 7 = .ok (.aload_n 0, 1) := by decide +kernel
theorem dX0_kernelDim_8 : decode cX0_kernelDim 8 = .ok (.getfield 23, 3) := by decide +kernel
theorem dX0_kernelDim_11 : decode cX0_kernelDim 11 = .ok (.aload_n 0, 1) := by decide +kernel
theorem dX0_kernelDim_12 : decode cX0_kernelDim 12 = .ok (.getfield 46, 3) := by decide +kernel
theorem dX0_kernelDim_15 : decode cX0_kernelDim 15 = .ok (.isub, 1) := by decide +kernel
theorem dX0_kernelDim_16 : decode cX0_kernelDim 16 = .ok (.goto 4, 3) := by decide +kernel
theorem dX0_kernelDim_19 : decode cX0_kernelDim 19 = .ok (.iconst (-1), 1) := by decide +kernel
theorem dX0_kernelDim_20 : decode cX0_kernelDim 20 = .ok (.ireturn, 1) := by decide +kernel
set_option maxRecDepth 20000 in
theorem ggX0_kernelAt_X0_isColumn : GoodIn wsX0_kernelAt wsX0_isColumn := goodIn_r _ [9, 10, 20, 21, 22, 23, 24, 25, 26, 27, 28, 29, 30] (by decide +kernel) (by decide +kernel)
set_option maxRecDepth 20000 in
theorem gX0_kernelAt_X0_isColumn : GoodIn wsX0_kernelAt (wsV RX0 56 RX0 yX0_isColumn wsX0_isColumn) := goodIn_app (goodIn_of _ (by decide +kernel)) ggX0_kernelAt_X0_isColumn
set_option maxRecDepth 20000 in
theorem ggX0_kernelAt_X0_freeColumn : GoodIn wsX0_kernelAt wsX0_freeColumn := goodIn_r _ [14, 10, 2, 20, 21, 22, 23, 24, 25, 26, 27, 28, 29, 30] (by decide +kernel) (by decide +kernel)
set_option maxRecDepth 20000 in
theorem gX0_kernelAt_X0_freeColumn : GoodIn wsX0_kernelAt (wsV RX0 81 RX0 yX0_freeColumn wsX0_freeColumn) := goodIn_app (goodIn_of _ (by decide +kernel)) ggX0_kernelAt_X0_freeColumn
set_option maxRecDepth 20000 in
theorem ggX0_kernelAt_X0_negative : GoodIn wsX0_kernelAt wsX0_negative := goodIn_r _ [18, 19, 20, 21, 22, 23, 24, 25, 26, 27, 28, 29, 30] (by decide +kernel) (by decide +kernel)
set_option maxRecDepth 20000 in
theorem gX0_kernelAt_X0_negative : GoodIn wsX0_kernelAt (wsV RX0 84 RX0 yX0_negative wsX0_negative) := goodIn_app (goodIn_of _ (by decide +kernel)) ggX0_kernelAt_X0_negative
theorem dX0_kernelAt_0 : decode cX0_kernelAt 0 = .ok (.aload_n 0, 1) := by decide +kernel
theorem dX0_kernelAt_1 : decode cX0_kernelAt 1 = .ok (.getfield 42, 3) := by decide +kernel
theorem dX0_kernelAt_4 : decode cX0_kernelAt 4 = .ok (.ifCond .eq 11, 3) := by decide +kernel
theorem dX0_kernelAt_7 : decode cX0_kernelAt 7 = .ok (.aload_n 0, 1) := by decide +kernel
theorem dX0_kernelAt_8 : decode cX0_kernelAt 8 = .ok (.iload_n 2, 1) := by decide +kernel
theorem dX0_kernelAt_9 : decode cX0_kernelAt 9 = .ok (.invokevirtual 56, 3) := by decide +kernel
theorem dX0_kernelAt_12 : decode cX0_kernelAt 12 = .ok (.ifCond .ne 5, 3) := by decide +kernel
theorem dX0_kernelAt_15 : decode cX0_kernelAt 15 = .ok (.iconst (-1), 1) := by decide +kernel
theorem dX0_kernelAt_16 : decode cX0_kernelAt 16 = .ok (.ireturn, 1) := by decide +kernel
theorem dX0_kernelAt_17 : decode cX0_kernelAt 17 = .ok (.aload_n 0, 1) := by decide +kernel
theorem dX0_kernelAt_18 : decode cX0_kernelAt 18 = .ok (.iload_n 1, 1) := by decide +kernel
theorem dX0_kernelAt_19 : decode cX0_kernelAt 19 = .ok (.invokevirtual 81, 3) := by decide +kernel
theorem dX0_kernelAt_22 : decode cX0_kernelAt 22 = .ok (.istore_n 3, 1) := by decide +kernel
theorem dX0_kernelAt_23 : decode cX0_kernelAt 23 = .ok (.iload_n 3, 1) := by decide +kernel
theorem dX0_kernelAt_24 : decode cX0_kernelAt 24 = .ok (.iconst (-1), 1) := by decide +kernel
theorem dX0_kernelAt_25 : decode cX0_kernelAt 25 = .ok (.if_icmp .ne 5, 3) := by decide +kernel
theorem dX0_kernelAt_28 : decode cX0_kernelAt 28 = .ok (.iconst (-1), 1) := by decide +kernel
theorem dX0_kernelAt_29 : decode cX0_kernelAt 29 = .ok (.ireturn, 1) := by decide +kernel
theorem dX0_kernelAt_30 : decode cX0_kernelAt 30 = .ok (.aload_n 0, 1) := by decide +kernel
theorem dX0_kernelAt_31 : decode cX0_kernelAt 31 = .ok (.getfield 39, 3) := by decide +kernel
theorem dX0_kernelAt_34 : decode cX0_kernelAt 34 = .ok (.iload_n 2, 1) := by decide +kernel
theorem dX0_kernelAt_35 : decode cX0_kernelAt 35 = .ok (.iaload, 1) := by decide +kernel
theorem dX0_kernelAt_36 : decode cX0_kernelAt 36 = .ok (.istore 4, 2) := by decide +kernel
theorem dX0_kernelAt_38 : decode cX0_kernelAt 38 = .ok (.iload 4, 2) := by decide +kernel
theorem dX0_kernelAt_40 : decode cX0_kernelAt 40 = .ok (.iconst (-1), 1) := by decide +kernel
theorem dX0_kernelAt_41 : decode cX0_kernelAt 41 = .ok (.if_icmp .ne 14, 3) := by decide +kernel
theorem dX0_kernelAt_44 : decode cX0_kernelAt 44 = .ok (.iload_n 2, 1) := by decide +kernel
theorem dX0_kernelAt_45 : decode cX0_kernelAt 45 = .ok (.iload_n 3, 1) := by decide +kernel
theorem dX0_kernelAt_46 : decode cX0_kernelAt 46 = .ok (.if_icmp .ne 7, 3) := by decide +kernel
theorem dX0_kernelAt_49 : decode cX0_kernelAt 49 = .ok (.iconst 1, 1) := by decide +kernel
theorem dX0_kernelAt_50 : decode cX0_kernelAt 50 = .ok (.goto 4, 3) := by decide +kernel
theorem dX0_kernelAt_53 : decode cX0_kernelAt 53 = .ok (.iconst 0, 1) := by decide +kernel
theorem dX0_kernelAt_54 : decode cX0_kernelAt 54 = .ok (.ireturn, 1) := by decide +kernel
theorem dX0_kernelAt_55 : decode cX0_kernelAt 55 = .ok (.aload_n 0, 1) := by decide +kernel
theorem dX0_kernelAt_56 : decode cX0_kernelAt 56 = .ok (.aload_n 0, 1) := by decide +kernel
theorem dX0_kernelAt_57 : decode cX0_kernelAt 57 = .ok (.getfield 36, 3) := by decide +kernel
theorem dX0_kernelAt_60 : decode cX0_kernelAt 60 = .ok (.iload 4, 2) := by decide +kernel
theorem dX0_kernelAt_62 : decode cX0_kernelAt 62 = .ok (.aload_n 0, 1) := by decide +kernel
theorem dX0_kernelAt_63 : decode cX0_kernelAt 63 = .ok (.getfield 26, 3) := by decide +kernel
theorem dX0_kernelAt_66 : decode cX0_kernelAt 66 = .ok (.imul, 1) := by decide +kernel
theorem dX0_kernelAt_67 : decode cX0_kernelAt 67 = .ok (.iload_n 3, 1) := by decide +kernel
theorem dX0_kernelAt_68 : decode cX0_kernelAt 68 = .ok (.iadd, 1) := by decide +kernel
theorem dX0_kernelAt_69 : decode cX0_kernelAt 69 = .ok (.iaload, 1) := by decide +kernel
theorem dX0_kernelAt_70 : decode cX0_kernelAt 70 = .ok (.i2l, 1) := by decide +kernel
theorem dX0_kernelAt_71 : decode cX0_kernelAt 71 = .ok (.invokevirtual 84, 3) := by decide +kernel
theorem dX0_kernelAt_74 : decode cX0_kernelAt 74 = .ok (.l2i, 1) := by decide +kernel
theorem dX0_kernelAt_75 : decode cX0_kernelAt 75 = .ok (.ireturn, 1) := by decide +kernel
theorem dX0_isSide_0 : decode cX0_isSide 0 = .ok (.iload_n 0, 1) := by decide +kernel
theorem dX0_isSide_1 : decode cX0_isSide 1 = .ok (.iconst 1, 1) := by decide +kernel
theorem dX0_isSide_2 : decode cX0_isSide 2 = .ok (.if_icmp .lt 13, 3) := by decide +kernel
theorem dX0_isSide_5 : decode cX0_isSide 5 = .ok (.iload_n 0, 1) := by decide +kernel
theorem dX0_isSide_6 : decode cX0_isSide 6 = .ok (.bipush 10, 2) := by decide +kernel
theorem dX0_isSide_8 : decode cX0_isSide 8 = .ok (.if_icmp .gt 7, 3) := by decide +kernel
theorem dX0_isSide_11 : decode cX0_isSide 11 = .ok (.iconst 1, 1) := by decide +kernel
theorem dX0_isSide_12 : decode cX0_isSide 12 = .ok (.goto 4, 3) := by decide +kernel
theorem dX0_isSide_15 : decode cX0_isSide 15 = .ok (.iconst 0, 1) := by decide +kernel
theorem dX0_isSide_16 : decode cX0_isSide 16 = .ok (.ireturn, 1) := by decide +kernel
theorem dX0_isPrime_0 : decode cX0_isPrime 0 = .ok (.iload_n 0, 1) := by decide +kernel
theorem dX0_isPrime_1 : decode cX0_isPrime 1 = .ok (.iconst 2, 1) := by decide +kernel
theorem dX0_isPrime_2 : decode cX0_isPrime 2 = .ok (.if_icmp .lt 9, 3) := by decide +kernel
theorem dX0_isPrime_5 : decode cX0_isPrime 5 = .ok (.iload_n 0, 1) := by decide +kernel
theorem dX0_isPrime_6 : decode cX0_isPrime 6 = .ok (.iconst 2, 1) := by decide +kernel
theorem dX0_isPrime_7 : decode cX0_isPrime 7 = .ok (.irem, 1) := by decide +kernel
theorem dX0_isPrime_8 : decode cX0_isPrime 8 = .ok (.ifCond .ne 14, 3) := by decide +kernel
theorem dX0_isPrime_11 : decode cX0_isPrime 11 = .ok (.iload_n 0, 1) := by decide +kernel
theorem dX0_isPrime_12 : decode cX0_isPrime 12 = .ok (.iconst 2, 1) := by decide +kernel
theorem dX0_isPrime_13 : decode cX0_isPrime 13 = .ok (.if_icmp .ne 7, 3) := by decide +kernel
theorem dX0_isPrime_16 : decode cX0_isPrime 16 = .ok (.iconst 1, 1) := by decide +kernel
theorem dX0_isPrime_17 : decode cX0_isPrime 17 = .ok (.goto 4, 3) := by decide +kernel
theorem dX0_isPrime_20 : decode cX0_isPrime 20 = .ok (.iconst 0, 1) := by decide +kernel
theorem dX0_isPrime_21 : decode cX0_isPrime 21 = .ok (.ireturn, 1) := by decide +kernel
theorem dX0_isPrime_22 : decode cX0_isPrime 22 = .ok (.iconst 3, 1) := by decide +kernel
theorem dX0_isPrime_23 : decode cX0_isPrime 23 = .ok (.istore_n 1, 1) := by decide +kernel
theorem dX0_isPrime_24 : decode cX0_isPrime 24 = .ok (.iload_n 1, 1) := by decide +kernel
theorem dX0_isPrime_25 : decode cX0_isPrime 25 = .ok (.i2l, 1) := by decide +kernel
theorem dX0_isPrime_26 : decode cX0_isPrime 26 = .ok (.iload_n 1, 1) := by decide +kernel
theorem dX0_isPrime_27 : decode cX0_isPrime 27 = .ok (.i2l, 1) := by decide +kernel
theorem dX0_isPrime_28 : decode cX0_isPrime 28 = .ok (.lmul, 1) := by decide +kernel
theorem dX0_isPrime_29 : decode cX0_isPrime 29 = .ok (.iload_n 0, 1) := by decide +kernel
theorem dX0_isPrime_30 : decode cX0_isPrime 30 = .ok (.i2l, 1) := by decide +kernel
theorem dX0_isPrime_31 : decode cX0_isPrime 31 = .ok (.lcmp, 1) := by decide +kernel
theorem dX0_isPrime_32 : decode cX0_isPrime 32 = .ok (.ifCond .gt 17, 3) := by decide +kernel
theorem dX0_isPrime_35 : decode cX0_isPrime 35 = .ok (.iload_n 0, 1) := by decide +kernel
theorem dX0_isPrime_36 : decode cX0_isPrime 36 = .ok (.iload_n 1, 1) := by decide +kernel
theorem dX0_isPrime_37 : decode cX0_isPrime 37 = .ok (.irem, 1) := by decide +kernel
theorem dX0_isPrime_38 : decode cX0_isPrime 38 = .ok (.ifCond .ne 5, 3) := by decide +kernel
theorem dX0_isPrime_41 : decode cX0_isPrime 41 = .ok (.iconst 0, 1) := by decide +kernel
theorem dX0_isPrime_42 : decode cX0_isPrime 42 = .ok (.ireturn, 1) := by decide +kernel
theorem dX0_isPrime_43 : decode cX0_isPrime 43 = .ok (.iinc 1 2, 3) := by decide +kernel
theorem dX0_isPrime_46 : decode cX0_isPrime 46 = .ok (.goto (-22), 3) := by decide +kernel
theorem dX0_isPrime_49 : decode cX0_isPrime 49 = .ok (.iconst 1, 1) := by decide +kernel
theorem dX0_isPrime_50 : decode cX0_isPrime 50 = .ok (.ireturn, 1) := by decide +kernel
theorem dX0_isRow_0 : decode cX0_isRow 0 = .ok (.iload_n 1, 1) := by decide +kernel
theorem dX0_isRow_1 : decode cX0_isRow 1 = .ok (.ifCond .lt 15, 3) := by decide +kernel
theorem dX0_isRow_4 : decode cX0_isRow 4 = .ok (.iload_n 1, 1) := by decide +kernel
theorem dX0_isRow_5 : decode cX0_isRow 5 = .ok (.aload_n 0, 1) := by decide +kernel
theorem dX0_isRow_6 : decode cX0_isRow 6 = .ok (.getfield 20, 3) := by decide +kernel
theorem dX0_isRow_9 : decode cX0_isRow 9 = .ok (.if_icmp .ge 7, 3) := by decide +kernel
theorem dX0_isRow_12 : decode cX0_isRow 12 = .ok (.iconst 1, 1) := by decide +kernel
theorem dX0_isRow_13 : decode cX0_isRow 13 = .ok (.goto 4, 3) := by decide +kernel
theorem dX0_isRow_16 : decode cX0_isRow 16 = .ok (.iconst 0, 1) := by decide +kernel
theorem dX0_isRow_17 : decode cX0_isRow 17 = .ok (.ireturn, 1) := by decide +kernel
theorem dX0_isColumn_0 : decode cX0_isColumn 0 = .ok (.iload_n 1, 1) := by decide +kernel
theorem dX0_isColumn_1 : decode cX0_isColumn 1 = .ok (.ifCond .lt 15, 3) := by decide +kernel
theorem dX0_isColumn_4 : decode cX0_isColumn 4 = .ok (.iload_n 1, 1) := by decide +kernel
theorem dX0_isColumn_5 : decode cX0_isColumn 5 = .ok (.aload_n 0, 1) := by decide +kernel
theorem dX0_isColumn_6 : decode cX0_isColumn 6 = .ok (.getfield 23, 3) := by decide +kernel
theorem dX0_isColumn_9 : decode cX0_isColumn 9 = .ok (.if_icmp .ge 7, 3) := by decide +kernel
theorem dX0_isColumn_12 : decode cX0_isColumn 12 = .ok (.iconst 1, 1) := by decide +kernel
theorem dX0_isColumn_13 : decode cX0_isColumn 13 = .ok (.goto 4, 3) := by decide +kernel
theorem dX0_isColumn_16 : decode cX0_isColumn 16 = .ok (.iconst 0, 1) := by decide +kernel
theorem dX0_isColumn_17 : decode cX0_isColumn 17 = .ok (.ireturn, 1) := by decide +kernel
theorem dX0_hasInverse_0 : decode cX0_hasInverse 0 = .ok (.aload_n 0, 1) := by decide +kernel
theorem dX0_hasInverse_1 : decode cX0_hasInverse 1 = .ok (.getfield 42, 3) := by decide +kernel
theorem dX0_hasInverse_4 : decode cX0_hasInverse 4 = .ok (.ifCond .eq 29, 3) := by decide +kernel
theorem dX0_hasInverse_7 : decode cX0_hasInverse 7 = .ok (.aload_n 0, 1) := by decide +kernel
theorem dX0_hasInverse_8 : decode cX0_hasInverse 8 = .ok (.getfield 20, 3) := by decide +kernel
theorem dX0_hasInverse_11 : decode cX0_hasInverse 11 = .ok (.aload_n 0, 1) := by decide +kernel
theorem dX0_hasInverse_12 : decode cX0_hasInverse 12 = .ok (.getfield 23, 3) := by decide +kernel
theorem dX0_hasInverse_15 : decode cX0_hasInverse 15 = .ok (.if_icmp .ne 18, 3) := by decide +kernel
theorem dX0_hasInverse_18 : decode cX0_hasInverse 18 = .ok (.aload_n 0, 1) := by decide +kernel
theorem dX0_hasInverse_19 : decode cX0_hasInverse 19 = .ok (.getfield 46, 3) := by decide +kernel
theorem dX0_hasInverse_22 : decode cX0_hasInverse 22 = .ok (.aload_n 0, 1) := by decide +kernel
theorem dX0_hasInverse_23 : decode cX0_hasInverse 23 = .ok (.getfield 23, 3) := by decide +kernel
theorem dX0_hasInverse_26 : decode cX0_hasInverse 26 = .ok (.if_icmp .ne 7, 3) := by decide +kernel
theorem dX0_hasInverse_29 : decode cX0_hasInverse 29 = .ok (.iconst 1, 1) := by decide +kernel
theorem dX0_hasInverse_30 : decode cX0_hasInverse 30 = .ok (.goto 4, 3) := by decide +kernel
theorem dX0_hasInverse_33 : decode cX0_hasInverse 33 = .ok (.iconst 0, 1) := by decide +kernel
theorem dX0_hasInverse_34 : decode cX0_hasInverse 34 = .ok (.ireturn, 1) := by decide +kernel
theorem dX0_transformNumber_0 : decode cX0_transformNumber 0 = .ok (.aload_n 0, 1) := by decide +kernel
theorem dX0_transformNumber_1 : decode cX0_transformNumber 1 = .ok (.getfield 36, 3) := by decide +kernel
theorem dX0_transformNumber_4 : decode cX0_transformNumber 4 = .ok (.iload_n 1, 1) := by decide +kernel
theorem dX0_transformNumber_5 : decode cX0_transformNumber 5 = .ok (.aload_n 0, 1) := by decide +kernel
theorem dX0_transformNumber_6 : decode cX0_transformNumber 6 = .ok (.getfield 26, 3) := by decide +kernel
theorem dX0_transformNumber_9 : decode cX0_transformNumber 9 = .ok (.imul, 1) := by decide +kernel
theorem dX0_transformNumber_10 : decode cX0_transformNumber 10 = .ok (.aload_n 0, 1) := by decide +kernel
theorem dX0_transformNumber_11 : decode cX0_transformNumber 11 = .ok (.getfield 23, 3) := by decide +kernel
theorem dX0_transformNumber_14 : decode cX0_transformNumber 14 = .ok (.iadd, 1) := by decide +kernel
theorem dX0_transformNumber_15 : decode cX0_transformNumber 15 = .ok (.iload_n 2, 1) := by decide +kernel
theorem dX0_transformNumber_16 : decode cX0_transformNumber 16 = .ok (.iadd, 1) := by decide +kernel
theorem dX0_transformNumber_17 : decode cX0_transformNumber 17 = .ok (.iaload, 1) := by decide +kernel
theorem dX0_transformNumber_18 : decode cX0_transformNumber 18 = .ok (.ireturn, 1) := by decide +kernel
theorem dX0_startWork_0 : decode cX0_startWork 0 = .ok (.iconst 0, 1) := by decide +kernel
theorem dX0_startWork_1 : decode cX0_startWork 1 = .ok (.istore_n 1, 1) := by decide +kernel
theorem dX0_startWork_2 : decode cX0_startWork 2 = .ok (.iload_n 1, 1) := by decide +kernel
theorem dX0_startWork_3 : decode cX0_startWork 3 = .ok (.aload_n 0, 1) := by decide +kernel
theorem dX0_startWork_4 : decode cX0_startWork 4 = .ok (.getfield 20, 3) := by decide +kernel
theorem dX0_startWork_7 : decode cX0_startWork 7 = .ok (.if_icmp .ge 95, 3) := by decide +kernel
theorem dX0_startWork_10 : decode cX0_startWork 10 = .ok (.iconst 0, 1) := by decide +kernel
theorem dX0_startWork_11 : decode cX0_startWork 11 = .ok (.istore_n 2, 1) := by decide +kernel
theorem dX0_startWork_12 : decode cX0_startWork 12 = .ok (.iload_n 2, 1) := by decide +kernel
theorem dX0_startWork_13 : decode cX0_startWork 13 = .ok (.aload_n 0, 1) := by decide +kernel
theorem dX0_startWork_14 : decode cX0_startWork 14 = .ok (.getfield 23, 3) := by decide +kernel
theorem dX0_startWork_17 : decode cX0_startWork 17 = .ok (.if_icmp .ge 35, 3) := by decide +kernel
theorem dX0_startWork_20 : decode cX0_startWork 20 = .ok (.aload_n 0, 1) := by decide +kernel
theorem dX0_startWork_21 : decode cX0_startWork 21 = .ok (.getfield 36, 3) := by decide +kernel
theorem dX0_startWork_24 : decode cX0_startWork 24 = .ok (.iload_n 1, 1) := by decide +kernel
theorem dX0_startWork_25 : decode cX0_startWork 25 = .ok (.aload_n 0, 1) := by decide +kernel
theorem dX0_startWork_26 : decode cX0_startWork 26 = .ok (.getfield 26, 3) := by decide +kernel
theorem dX0_startWork_29 : decode cX0_startWork 29 = .ok (.imul, 1) := by decide +kernel
theorem dX0_startWork_30 : decode cX0_startWork 30 = .ok (.iload_n 2, 1) := by decide +kernel
theorem dX0_startWork_31 : decode cX0_startWork 31 = .ok (.iadd, 1) := by decide +kernel
theorem dX0_startWork_32 : decode cX0_startWork 32 = .ok (.aload_n 0, 1) := by decide +kernel
theorem dX0_startWork_33 : decode cX0_startWork 33 = .ok (.getfield 29, 3) := by decide +kernel
theorem dX0_startWork_36 : decode cX0_startWork 36 = .ok (.iload_n 1, 1) := by decide +kernel
theorem dX0_startWork_37 : decode cX0_startWork 37 = .ok (.aload_n 0, 1) := by decide +kernel
theorem dX0_startWork_38 : decode cX0_startWork 38 = .ok (.getfield 23, 3) := by decide +kernel
theorem dX0_startWork_41 : decode cX0_startWork 41 = .ok (.imul, 1) := by decide +kernel
theorem dX0_startWork_42 : decode cX0_startWork 42 = .ok (.iload_n 2, 1) := by decide +kernel
theorem dX0_startWork_43 : decode cX0_startWork 43 = .ok (.iadd, 1) := by decide +kernel
theorem dX0_startWork_44 : decode cX0_startWork 44 = .ok (.iaload, 1) := by decide +kernel
theorem dX0_startWork_45 : decode cX0_startWork 45 = .ok (.iastore, 1) := by decide +kernel
theorem dX0_startWork_46 : decode cX0_startWork 46 = .ok (.iinc 2 1, 3) := by decide +kernel
theorem dX0_startWork_49 : decode cX0_startWork 49 = .ok (.goto (-37), 3) := by decide +kernel
theorem dX0_startWork_52 : decode cX0_startWork 52 = .ok (.iconst 0, 1) := by decide +kernel
theorem dX0_startWork_53 : decode cX0_startWork 53 = .ok (.istore_n 2, 1) := by decide +kernel
theorem dX0_startWork_54 : decode cX0_startWork 54 = .ok (.iload_n 2, 1) := by decide +kernel
theorem dX0_startWork_55 : decode cX0_startWork 55 = .ok (.aload_n 0, 1) := by decide +kernel
theorem dX0_startWork_56 : decode cX0_startWork 56 = .ok (.getfield 20, 3) := by decide +kernel
theorem dX0_startWork_59 : decode cX0_startWork 59 = .ok (.if_icmp .ge 37, 3) := by decide +kernel
theorem dX0_startWork_62 : decode cX0_startWork 62 = .ok (.aload_n 0, 1) := by decide +kernel
theorem dX0_startWork_63 : decode cX0_startWork 63 = .ok (.getfield 36, 3) := by decide +kernel
theorem dX0_startWork_66 : decode cX0_startWork 66 = .ok (.iload_n 1, 1) := by decide +kernel
theorem dX0_startWork_67 : decode cX0_startWork 67 = .ok (.aload_n 0, 1) := by decide +kernel
theorem dX0_startWork_68 : decode cX0_startWork 68 = .ok (.getfield 26, 3) := by decide +kernel
theorem dX0_startWork_71 : decode cX0_startWork 71 = .ok (.imul, 1) := by decide +kernel
theorem dX0_startWork_72 : decode cX0_startWork 72 = .ok (.aload_n 0, 1) := by decide +kernel
theorem dX0_startWork_73 : decode cX0_startWork 73 = .ok (.getfield 23, 3) := by decide +kernel
theorem dX0_startWork_76 : decode cX0_startWork 76 = .ok (.iadd, 1) := by decide +kernel
theorem dX0_startWork_77 : decode cX0_startWork 77 = .ok (.iload_n 2, 1) := by decide +kernel
theorem dX0_startWork_78 : decode cX0_startWork 78 = .ok (.iadd, 1) := by decide +kernel
theorem dX0_startWork_79 : decode cX0_startWork 79 = .ok (.iload_n 1, 1) := by decide +kernel
theorem dX0_startWork_80 : decode cX0_startWork 80 = .ok (.iload_n 2, 1) := by decide +kernel
theorem dX0_startWork_81 : decode cX0_startWork 81 = .ok (.if_icmp .ne 7, 3) := by decide +kernel
theorem dX0_startWork_84 : decode cX0_startWork 84 = .ok (.iconst 1, 1) := by decide +kernel
theorem dX0_startWork_85 : decode cX0_startWork 85 = .ok (.goto 4, 3) := by decide +kernel
theorem dX0_startWork_88 : decode cX0_startWork 88 = .ok (.iconst 0, 1) := by decide +kernel
theorem dX0_startWork_89 : decode cX0_startWork 89 = .ok (.iastore, 1) := by decide +kernel
theorem dX0_startWork_90 : decode cX0_startWork 90 = .ok (.iinc 2 1, 3) := by decide +kernel
theorem dX0_startWork_93 : decode cX0_startWork 93 = .ok (.goto (-39), 3) := by decide +kernel
theorem dX0_startWork_96 : decode cX0_startWork 96 = .ok (.iinc 1 1, 3) := by decide +kernel
theorem dX0_startWork_99 : decode cX0_startWork 99 = .ok (.goto (-97), 3) := by decide +kernel
theorem dX0_startWork_102 : decode cX0_startWork 102 = .ok (.iconst 0, 1) := by decide +kernel
