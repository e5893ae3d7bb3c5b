theorem dX0_startWork_103 : decode cX0_startWork 103 = .ok (.istore_n 1, 1) := by decide +kernel
theorem dX0_startWork_104 : decode cX0_startWork 104 = .ok (.iload_n 1, 1) := by decide +kernel
theorem dX0_startWork_105 : decode cX0_startWork 105 = .ok (.aload_n 0, 1) := by decide +kernel
theorem dX0_startWork_106 : decode cX0_startWork 106 = .ok (.getfield 23, 3) := by decide +kernel
theorem dX0_startWork_109 : decode cX0_startWork 109 = .ok (.if_icmp .ge 16, 3) := by decide +kernel
theorem dX0_startWork_112 : decode cX0_startWork 112 = .ok (.aload_n 0, 1) := by decide +kernel
theorem dX0_startWork_113 : decode cX0_startWork 113 = .ok (.getfield 39, 3) := by decide +kernel
theorem dX0_startWork_116 : decode cX0_startWork 116 = .ok (.iload_n 1, 1) := by decide +kernel
theorem dX0_startWork_117 : decode cX0_startWork 117 = .ok (.iconst (-1), 1) := by decide +kernel
theorem dX0_startWork_118 : decode cX0_startWork 118 = .ok (.iastore, 1) := by decide +kernel
theorem dX0_startWork_119 : decode cX0_startWork 119 = .ok (.iinc 1 1, 3) := by decide +kernel
theorem dX0_startWork_122 : decode cX0_startWork 122 = .ok (.goto (-18), 3) := by decide +kernel
theorem dX0_startWork_125 : decode cX0_startWork 125 = .ok (.aload_n 0, 1) := by decide +kernel
theorem dX0_startWork_126 : decode cX0_startWork 126 = .ok (.iconst 0, 1) := by decide +kernel
theorem dX0_startWork_127 : decode cX0_startWork 127 = .ok (.putfield 46, 3) := by decide +kernel
theorem dX0_startWork_130 : decode cX0_startWork 130 = .ok (.aload_n 0, 1) := by decide +kernel
theorem dX0_startWork_131 : decode cX0_startWork 131 = .ok (.lconst 1, 1) := by decide +kernel
theorem dX0_startWork_132 : decode cX0_startWork 132 = .ok (.putfield 49, 3) := by decide +kernel
theorem dX0_startWork_135 : decode cX0_startWork 135 = .ok (.return_, 1) := by decide +kernel
set_option maxRecDepth 20000 in
theorem ggX0_reduceColumn_X0_firstRowLeft : GoodIn wsX0_reduceColumn wsX0_firstRowLeft := goodIn_r _ [12, 1, 6, 3, 4, 33, 34, 35, 36, 37, 38, 39, 40, 41, 42, 43] (by decide +kernel) (by decide +kernel)
set_option maxRecDepth 20000 in
theorem gX0_reduceColumn_X0_firstRowLeft : GoodIn wsX0_reduceColumn (wsV RX0 88 RX0 yX0_firstRowLeft wsX0_firstRowLeft) := goodIn_app (goodIn_of _ (by decide +kernel)) ggX0_reduceColumn_X0_firstRowLeft
set_option maxRecDepth 20000 in
theorem ggX0_reduceColumn_X0_changePlaces : GoodIn wsX0_reduceColumn wsX0_changePlaces := goodIn_r _ [16, 4, 3, 33, 34, 35, 36, 37, 38, 39, 40, 41, 42, 43] (by decide +kernel) (by decide +kernel)
set_option maxRecDepth 20000 in
theorem gX0_reduceColumn_X0_changePlaces : GoodIn wsX0_reduceColumn (wsV RX0 91 RX0 yX0_changePlaces wsX0_changePlaces) := goodIn_app (goodIn_of _ (by decide +kernel)) ggX0_reduceColumn_X0_changePlaces
set_option maxRecDepth 20000 in
theorem ggX0_reduceColumn_X0_negative : GoodIn wsX0_reduceColumn wsX0_negative := goodIn_r _ [20, 5, 33, 34, 35, 36, 37, 38, 39, 40, 41, 42, 43] (by decide +kernel) (by decide +kernel)
set_option maxRecDepth 20000 in
theorem gX0_reduceColumn_X0_negative : GoodIn wsX0_reduceColumn (wsV RX0 84 RX0 yX0_negative wsX0_negative) := goodIn_app (goodIn_of _ (by decide +kernel)) ggX0_reduceColumn_X0_negative
set_option maxRecDepth 20000 in
theorem ggX0_reduceColumn_X0_inverseOf : GoodIn wsX0_reduceColumn wsX0_inverseOf := goodIn_r _ [24, 5, 33, 34, 35, 36, 37, 38, 39, 40, 41, 42, 43] (by decide +kernel) (by decide +kernel)
set_option maxRecDepth 20000 in
theorem gX0_reduceColumn_X0_inverseOf : GoodIn wsX0_reduceColumn (wsV RX0 95 RX0 yX0_inverseOf wsX0_inverseOf) := goodIn_app (goodIn_of _ (by decide +kernel)) ggX0_reduceColumn_X0_inverseOf
set_option maxRecDepth 20000 in
theorem ggX0_reduceColumn_X0_multiplyRow : GoodIn wsX0_reduceColumn wsX0_multiplyRow := goodIn_r _ [28, 4, 3, 5, 33, 34, 35, 36, 37, 38, 39, 40, 41, 42, 43] (by decide +kernel) (by decide +kernel)
set_option maxRecDepth 20000 in
theorem gX0_reduceColumn_X0_multiplyRow : GoodIn wsX0_reduceColumn (wsV RX0 99 RX0 yX0_multiplyRow wsX0_multiplyRow) := goodIn_app (goodIn_of _ (by decide +kernel)) ggX0_reduceColumn_X0_multiplyRow
set_option maxRecDepth 20000 in
theorem ggX0_reduceColumn_X0_takeRow : GoodIn wsX0_reduceColumn wsX0_takeRow := goodIn_r _ [32, 4, 3, 5, 17, 18, 19, 11, 20, 33, 34, 35, 36, 37, 38, 39, 40, 41, 42, 43] (by decide +kernel) (by decide +kernel)
set_option maxRecDepth 20000 in
theorem gX0_reduceColumn_X0_takeRow : GoodIn wsX0_reduceColumn (wsV RX0 103 RX0 yX0_takeRow wsX0_takeRow) := goodIn_app (goodIn_of _ (by decide +kernel)) ggX0_reduceColumn_X0_takeRow
theorem dX0_reduceColumn_0 : decode cX0_reduceColumn 0 = .ok (.aload_n 0, 1) := by decide +kernel
theorem dX0_reduceColumn_1 : decode cX0_reduceColumn 1 = .ok (.iload_n 1, 1) := by decide +kernel
theorem dX0_reduceColumn_2 : decode cX0_reduceColumn 2 = .ok (.invokevirtual 88, 3) := by decide +kernel
theorem dX0_reduceColumn_5 : decode cX0_reduceColumn 5 = .ok (.istore_n 2, 1) := by decide +kernel
theorem dX0_reduceColumn_6 : decode cX0_reduceColumn 6 = .ok (.iload_n 2, 1) := by decide +kernel
theorem dX0_reduceColumn_7 : decode cX0_reduceColumn 7 = .ok (.iconst (-1), 1) := by decide +kernel
theorem dX0_reduceColumn_8 : decode cX0_reduceColumn 8 = .ok (.if_icmp .ne 4, 3) := by decide +kernel
theorem dX0_reduceColumn_11 : decode cX0_reduceColumn 11 = .ok (.return_, 1) := by decide +kernel
theorem dX0_reduceColumn_12 : decode cX0_reduceColumn 12 = .ok (.aload_n 0, 1) := by decide +kernel
theorem dX0_reduceColumn_13 : decode cX0_reduceColumn 13 = .ok (.getfield 46, 3) := by decide +kernel
theorem dX0_reduceColumn_16 : decode cX0_reduceColumn 16 = .ok (.istore_n 3, 1) := by decide +kernel
theorem dX0_reduceColumn_17 : decode cX0_reduceColumn 17 = .ok (.iload_n 2, 1) := by decide +kernel
theorem dX0_reduceColumn_18 : decode cX0_reduceColumn 18 = .ok (.iload_n 3, 1) := by decide +kernel
theorem dX0_reduceColumn_19 : decode cX0_reduceColumn 19 = .ok (.if_icmp .eq 21, 3) := by decide +kernel
theorem dX0_reduceColumn_22 : decode cX0_reduceColumn 22 = .ok (.aload_n 0, 1) := by decide +kernel
theorem dX0_reduceColumn_23 : decode cX0_reduceColumn 23 = .ok (.iload_n 2, 1) := by decide +kernel
theorem dX0_reduceColumn_24 : decode cX0_reduceColumn 24 = .ok (.iload_n 3, 1) := by decide +kernel
theorem dX0_reduceColumn_25 : decode cX0_reduceColumn 25 = .ok (.invokevirtual 91, 3) := by decide +kernel
theorem dX0_reduceColumn_28 : decode cX0_reduceColumn 28 = .ok (.aload_n 0, 1) := by decide +kernel
theorem dX0_reduceColumn_29 : decode cX0_reduceColumn 29 = .ok (.aload_n 0, 1) := by decide +kernel
theorem dX0_reduceColumn_30 : decode cX0_reduceColumn 30 = .ok (.aload_n 0, 1) := by decide +kernel
theorem dX0_reduceColumn_31 : decode cX0_reduceColumn 31 = .ok (.getfield 49, 3) := by decide +kernel
theorem dX0_reduceColumn_34 : decode cX0_reduceColumn 34 = .ok (.invokevirtual 84, 3) := by decide +kernel
theorem dX0_reduceColumn_37 : decode cX0_reduceColumn 37 = .ok (.putfield 49, 3) := by decide +kernel
theorem dX0_reduceColumn_40 : decode cX0_reduceColumn 40 = .ok (.aload_n 0, 1) := by decide +kernel
theorem dX0_reduceColumn_41 : decode cX0_reduceColumn 41 = .ok (.getfield 36, 3) := by decide +kernel
theorem dX0_reduceColumn_44 : decode cX0_reduceColumn 44 = .ok (.iload_n 3, 1) := by decide +kernel
theorem dX0_reduceColumn_45 : decode cX0_reduceColumn 45 = .ok (.aload_n 0, 1) := by decide +kernel
theorem dX0_reduceColumn_46 : decode cX0_reduceColumn 46 = .ok (.getfield 26, 3) := by decide +kernel
theorem dX0_reduceColumn_49 : decode cX0_reduceColumn 49 = .ok (.imul, 1) := by decide +kernel
theorem dX0_reduceColumn_50 : decode cX0_reduceColumn 50 = .ok (.iload_n 1, 1) := by decide +kernel
theorem dX0_reduceColumn_51 : decode cX0_reduceColumn 51 = .ok (.iadd, 1) := by decide +kernel
theorem dX0_reduceColumn_52 : decode cX0_reduceColumn 52 = .ok (.iaload, 1) := by decide +kernel
theorem dX0_reduceColumn_53 : decode cX0_reduceColumn 53 = .ok (.istore 4, 2) := by decide +kernel
theorem dX0_reduceColumn_55 : decode cX0_reduceColumn 55 = .ok (.aload_n 0, 1) := by decide +kernel
theorem dX0_reduceColumn_56 : decode cX0_reduceColumn 56 = .ok (.aload_n 0, 1) := by decide +kernel
theorem dX0_reduceColumn_57 : decode cX0_reduceColumn 57 = .ok (.getfield 49, 3) := by decide +kernel
theorem dX0_reduceColumn_60 : decode cX0_reduceColumn 60 = .ok (.iload 4, 2) := by decide +kernel
theorem dX0_reduceColumn_62 : decode cX0_reduceColumn 62 = .ok (.i2l, 1) := by decide +kernel
theorem dX0_reduceColumn_63 : decode cX0_reduceColumn 63 = .ok (.lmul, 1) := by decide +kernel
theorem dX0_reduceColumn_64 : decode cX0_reduceColumn 64 = .ok (.aload_n 0, 1) := by decide +kernel
theorem dX0_reduceColumn_65 : decode cX0_reduceColumn 65 = .ok (.getfield 16, 3) := by decide +kernel
theorem dX0_reduceColumn_68 : decode cX0_reduceColumn 68 = .ok (.i2l, 1) := by decide +kernel
theorem dX0_reduceColumn_69 : decode cX0_reduceColumn 69 = .ok (.lrem, 1) := by decide +kernel
theorem dX0_reduceColumn_70 : decode cX0_reduceColumn 70 = .ok (.putfield 49, 3) := by decide +kernel
theorem dX0_reduceColumn_73 : decode cX0_reduceColumn 73 = .ok (.aload_n 0, 1) := by decide +kernel
theorem dX0_reduceColumn_74 : decode cX0_reduceColumn 74 = .ok (.iload_n 3, 1) := by decide +kernel
theorem dX0_reduceColumn_75 : decode cX0_reduceColumn 75 = .ok (.aload_n 0, 1) := by decide +kernel
theorem dX0_reduceColumn_76 : decode cX0_reduceColumn 76 = .ok (.iload 4, 2) := by decide +kernel
theorem dX0_reduceColumn_78 : decode cX0_reduceColumn 78 = .ok (.invokevirtual 95, 3) := by decide +kernel
theorem dX0_reduceColumn_81 : decode cX0_reduceColumn 81 = .ok (.invokevirtual 99, 3) := by decide +kernel
theorem dX0_reduceColumn_84 : decode cX0_reduceColumn 84 = .ok (.iconst 0, 1) := by decide +kernel
theorem dX0_reduceColumn_85 : decode cX0_reduceColumn 85 = .ok (.istore 5, 2) := by decide +kernel
theorem dX0_reduceColumn_87 : decode cX0_reduceColumn 87 = .ok (.iload 5, 2) := by decide +kernel
theorem dX0_reduceColumn_89 : decode cX0_reduceColumn 89 = .ok (.aload_n 0, 1) := by decide +kernel
theorem dX0_reduceColumn_90 : decode cX0_reduceColumn 90 = .ok (.getfield 20, 3) := by decide +kernel
theorem dX0_reduceColumn_93 : decode cX0_reduceColumn 93 = .ok (.if_icmp .ge 36, 3) := by decide +kernel
theorem dX0_reduceColumn_96 : decode cX0_reduceColumn 96 = .ok (.iload 5, 2) := by decide +kernel
theorem dX0_reduceColumn_98 : decode cX0_reduceColumn 98 = .ok (.iload_n 3, 1) := by decide +kernel
theorem dX0_reduceColumn_99 : decode cX0_reduceColumn 99 = .ok (.if_icmp .eq 24, 3) := by decide +kernel
theorem dX0_reduceColumn_102 : decode cX0_reduceColumn 102 = .ok (.aload_n 0, 1) := by decide +kernel
theorem dX0_reduceColumn_103 : decode cX0_reduceColumn 103 = .ok (.iload_n 3, 1) := by decide +kernel
theorem dX0_reduceColumn_104 : decode cX0_reduceColumn 104 = .ok (.aload_n 0, 1) := by decide +kernel
theorem dX0_reduceColumn_105 : decode cX0_reduceColumn 105 = .ok (.getfield 36, 3) := by decide +kernel
theorem dX0_reduceColumn_108 : decode cX0_reduceColumn 108 = .ok (.iload 5, 2) := by decide +kernel
theorem dX0_reduceColumn_110 : decode cX0_reduceColumn 110 = .ok (.aload_n 0, 1) := by decide +kernel
theorem dX0_reduceColumn_111 : decode cX0_reduceColumn 111 = .ok (.getfield 26, 3) := by decide +kernel
theorem dX0_reduceColumn_114 : decode cX0_reduceColumn 114 = .ok (.imul, 1) := by decide +kernel
theorem dX0_reduceColumn_115 : decode cX0_reduceColumn 115 = .ok (.iload_n 1, 1) := by decide +kernel
theorem dX0_reduceColumn_116 : decode cX0_reduceColumn 116 = .ok (.iadd, 1) := by decide +kernel
theorem dX0_reduceColumn_117 : decode cX0_reduceColumn 117 = .ok (.iaload, 1) := by decide +kernel
theorem dX0_reduceColumn_118 : decode cX0_reduceColumn 118 = .ok (.iload 5, 2) := by decide +kernel
theorem dX0_reduceColumn_120 : decode cX0_reduceColumn 120 = .ok (.invokevirtual 103, 3) := by decide +kernel
theorem dX0_reduceColumn_123 : decode cX0_reduceColumn 123 = .ok (.iinc 5 1, 3) := by decide +kernel
theorem dX0_reduceColumn_126 : decode cX0_reduceColumn 126 = .ok (.goto (-39), 3) := by decide +kernel
theorem dX0_reduceColumn_129 : decode cX0_reduceColumn 129 = .ok (.aload_n 0, 1) := by decide +kernel
theorem dX0_reduceColumn_130 : decode cX0_reduceColumn 130 = .ok (.getfield 39, 3) := by decide +kernel
theorem dX0_reduceColumn_133 : decode cX0_reduceColumn 133 = .ok (.iload_n 1, 1) := by decide +kernel
theorem dX0_reduceColumn_134 : decode cX0_reduceColumn 134 = .ok (.iload_n 3, 1) := by decide +kernel
theorem dX0_reduceColumn_135 : decode cX0_reduceColumn 135 = .ok (.iastore, 1) := by decide +kernel
theorem dX0_reduceColumn_136 : decode cX0_reduceColumn 136 = .ok (.aload_n 0, 1) := by decide +kernel
theorem dX0_reduceColumn_137 : decode cX0_reduceColumn 137 = .ok (.dup, 1) := by decide +kernel
theorem dX0_reduceColumn_138 : decode cX0_reduceColumn 138 = .ok (.getfield 46, 3) := by decide +kernel
theorem dX0_reduceColumn_141 : decode cX0_reduceColumn 141 = .ok (.iconst 1, 1) := by decide +kernel
theorem dX0_reduceColumn_142 : decode cX0_reduceColumn 142 = .ok (.iadd, 1) := by decide +kernel
theorem dX0_reduceColumn_143 : decode cX0_reduceColumn 143 = .ok (.putfield 46, 3) := by decide +kernel
theorem dX0_reduceColumn_146 : decode cX0_reduceColumn 146 = .ok (.return_, 1) := by decide +kernel
theorem dX0_firstRowLeft_0 : decode cX0_firstRowLeft 0 = .ok (.aload_n 0, 1) := by decide +kernel
theorem dX0_firstRowLeft_1 : decode cX0_firstRowLeft 1 = .ok (.getfield 46, 3) := by decide +kernel
theorem dX0_firstRowLeft_4 : decode cX0_firstRowLeft 4 = .ok (.istore_n 2, 1) := by decide +kernel
theorem dX0_firstRowLeft_5 : decode cX0_firstRowLeft 5 = .ok (.iload_n 2, 1) := by decide +kernel
theorem dX0_firstRowLeft_6 : decode cX0_firstRowLeft 6 = .ok (.aload_n 0, 1) := by decide +kernel
theorem dX0_firstRowLeft_7 : decode cX0_firstRowLeft 7 = .ok (.getfield 20, 3) := by decide +kernel
theorem dX0_firstRowLeft_10 : decode cX0_firstRowLeft 10 = .ok (.if_icmp .ge 27, 3) := by decide +kernel
theorem dX0_firstRowLeft_13 : decode cX0_firstRowLeft 13 = .ok (.aload_n 0, 1) := by decide +kernel
theorem dX0_firstRowLeft_14 : decode cX0_firstRowLeft 14 = .ok (.getfield 36, 3) := by decide +kernel
theorem dX0_firstRowLeft_17 : decode cX0_firstRowLeft 17 = .ok (.iload_n 2, 1) := by decide +kernel
theorem dX0_firstRowLeft_18 : decode cX0_firstRowLeft 18 = .ok (.aload_n 0, 1) := by decide +kernel
theorem dX0_firstRowLeft_19 : decode cX0_firstRowLeft 19 = .ok (.getfield 26, 3) := by decide +kernel
theorem dX0_firstRowLeft_22 : decode cX0_firstRowLeft 22 = .ok (.imul, 1) := by decide +kernel
theorem dX0_firstRowLeft_23 : decode cX0_firstRowLeft 23 = .ok (.iload_n 1, 1) := by decide +kernel
theorem dX0_firstRowLeft_24 : decode cX0_firstRowLeft 24 = .ok (.iadd, 1) := by decide +kernel
theorem dX0_firstRowLeft_25 : decode cX0_firstRowLeft 25 = .ok (.iaload, 1) := by decide +kernel
theorem dX0_firstRowLeft_26 : decode cX0_firstRowLeft 26 = .ok (.ifCond .eq 5, 3) := by decide +kernel
theorem dX0_firstRowLeft_29 : decode cX0_firstRowLeft 29 = .ok (.iload_n 2, 1) := by decide +kernel
theorem dX0_firstRowLeft_30 : decode cX0_firstRowLeft 30 = .ok (.ireturn, 1) := by decide +kernel
theorem dX0_firstRowLeft_31 : decode cX0_firstRowLeft 31 = .ok (.iinc 2 1, 3) := by decide +kernel
theorem dX0_firstRowLeft_34 : decode cX0_firstRowLeft 34 = .ok (.goto (-29), 3) := by decide +kernel
theorem dX0_firstRowLeft_37 : decode cX0_firstRowLeft 37 = .ok (.iconst (-1), 1) := by decide +kernel
theorem dX0_firstRowLeft_38 : decode cX0_firstRowLeft 38 = .ok (.ireturn, 1) := by decide +kernel
theorem dX0_changePlaces_0 : decode cX0_changePlaces 0 = .ok (.iconst 0, 1) := by decide +kernel
theorem dX0_changePlaces_1 : decode cX0_changePlaces 1 = .ok (.istore_n 3, 1) := by decide +kernel
theorem dX0_changePlaces_2 : decode cX0_changePlaces 2 = .ok (.iload_n 3, 1) := by decide +kernel
theorem dX0_changePlaces_3 : decode cX0_changePlaces 3 = .ok (.aload_n 0, 1) := by decide +kernel
theorem dX0_changePlaces_4 : decode cX0_changePlaces 4 = .ok (.getfield 26, 3) := by decide +kernel
theorem dX0_changePlaces_7 : decode cX0_changePlaces 7 = .ok (.if_icmp .ge 65, 3) := by decide +kernel
theorem dX0_changePlaces_10 : decode cX0_changePlaces 10 = .ok (.aload_n 0, 1) := by decide +kernel
theorem dX0_changePlaces_11 : decode cX0_changePlaces 11 = .ok (.getfield 36, 3) := by decide +kernel
theorem dX0_changePlaces_14 : decode cX0_changePlaces 14 = .ok (.iload_n 1, 1) := by decide +kernel
theorem dX0_changePlaces_15 : decode cX0_changePlaces 15 = .ok (.aload_n 0, 1) := by decide +kernel
theorem dX0_changePlaces_16 : decode cX0_changePlaces 16 = .ok (.getfield 26, 3) := by decide +kernel
theorem dX0_changePlaces_19 : decode cX0_changePlaces 19 = .ok (.imul, 1) := by decide +kernel
theorem dX0_changePlaces_20 : decode cX0_changePlaces 20 = .ok (.iload_n 3, 1) := by decide +kernel
theorem dX0_changePlaces_21 : decode cX0_changePlaces 21 = .ok (.iadd, 1) := by decide +kernel
theorem dX0_changePlaces_22 : decode cX0_changePlaces 22 = .ok (.iaload, 1) := by decide +kernel
theorem dX0_changePlaces_23 : decode cX0_changePlaces 23 = .ok (.istore 4, 2) := by decide +kernel
theorem dX0_changePlaces_25 : decode cX0_changePlaces 25 = .ok (.aload_n 0, 1) := by decide +kernel
theorem dX0_changePlaces_26 : decode cX0_changePlaces 26 = .ok (.getfield 36, 3) := by decide +kernel
theorem dX0_changePlaces_29 : decode cX0_changePlaces 29 = .ok (.iload_n 1, 1) := by decide +kernel
theorem dX0_changePlaces_30 : decode cX0_changePlaces 30 = .ok (.aload_n 0, 1) := by decide +kernel
theorem dX0_changePlaces_31 : decode cX0_changePlaces 31 = .ok (.getfield 26, 3) := by decide +kernel
theorem dX0_changePlaces_34 : decode cX0_changePlaces 34 = .ok (.imul, 1) := by decide +kernel
theorem dX0_changePlaces_35 : decode cX0_changePlaces 35 = .ok (.iload_n 3, 1) := by decide +kernel
theorem dX0_changePlaces_36 : decode cX0_changePlaces 36 = .ok (.iadd, 1) := by decide +kernel
theorem dX0_changePlaces_37 : decode cX0_changePlaces 37 = .ok (.aload_n 0, 1) := by decide +kernel
theorem dX0_changePlaces_38 : decode cX0_changePlaces 38 = .ok (.getfield 36, 3) := by decide +kernel
theorem dX0_changePlaces_41 : decode cX0_changePlaces 41 = .ok (.iload_n 2, 1) := by decide +kernel
theorem dX0_changePlaces_42 : decode cX0_changePlaces 42 = .ok (.aload_n 0, 1) := by decide +kernel
theorem dX0_changePlaces_43 : decode cX0_changePlaces 43 = .ok (.getfield 26, 3) := by decide +kernel
theorem dX0_changePlaces_46 : decode cX0_changePlaces 46 = .ok (.imul, 1) := by decide +kernel
theorem dX0_changePlaces_47 : decode cX0_changePlaces 47 = .ok (.iload_n 3, 1) := by decide +kernel
theorem dX0_changePlaces_48 : decode cX0_changePlaces 48 = .ok (.iadd, 1) := by decide +kernel
theorem dX0_changePlaces_49 : decode cX0_changePlaces 49 = .ok (.iaload, 1) := by decide +kernel
theorem dX0_changePlaces_50 : decode cX0_changePlaces 50 = .ok (.iastore, 1) := by decide +kernel
theorem dX0_changePlaces_51 : decode cX0_changePlaces 51 = .ok (.aload_n 0, 1) := by decide +kernel
theorem dX0_changePlaces_52 : decode cX0_changePlaces 52 = .ok (.getfield 36, 3) := by decide +kernel
theorem dX0_changePlaces_55 : decode cX0_changePlaces 55 = .ok (.iload_n 2, 1) := by decide +kernel
theorem dX0_changePlaces_56 : decode cX0_changePlaces 56 = .ok (.aload_n 0, 1) := by decide +kernel
theorem dX0_changePlaces_57 : decode cX0_changePlaces 57 = .ok (.getfield 26, 3) := by decide +kernel
theorem dX0_changePlaces_60 : decode cX0_changePlaces 60 = .ok (.imul, 1) := by decide +kernel
theorem dX0_changePlaces_61 : decode cX0_changePlaces 61 = .ok (.iload_n 3, 1) := by decide +kernel
theorem dX0_changePlaces_62 : decode cX0_changePlaces 62 = .ok (.iadd, 1) := by decide +kernel
theorem dX0_changePlaces_63 : decode cX0_changePlaces 63 = .ok (.iload 4, 2) := by decide +kernel
theorem dX0_changePlaces_65 : decode cX0_changePlaces 65 = .ok (.iastore, 1) := by decide +kernel
theorem dX0_changePlaces_66 : decode cX0_changePlaces 66 = .ok (.iinc 3 1, 3) := by decide +kernel
theorem dX0_changePlaces_69 : decode cX0_changePlaces 69 = .ok (.goto (-67), 3) := by decide +kernel
theorem dX0_changePlaces_72 : decode cX0_changePlaces 72 = .ok (.return_, 1) := by decide +kernel
theorem dX0_multiplyRow_0 : decode cX0_multiplyRow 0 = .ok (.iconst 0, 1) := by decide +kernel
theorem dX0_multiplyRow_1 : decode cX0_multiplyRow 1 = .ok (.istore 4, 2) := by decide +kernel
theorem dX0_multiplyRow_3 : decode cX0_multiplyRow 3 = .ok (.iload 4, 2) := by decide +kernel
theorem dX0_multiplyRow_5 : decode cX0_multiplyRow 5 = .ok (.aload_n 0, 1) := by decide +kernel
theorem dX0_multiplyRow_6 : decode cX0_multiplyRow 6 = .ok (.getfield 26, 3) := by decide +kernel
theorem dX0_multiplyRow_9 : decode cX0_multiplyRow 9 = .ok (.if_icmp .ge 44, 3) := by decide +kernel
theorem dX0_multiplyRow_12 : decode cX0_multiplyRow 12 = .ok (.iload_n 1, 1) := by decide +kernel
theorem dX0_multiplyRow_13 : decode cX0_multiplyRow 13 = .ok (.aload_n 0, 1) := by decide +kernel
theorem dX0_multiplyRow_14 : decode cX0_multiplyRow 14 = .ok (.getfield 26, 3) := by decide +kernel
theorem dX0_multiplyRow_17 : decode cX0_multiplyRow 17 = .ok (.imul, 1) := by decide +kernel
theorem dX0_multiplyRow_18 : decode cX0_multiplyRow 18 = .ok (.iload 4, 2) := by decide +kernel
theorem dX0_multiplyRow_20 : decode cX0_multiplyRow 20 = .ok (.iadd, 1) := by decide +kernel
theorem dX0_multiplyRow_21 : decode cX0_multiplyRow 21 = .ok (.istore 5, 2) := by decide +kernel
theorem dX0_multiplyRow_23 : decode cX0_multiplyRow 23 = .ok (.aload_n 0, 1) := by decide +kernel
theorem dX0_multiplyRow_24 : decode cX0_multiplyRow 24 = .ok (.getfield 36, 3) := by decide +kernel
theorem dX0_multiplyRow_27 : decode cX0_multiplyRow 27 = .ok (.iload 5, 2) := by decide +kernel
theorem dX0_multiplyRow_29 : decode cX0_multiplyRow 29 = .ok (.aload_n 0, 1) := by decide +kernel
theorem dX0_multiplyRow_30 : decode cX0_multiplyRow 30 = .ok (.getfield 36, 3) := by decide +kernel
theorem dX0_multiplyRow_33 : decode cX0_multiplyRow 33 = .ok (.iload 5, 2) := by decide +kernel
theorem dX0_multiplyRow_35 : decode cX0_multiplyRow 35 = .ok (.iaload, 1) := by decide +kernel
theorem dX0_multiplyRow_36 : decode cX0_multiplyRow 36 = .ok (.i2l, 1) := by decide +kernel
theorem dX0_multiplyRow_37 : decode cX0_multiplyRow 37 = .ok (.lload_n 2, 1) := by decide +kernel
theorem dX0_multiplyRow_38 : decode cX0_multiplyRow 38 = .ok (.lmul, 1) := by decide +kernel
theorem dX0_multiplyRow_39 : decode cX0_multiplyRow 39 = .ok (.aload_n 0, 1) := by decide +kernel
theorem dX0_multiplyRow_40 : decode cX0_multiplyRow 40 = .ok (.getfield 16, 3) := by decide +kernel
theorem dX0_multiplyRow_43 : decode cX0_multiplyRow 43 = .ok (.i2l, 1) := by decide +kernel
theorem dX0_multiplyRow_44 : decode cX0_multiplyRow 44 = .ok (.lrem, 1) := by decide +kernel
theorem dX0_multiplyRow_45 : decode cX0_multiplyRow 45 = .ok (.l2i, 1) := by decide +kernel
theorem dX0_multiplyRow_46 : decode cX0_multiplyRow 46 = .ok (.iastore, 1) := by decide +kernel
theorem dX0_multiplyRow_47 : decode cX0_multiplyRow 47 = .ok (.iinc 4 1, 3) := by decide +kernel
theorem dX0_multiplyRow_50 : decode cX0_multiplyRow 50 = .ok (.goto (-47), 3) := by decide +kernel
theorem dX0_multiplyRow_53 : decode cX0_multiplyRow 53 = .ok (.return_, 1) := by decide +kernel
set_option maxRecDepth 20000 in
theorem ggX0_takeRow_X0_negative : GoodIn wsX0_takeRow wsX0_negative := goodIn_r _ [8, 3, 9, 10, 11, 12, 13, 14, 15, 16, 17, 18, 19] (by decide +kernel) (by decide +kernel)
set_option maxRecDepth 20000 in
theorem gX0_takeRow_X0_negative : GoodIn wsX0_takeRow (wsV RX0 84 RX0 yX0_negative wsX0_negative) := goodIn_app (goodIn_of _ (by decide +kernel)) ggX0_takeRow_X0_negative
theorem dX0_takeRow_0 : decode cX0_takeRow 0 = .ok (.aload_n 0, 1) := by decide +kernel
theorem dX0_takeRow_1 : decode cX0_takeRow 1 = .ok (.iload_n 2, 1) := by decide +kernel
theorem dX0_takeRow_2 : decode cX0_takeRow 2 = .ok (.i2l, 1) := by decide +kernel
theorem dX0_takeRow_3 : decode cX0_takeRow 3 = .ok (.invokevirtual 84, 3) := by decide +kernel
theorem dX0_takeRow_6 : decode cX0_takeRow 6 = .ok (.lstore 4, 2) := by decide +kernel
theorem dX0_takeRow_8 : decode cX0_takeRow 8 = .ok (.iconst 0, 1) := by decide +kernel
theorem dX0_takeRow_9 : decode cX0_takeRow 9 = .ok (.istore 6, 2) := by decide +kernel
theorem dX0_takeRow_11 : decode cX0_takeRow 11 = .ok (.iload 6, 2) := by decide +kernel
theorem dX0_takeRow_13 : decode cX0_takeRow 13 = .ok (.aload_n 0, 1) := by decide +kernel
theorem dX0_takeRow_14 : decode cX0_takeRow 14 = .ok (.getfield 26, 3) := by decide +kernel
theorem dX0_takeRow_17 : decode cX0_takeRow 17 = .ok (.if_icmp .ge 61, 3) := by decide +kernel
theorem dX0_takeRow_20 : decode cX0_takeRow 20 = .ok (.iload_n 3, 1) := by decide +kernel
theorem dX0_takeRow_21 : decode cX0_takeRow 21 = .ok (.aload_n 0, 1) := by decide +kernel
theorem dX0_takeRow_22 : decode cX0_takeRow 22 = .ok (.getfield 26, 3) := by decide +kernel
theorem dX0_takeRow_25 : decode cX0_takeRow 25 = .ok (.imul, 1) := by decide +kernel
theorem dX0_takeRow_26 : decode cX0_takeRow 26 = .ok (.iload 6, 2) := by decide +kernel
theorem dX0_takeRow_28 : decode cX0_takeRow 28 = .ok (.iadd, 1) := by decide +kernel
theorem dX0_takeRow_29 : decode cX0_takeRow 29 = .ok (.istore 7, 2) := by decide +kernel
theorem dX0_takeRow_31 : decode cX0_takeRow 31 = .ok (.aload_n 0, 1) := by decide +kernel
theorem dX0_takeRow_32 : decode cX0_takeRow 32 = .ok (.getfield 36, 3) := by decide +kernel
theorem dX0_takeRow_35 : decode cX0_takeRow 35 = .ok (.iload 7, 2) := by decide +kernel
theorem dX0_takeRow_37 : decode cX0_takeRow 37 = .ok (.aload_n 0, 1) := by decide +kernel
theorem dX0_takeRow_38 : decode cX0_takeRow 38 = .ok (.getfield 36, 3) := by decide +kernel
theorem dX0_takeRow_41 : decode cX0_takeRow 41 = .ok (.iload 7, 2) := by decide +kernel
theorem dX0_takeRow_43 : decode cX0_takeRow 43 = .ok (.iaload, 1) := by decide +kernel
theorem dX0_takeRow_44 : decode cX0_takeRow 44 = .ok (.i2l, 1) := by decide +kernel
theorem dX0_takeRow_45 : decode cX0_takeRow 45 = .ok (.lload 4, 2) := by decide +kernel
theorem dX0_takeRow_47 : decode cX0_takeRow 47 = .ok (.aload_n 0, 1) := by decide +kernel
theorem dX0_takeRow_48 : decode cX0_takeRow 48 = .ok (.getfield 36, 3) := by decide +kernel
theorem dX0_takeRow_51 : decode cX0_takeRow 51 = .ok (.iload_n 1, 1) := by decide +kernel
theorem dX0_takeRow_52 : decode cX0_takeRow 52 = .ok (.aload_n 0, 1) := by decide +kernel
theorem dX0_takeRow_53 : decode cX0_takeRow 53 = .ok (.getfield 26, 3) := by decide +kernel
theorem dX0_takeRow_56 : decode cX0_takeRow 56 = .ok (.imul, 1) := by decide +kernel
theorem dX0_takeRow_57 : decode cX0_takeRow 57 = .ok (.iload 6, 2) := by decide +kernel
theorem dX0_takeRow_59 : decode cX0_takeRow 59 = .ok (.iadd, 1) := by decide +kernel
theorem dX0_takeRow_60 : decode cX0_takeRow 60 = .ok (.iaload, 1) := by decide +kernel
theorem dX0_takeRow_61 : decode cX0_takeRow 61 = .ok (.i2l, 1) := by decide +kernel
theorem dX0_takeRow_62 : decode cX0_takeRow 62 = .ok (.lmul, 1) := by decide +kernel
theorem dX0_takeRow_63 : decode cX0_takeRow 63 = .ok (.ladd, 1) := by decide +kernel
theorem dX0_takeRow_64 : decode cX0_takeRow 64 = .ok (.aload_n 0, 1) := by decide +kernel
theorem dX0_takeRow_65 : decode cX0_takeRow 65 = .ok (.getfield 16, 3) := by decide +kernel
theorem dX0_takeRow_68 : decode cX0_takeRow 68 = .ok (.i2l, 1) := by decide +kernel
theorem dX0_takeRow_69 : decode cX0_takeRow 69 = .ok (.lrem, 1) := by decide +kernel
theorem dX0_takeRow_70 : decode cX0_takeRow 70 = .ok (.l2i, 1) := by decide +kernel
theorem dX0_takeRow_71 : decode cX0_takeRow 71 = .ok (.iastore, 1) := by decide +kernel
theorem dX0_takeRow_72 : decode cX0_takeRow 72 = .ok (.iinc 6 1, 3) := by decide +kernel
theorem dX0_takeRow_75 : decode cX0_takeRow 75 = .ok (.goto (-64), 3) := by decide +kernel
theorem dX0_takeRow_78 : decode cX0_takeRow 78 = .ok (.return_, 1) := by decide +kernel
theorem dX0_negative_0 : decode cX0_negative 0 = .ok (.lload_n 1, 1) := by decide +kernel
theorem dX0_negative_1 : decode cX0_negative 1 = .ok (.lconst 0, 1) := by decide +kernel
theorem dX0_negative_2 : decode cX0_negative 2 = .ok (.lcmp, 1) := by decide +kernel
theorem dX0_negative_3 : decode cX0_negative 3 = .ok (.ifCond .ne 7, 3) := by decide +kernel
theorem dX0_negative_6 : decode cX0_negative 6 = .ok (.lconst 0, 1) := by decide +kernel
theorem dX0_negative_7 : decode cX0_negative 7 = .ok (.goto 10, 3) := by decide +kernel
theorem dX0_negative_10 : decode cX0_negative 10 = .ok (.aload_n 0, 1) := by decide +kernel
theorem dX0_negative_11 : decode cX0_negative 11 = .ok (.getfield 16, 3) := by decide +kernel
theorem dX0_negative_14 : decode cX0_negative 14 = .ok (.i2l, 1) := by decide +kernel
theorem dX0_negative_15 : decode cX0_negative 15 = .ok (.lload_n 1, 1) := by decide +kernel
theorem dX0_negative_16 : decode cX0_negative 16 = .ok (.lsub, 1) := by decide +kernel
theorem dX0_negative_17 : decode cX0_negative 17 = .ok (.lreturn, 1) := by decide +kernel
theorem dX0_inverseOf_0 : decode cX0_inverseOf 0 = .ok (.lconst 1, 1) := by decide +kernel
theorem dX0_inverseOf_1 : decode cX0_inverseOf 1 = .ok (.lstore_n 2, 1) := by decide +kernel
theorem dX0_inverseOf_2 : decode cX0_inverseOf 2 = .ok (.iload_n 1, 1) := by decide +kernel
theorem dX0_inverseOf_3 : decode cX0_inverseOf 3 = .ok (.i2l, 1) := by decide +kernel
theorem dX0_inverseOf_4 : decode cX0_inverseOf 4 = .ok (.lstore 4, 2) := by decide +kernel
theorem dX0_inverseOf_6 : decode cX0_inverseOf 6 = .ok (.aload_n 0, 1) := by decide +kernel
theorem dX0_inverseOf_7 : decode cX0_inverseOf 7 = .ok (.getfield 16, 3) := by decide +kernel
theorem dX0_inverseOf_10 : decode cX0_inverseOf 10 = .ok (.iconst 2, 1) := by decide +kernel
theorem dX0_inverseOf_11 : decode cX0_inverseOf 11 = .ok (.isub, 1) := by decide +kernel
theorem dX0_inverseOf_12 : decode cX0_inverseOf 12 = .ok (.istore 6, 2) := by decide +kernel
theorem dX0_inverseOf_14 : decode cX0_inverseOf 14 = .ok (.iload 6, 2) := by decide +kernel
theorem dX0_inverseOf_16 : decode cX0_inverseOf 16 = .ok (.ifCond .le 44, 3) := by decide +kernel
theorem dX0_inverseOf_19 : decode cX0_inverseOf 19 = .ok (.iload 6, 2) := by decide +kernel
theorem dX0_inverseOf_21 : decode cX0_inverseOf 21 = .ok (.iconst 1, 1) := by decide +kernel
theorem dX0_inverseOf_22 : decode cX0_inverseOf 22 = .ok (.iand, 1) := by decide +kernel
theorem dX0_inverseOf_23 : decode cX0_inverseOf 23 = .ok (.iconst 1, 1) := by decide +kernel
theorem dX0_inverseOf_24 : decode cX0_inverseOf 24 = .ok (.if_icmp .ne 14, 3) := by decide +kernel
theorem dX0_inverseOf_27 : decode cX0_inverseOf 27 = .ok (.lload_n 2, 1) := by decide +kernel
theorem dX0_inverseOf_28 : decode cX0_inverseOf 28 = .ok (.lload 4, 2) := by decide +kernel
theorem dX0_inverseOf_30 : decode cX0_inverseOf 30 = .ok (.lmul, 1) := by decide +kernel
theorem dX0_inverseOf_31 : decode cX0_inverseOf 31 = .ok (.aload_n 0, 1) := by decide +kernel
theorem dX0_inverseOf_32 : decode cX0_inverseOf 32 = .ok (.getfield 16, 3) := by decide +kernel
theorem dX0_inverseOf_35 : decode cX0_inverseOf 35 = .ok (.i2l, 1) := by decide +kernel
theorem dX0_inverseOf_36 : decode cX0_inverseOf 36 = .ok (.lrem, 1) := by decide +kernel
theorem dX0_inverseOf_37 : decode cX0_inverseOf 37 = .ok (.lstore_n 2, 1) := by decide +kernel
theorem dX0_inverseOf_38 : decode cX0_inverseOf 38 = .ok (.lload 4, 2) := by decide +kernel
theorem dX0_inverseOf_40 : decode cX0_inverseOf 40 = .ok (.lload 4, 2) := by decide +kernel
theorem dX0_inverseOf_42 : decode cX0_inverseOf 42 = .ok (.lmul, 1) := by decide +kernel
theorem dX0_inverseOf_43 : decode cX0_inverseOf 43 = .ok (.aload_n 0, 1) := by decide +kernel
theorem dX0_inverseOf_44 : decode cX0_inverseOf 44 = .ok (.getfield 16, 3) := by decide +kernel
theorem dX0_inverseOf_47 : decode cX0_inverseOf 47 = .ok (.i2l, 1) := by decide +kernel
theorem dX0_inverseOf_48 : decode cX0_inverseOf 48 = .ok (.lrem, 1) := by decide +kernel
theorem dX0_inverseOf_49 : decode cX0_inverseOf 49 = .ok (.lstore 4, 2) := by decide +kernel
theorem dX0_inverseOf_51 : decode cX0_inverseOf 51 = .ok (.iload 6, 2) := by decide +kernel
theorem dX0_inverseOf_53 : decode cX0_inverseOf 53 = .ok (.iconst 1, 1) := by decide +kernel
theorem dX0_inverseOf_54 : decode cX0_inverseOf 54 = .ok (.ishr, 1) := by decide +kernel
theorem dX0_inverseOf_55 : decode cX0_inverseOf 55 = .ok (.istore 6, 2) := by decide +kernel
theorem dX0_inverseOf_57 : decode cX0_inverseOf 57 = .ok (.goto (-43), 3) := by decide +kernel
theorem dX0_inverseOf_60 : decode cX0_inverseOf 60 = .ok (.lload_n 2, 1) := by decide +kernel
theorem dX0_inverseOf_61 : decode cX0_inverseOf 61 = .ok (.lreturn, 1) := by decide +kernel
set_option maxRecDepth 20000 in
theorem ggX0_changedRightSide_X0_transformNumber : GoodIn wsX0_changedRightSide wsX0_transformNumber := goodIn_r _ [8, 9, 10, 11, 12, 13, 14, 15, 16, 17, 18, 19, 20, 21, 22] (by decide +kernel) (by decide +kernel)
set_option maxRecDepth 20000 in
theorem gX0_changedRightSide_X0_transformNumber : GoodIn wsX0_changedRightSide (wsV RX0 66 RX0 yX0_transformNumber wsX0_transformNumber) := goodIn_app (goodIn_of _ (by decide +kernel)) ggX0_changedRightSide_X0_transformNumber
theorem dX0_changedRightSide_0 : decode cX0_changedRightSide 0 = .ok (.lconst 0, 1) := by decide +kernel
theorem dX0_changedRightSide_1 : decode cX0_changedRightSide 1 = .ok (.lstore_n 2, 1) := by decide +kernel
theorem dX0_changedRightSide_2 : decode cX0_changedRightSide 2 = .ok (.iconst 0, 1) := by decide +kernel
theorem dX0_changedRightSide_3 : decode cX0_changedRightSide 3 = .ok (.istore 4, 2) := by decide +kernel
theorem dX0_changedRightSide_5 : decode cX0_changedRightSide 5 = .ok (.iload 4, 2) := by decide +kernel
theorem dX0_changedRightSide_7 : decode cX0_changedRightSide 7 = .ok (.aload_n 0, 1) := by decide +kernel
theorem dX0_changedRightSide_8 : decode cX0_changedRightSide 8 = .ok (.getfield 20, 3) := by decide +kernel
theorem dX0_changedRightSide_11 : decode cX0_changedRightSide 11 = .ok (.if_icmp .ge 35, 3) := by decide +kernel
theorem dX0_changedRightSide_14 : decode cX0_changedRightSide 14 = .ok (.lload_n 2, 1) := by decide +kernel
theorem dX0_changedRightSide_15 : decode cX0_changedRightSide 15 = .ok (.aload_n 0, 1) := by decide +kernel
theorem dX0_changedRightSide_16 : decode cX0_changedRightSide 16 = .ok (.iload_n 1, 1) := by decide +kernel
theorem dX0_changedRightSide_17 : decode cX0_changedRightSide 17 = .ok (.iload 4, 2) := by decide +kernel
theorem dX0_changedRightSide_19 : decode cX0_changedRightSide 19 = .ok (.invokevirtual 66, 3) := by decide +kernel
theorem dX0_changedRightSide_22 : decode cX0_changedRightSide 22 = .ok (.i2l, 1) := by decide +kernel
theorem dX0_changedRightSide_23 : decode cX0_changedRightSide 23 = .ok (.aload_n 0, 1) := by decide +kernel
theorem dX0_changedRightSide_24 : decode cX0_changedRightSide 24 = .ok (.getfield 33, 3) := by decide +kernel
theorem dX0_changedRightSide_27 : decode cX0_changedRightSide 27 = .ok (.iload 4, 2) := by decide +kernel
theorem dX0_changedRightSide_29 : decode cX0_changedRightSide 29 = .ok (.iaload, 1) := by decide +kernel
theorem dX0_changedRightSide_30 : decode cX0_changedRightSide 30 = .ok (.i2l, 1) := by decide +kernel
theorem dX0_changedRightSide_31 : decode cX0_changedRightSide 31 = .ok (.lmul, 1) := by decide +kernel
theorem dX0_changedRightSide_32 : decode cX0_changedRightSide 32 = .ok (.ladd, 1) := by decide +kernel
theorem dX0_changedRightSide_33 : decode cX0_changedRightSide 33 = .ok (.aload_n 0, 1) := by decide +kernel
theorem dX0_changedRightSide_34 : decode cX0_changedRightSide 34 = .ok (.getfield 16, 3) := by decide +kernel
theorem dX0_changedRightSide_37 : decode cX0_changedRightSide 37 = .ok (.i2l, 1) := by decide +kernel
theorem dX0_changedRightSide_38 : decode cX0_changedRightSide 38 = .ok (.lrem, 1) := by decide +kernel
theorem dX0_changedRightSide_39 : decode cX0_changedRightSide 39 = .ok (.lstore_n 2, 1) := by decide +kernel
theorem dX0_changedRightSide_40 : decode cX0_changedRightSide 40 = .ok (.iinc 4 1, 3) := by decide +kernel
theorem dX0_changedRightSide_43 : decode cX0_changedRightSide 43 = .ok (.goto (-38), 3) := by decide +kernel
theorem dX0_changedRightSide_46 : decode cX0_changedRightSide 46 = .ok (.lload_n 2, 1) := by decide +kernel
theorem dX0_changedRightSide_47 : decode cX0_changedRightSide 47 = .ok (.l2i, 1) := by decide +kernel
theorem dX0_changedRightSide_48 : decode cX0_changedRightSide 48 = .ok (.ireturn, 1) := by decide +kernel
theorem dX0_freeColumn_0 : decode cX0_freeColumn 0 = .ok (.iconst 0, 1) := by decide +kernel
theorem dX0_freeColumn_1 : decode cX0_freeColumn 1 = .ok (.istore_n 2, 1) := by decide +kernel
theorem dX0_freeColumn_2 : decode cX0_freeColumn 2 = .ok (.iconst 0, 1) := by decide +kernel
theorem dX0_freeColumn_3 : decode cX0_freeColumn 3 = .ok (.istore_n 3, 1) := by decide +kernel
theorem dX0_freeColumn_4 : decode cX0_freeColumn 4 = .ok (.iload_n 3, 1) := by decide +kernel
theorem dX0_freeColumn_5 : decode cX0_freeColumn 5 = .ok (.aload_n 0, 1) := by decide +kernel
theorem dX0_freeColumn_6 : decode cX0_freeColumn 6 = .ok (.getfield 23, 3) := by decide +kernel
theorem dX0_freeColumn_9 : decode cX0_freeColumn 9 = .ok (.if_icmp .ge 29, 3) := by decide +kernel
theorem dX0_freeColumn_12 : decode cX0_freeColumn 12 = .ok (.aload_n 0, 1) := by decide +kernel
theorem dX0_freeColumn_13 : decode cX0_freeColumn 13 = .ok (.getfield 39, 3) := by decide +kernel
theorem dX0_freeColumn_16 : decode cX0_freeColumn 16 = .ok (.iload_n 3, 1) := by decide +kernel
theorem dX0_freeColumn_17 : decode cX0_freeColumn 17 = .ok (.iaload, 1) := by decide +kernel
theorem dX0_freeColumn_18 : decode cX0_freeColumn 18 = .ok (.iconst (-1), 1) := by decide +kernel
theorem dX0_freeColumn_19 : decode cX0_freeColumn 19 = .ok (.if_icmp .ne 13, 3) := by decide +kernel
theorem dX0_freeColumn_22 : decode cX0_freeColumn 22 = .ok (.iload_n 2, 1) := by decide +kernel
theorem dX0_freeColumn_23 : decode cX0_freeColumn 23 = .ok (.iload_n 1, 1) := by decide +kernel
theorem dX0_freeColumn_24 : decode cX0_freeColumn 24 = .ok (.if_icmp .ne 5, 3) := by decide +kernel
theorem dX0_freeColumn_27 : decode cX0_freeColumn 27 = .ok (.iload_n 3, 1) := by decide +kernel
theorem dX0_freeColumn_28 : decode cX0_freeColumn 28 = .ok (.ireturn, 1) := by decide +kernel
theorem dX0_freeColumn_29 : decode cX0_freeColumn 29 = .ok (.iinc 2 1, 3) := by decide +kernel
theorem dX0_freeColumn_32 : decode cX0_freeColumn 32 = .ok (.iinc 3 1, 3) := by decide +kernel
theorem dX0_freeColumn_35 : decode cX0_freeColumn 35 = .ok (.goto (-31), 3) := by decide +kernel
theorem dX0_freeColumn_38 : decode cX0_freeColumn 38 = .ok (.iconst (-1), 1) := by decide +kernel
theorem dX0_freeColumn_39 : decode cX0_freeColumn 39 = .ok (.ireturn, 1) := by decide +kernel
set_option maxRecDepth 20000 in
theorem ggX1_init_X1_isPrime : GoodIn wsX1_init wsX1_isPrime := goodIn_r _ [18, 19] (by decide +kernel) (by decide +kernel)
set_option maxRecDepth 20000 in
theorem gX1_init_X1_isPrime : GoodIn wsX1_init (va_wsS RX1 37 yX1_isPrime wsX1_isPrime) := goodIn_app (goodIn_of _ (by decide +kernel)) ggX1_init_X1_isPrime
theorem dX1_init_0 : decode cX1_init 0 = .ok (.aload_n 0, 1) := by decide +kernel
theorem dX1_init_1 : decode cX1_init 1 = .ok (.invokespecial 1, 3) := by decide +kernel
theorem dX1_init_4 : decode cX1_init 4 = .ok (.aload_n 0, 1) := by decide +kernel
theorem dX1_init_5 : decode cX1_init 5 = .ok (.bipush 100, 2) := by decide +kernel
theorem dX1_init_7 : decode cX1_init 7 = .ok (.newarray .long, 2) := by decide +kernel
theorem dX1_init_9 : decode cX1_init 9 = .ok (.putfield 7, 3) := by decide +kernel
theorem dX1_init_12 : decode cX1_init 12 = .ok (.aload_n 0, 1) := by decide +kernel
theorem dX1_init_13 : decode cX1_init 13 = .ok (.bipush 10, 2) := by decide +kernel
theorem dX1_init_15 : decode cX1_init 15 = .ok (.newarray .long, 2) := by decide +kernel
theorem dX1_init_17 : decode cX1_init 17 = .ok (.putfield 13, 3) := by decide +kernel
theorem dX1_init_20 : decode cX1_init 20 = .ok (.aload_n 0, 1) := by decide +kernel
theorem dX1_init_21 : decode cX1_init 21 = .ok (.sipush 200, 3) := by decide +kernel
theorem dX1_init_24 : decode cX1_init 24 = .ok (.newarray .long, 2) := by decide +kernel
theorem dX1_init_26 : decode cX1_init 26 = .ok (.putfield 16, 3) := by decide +kernel
theorem dX1_init_29 : decode cX1_init 29 = .ok (.aload_n 0, 1) := by decide +kernel
theorem dX1_init_30 : decode cX1_init 30 = .ok (.bipush 10, 2) := by decide +kernel
theorem dX1_init_32 : decode cX1_init 32 = .ok (.newarray .int, 2) := by decide +kernel
theorem dX1_init_34 : decode cX1_init 34 = .ok (.putfield 19, 3) := by decide +kernel
theorem dX1_init_37 : decode cX1_init 37 = .ok (.aload_n 0, 1) := by decide +kernel
theorem dX1_init_38 : decode cX1_init 38 = .ok (.sipush 1024, 3) := by decide +kernel
theorem dX1_init_41 : decode cX1_init 41 = .ok (.newarray .long, 2) := by decide +kernel
theorem dX1_init_43 : decode cX1_init 43 = .ok (.putfield 23, 3) := by decide +kernel
theorem dX1_init_46 : decode cX1_init 46 = .ok (.aload_n 0, 1) := by decide +kernel
theorem dX1_init_47 : decode cX1_init 47 = .ok (.iload_n 1, 1) := by decide +kernel
theorem dX1_init_48 : decode cX1_init 48 = .ok (.i2l, 1) := by decide +kernel
theorem dX1_init_49 : decode cX1_init 49 = .ok (.putfield 26, 3) := by decide +kernel
theorem dX1_init_52 : decode cX1_init 52 = .ok (.aload_n 0, 1) := by decide +kernel
theorem dX1_init_53 : decode cX1_init 53 = .ok (.iload_n 2, 1) := by decide +kernel
theorem dX1_init_54 : decode cX1_init 54 = .ok (.putfield 30, 3) := by decide +kernel
theorem dX1_init_57 : decode cX1_init 57 = .ok (.aload_n 0, 1) := by decide +kernel
theorem dX1_init_58 : decode cX1_init 58 = .ok (.iload_n 3, 1) := by decide +kernel
theorem dX1_init_59 : decode cX1_init 59 = .ok (.putfield 34, 3) := by decide +kernel
theorem dX1_init_62 : decode cX1_init 62 = .ok (.aload_n 0, 1) := by decide +kernel
theorem dX1_init_63 : decode cX1_init 63 = .ok (.iload_n 1, 1) := by decide +kernel
theorem dX1_init_64 : decode cX1_init 64 = .ok (.invokestatic 37, 3) := by decide +kernel
theorem dX1_init_67 : decode cX1_init 67 = .ok (.ifCond .eq 27, 3) := by decide +kernel
theorem dX1_init_70 : decode cX1_init 70 = .ok (.iload_n 2, 1) := by decide +kernel
theorem dX1_init_71 : decode cX1_init 71 = .ok (.ifCond .le 23, 3) := by decide +kernel
theorem dX1_init_74 : decode cX1_init 74 = .ok (.iload_n 2, 1) := by decide +kernel
theorem dX1_init_75 : decode cX1_init 75 = .ok (.bipush 11, 2) := by decide +kernel
theorem dX1_init_77 : decode cX1_init 77 = .ok (.if_icmp .ge 17, 3) := by decide +kernel
theorem dX1_init_80 : decode cX1_init 80 = .ok (.iload_n 3, 1) := by decide +kernel
theorem dX1_init_81 : decode cX1_init 81 = .ok (.ifCond .le 13, 3) := by decide +kernel
theorem dX1_init_84 : decode cX1_init 84 = .ok (.iload_n 3, 1) := by decide +kernel
theorem dX1_init_85 : decode cX1_init 85 = .ok (.bipush 11, 2) := by decide +kernel
theorem dX1_init_87 : decode cX1_init 87 = .ok (.if_icmp .ge 7, 3) := by decide +kernel
theorem dX1_init_90 : decode cX1_init 90 = .ok (.iconst 1, 1) := by decide +kernel
theorem dX1_init_91 : decode cX1_init 91 = .ok (.goto 4, 3) := by decide +kernel
theorem dX1_init_94 : decode cX1_init 94 = .ok (.iconst 0, 1) := by decide +kernel
theorem dX1_init_95 : decode cX1_init 95 = .ok (.putfield 41, 3) := by decide +kernel
theorem dX1_init_98 : decode cX1_init 98 = .ok (.return_, 1) := by decide +kernel
theorem dX1_isPrime_0 : decode cX1_isPrime 0 = .ok (.iload_n 0, 1) := by decide +kernel
theorem dX1_isPrime_1 : decode cX1_isPrime 1 = .ok (.iconst 1, 1) := by decide +kernel
theorem dX1_isPrime_2 : decode cX1_isPrime 2 = .ok (.if_icmp .le 7, 3) := by decide +kernel
theorem dX1_isPrime_5 : decode cX1_isPrime 5 = .ok (.iconst 1, 1) := by decide +kernel
theorem dX1_isPrime_6 : decode cX1_isPrime 6 = .ok (.goto 4, 3) := by decide +kernel
theorem dX1_isPrime_9 : decode cX1_isPrime 9 = .ok (.iconst 0, 1) := by decide +kernel
theorem dX1_isPrime_10 : decode cX1_isPrime 10 = .ok (.istore_n 1, 1) := by decide +kernel
theorem dX1_isPrime_11 : decode cX1_isPrime 11 = .ok (.ldc2_w 48, 3) := by decide +kernel
theorem dX1_isPrime_14 : decode cX1_isPrime 14 = .ok (.lstore_n 2, 1) := by decide +kernel
theorem dX1_isPrime_15 : decode cX1_isPrime 15 = .ok (.iload_n 1, 1) := by decide +kernel
theorem dX1_isPrime_16 : decode cX1_isPrime 16 = .ok (.ifCond .eq 34, 3) := by decide +kernel
theorem dX1_isPrime_19 : decode cX1_isPrime 19 = .ok (.lload_n 2, 1) := by decide +kernel
theorem dX1_isPrime_20 : decode cX1_isPrime 20 = .ok (.lload_n 2, 1) := by decide +kernel
theorem dX1_isPrime_21 : decode cX1_isPrime 21 = .ok (.lmul, 1) := by decide +kernel
theorem dX1_isPrime_22 : decode cX1_isPrime 22 = .ok (.iload_n 0, 1) := by decide +kernel
theorem dX1_isPrime_23 : decode cX1_isPrime 23 = .ok (.i2l, 1) := by decide +kernel
theorem dX1_isPrime_24 : decode cX1_isPrime 24 = .ok (.lcmp, 1) := by decide +kernel
theorem dX1_isPrime_25 : decode cX1_isPrime 25 = .ok (.ifCond .gt 25, 3) := by decide +kernel
theorem dX1_isPrime_28 : decode cX1_isPrime 28 = .ok (.iload_n 0, 1) := by decide +kernel
theorem dX1_isPrime_29 : decode cX1_isPrime 29 = .ok (.i2l, 1) := by decide +kernel
theorem dX1_isPrime_30 : decode cX1_isPrime 30 = .ok (.lload_n 2, 1) := by decide +kernel
theorem dX1_isPrime_31 : decode cX1_isPrime 31 = .ok (.lrem, 1) := by decide +kernel
theorem dX1_isPrime_32 : decode cX1_isPrime 32 = .ok (.lconst 0, 1) := by decide +kernel
theorem dX1_isPrime_33 : decode cX1_isPrime 33 = .ok (.lcmp, 1) := by decide +kernel
theorem dX1_isPrime_34 : decode cX1_isPrime 34 = .ok (.ifCond .eq 7, 3) := by decide +kernel
theorem dX1_isPrime_37 : decode cX1_isPrime 37 = .ok (.iconst 1, 1) := by decide +kernel
theorem dX1_isPrime_38 : decode cX1_isPrime 38 = .ok (.goto 4, 3) := by decide +kernel
theorem dX1_isPrime_41 : decode cX1_isPrime 41 = .ok (.iconst 0, 1) := by decide +kernel
theorem dX1_isPrime_42 : decode cX1_isPrime 42 = .ok (.istore_n 1, 1) := by decide +kernel
theorem dX1_isPrime_43 : decode cX1_isPrime 43 = .ok (.lload_n 2, 1) := by decide +kernel
theorem dX1_isPrime_44 : decode cX1_isPrime 44 = .ok (.lconst 1, 1) := by decide +kernel
theorem dX1_isPrime_45 : decode cX1_isPrime 45 = .ok (.ladd, 1) := by decide +kernel
theorem dX1_isPrime_46 : decode cX1_isPrime 46 = .ok (.lstore_n 2, 1) := by decide +kernel
theorem dX1_isPrime_47 : decode cX1_isPrime 47 = .ok (.goto (-32), 3) := by decide +kernel
theorem dX1_isPrime_50 : decode cX1_isPrime 50 = .ok (.iload_n 1, 1) := by decide +kernel
theorem dX1_isPrime_51 : decode cX1_isPrime 51 = .ok (.ireturn, 1) := by decide +kernel
theorem dX1_isPlace_0 : decode cX1_isPlace 0 = .ok (.aload_n 0, 1) := by decide +kernel
theorem dX1_isPlace_1 : decode cX1_isPlace 1 = .ok (.getfield 41, 3) := by decide +kernel
theorem dX1_isPlace_4 : decode cX1_isPlace 4 = .ok (.ifCond .eq 31, 3) := by decide +kernel
theorem dX1_isPlace_7 : decode cX1_isPlace 7 = .ok (.iload_n 1, 1) := by decide +kernel
theorem dX1_isPlace_8 : decode cX1_isPlace 8 = .ok (.ifCond .lt 27, 3) := by decide +kernel
theorem dX1_isPlace_11 : decode cX1_isPlace 11 = .ok (.iload_n 1, 1) := by decide +kernel
theorem dX1_isPlace_12 : decode cX1_isPlace 12 = .ok (.aload_n 0, 1) := by decide +kernel
theorem dX1_isPlace_13 : decode cX1_isPlace 13 = .ok (.getfield 30, 3) := by decide +kernel
theorem dX1_isPlace_16 : decode cX1_isPlace 16 = .ok (.if_icmp .ge 19, 3) := by decide +kernel
theorem dX1_isPlace_19 : decode cX1_isPlace 19 = .ok (.iload_n 2, 1) := by decide +kernel
theorem dX1_isPlace_20 : decode cX1_isPlace 20 = .ok (.ifCond .lt 15, 3) := by decide +kernel
theorem dX1_isPlace_23 : decode cX1_isPlace 23 = .ok (.iload_n 2, 1) := by decide +kernel
theorem dX1_isPlace_24 : decode cX1_isPlace 24 = .ok (.aload_n 0, 1) := by decide +kernel
theorem dX1_isPlace_25 : decode cX1_isPlace 25 = .ok (.getfield 34, 3) := by decide +kernel
theorem dX1_isPlace_28 : decode cX1_isPlace 28 = .ok (.if_icmp .ge 7, 3) := by decide +kernel
theorem dX1_isPlace_31 : decode cX1_isPlace 31 = .ok (.iconst 1, 1) := by decide +kernel
theorem dX1_isPlace_32 : decode cX1_isPlace 32 = .ok (.goto 4, 3) := by decide +kernel
theorem dX1_isPlace_35 : decode cX1_isPlace 35 = .ok (.iconst 0, 1) := by decide +kernel
theorem dX1_isPlace_36 : decode cX1_isPlace 36 = .ok (.ireturn, 1) := by decide +kernel
set_option maxRecDepth 20000 in
theorem ggX1_set_X1_isPlace : GoodIn wsX1_set wsX1_isPlace := goodIn_r _ [9, 10, 11, 12, 13, 14, 15, 16, 17, 18, 19, 20, 21, 22, 23, 24] (by decide +kernel) (by decide +kernel)
set_option maxRecDepth 20000 in
theorem gX1_set_X1_isPlace : GoodIn wsX1_set (wsV RX1 50 RX1 yX1_isPlace wsX1_isPlace) := goodIn_app (goodIn_of _ (by decide +kernel)) ggX1_set_X1_isPlace
theorem dX1_set_0 : decode cX1_set 0 = .ok (.aload_n 0, 1) := by decide +kernel
theorem dX1_set_1 : decode cX1_set 1 = .ok (.iconst 0, 1) := by decide +kernel
theorem dX1_set_2 : decode cX1_set 2 = .ok (.putfield 45, 3) := by decide +kernel
theorem dX1_set_5 : decode cX1_set 5 = .ok (.aload_n 0, 1) := by decide +kernel
theorem dX1_set_6 : decode cX1_set 6 = .ok (.iload_n 1, 1) := by decide +kernel
theorem dX1_set_7 : decode cX1_set 7 = .ok (.iload_n 2, 1) := by decide +kernel
theorem dX1_set_8 : decode cX1_set 8 = .ok (.invokevirtual 50, 3) := by decide +kernel
theorem dX1_set_11 : decode cX1_set 11 = .ok (.ifCond .eq 7, 3) := by decide +kernel
theorem dX1_set_14 : decode cX1_set 14 = .ok (.iload_n 3, 1) := by decide +kernel
theorem dX1_set_15 : decode cX1_set 15 = .ok (.ifCond .ge 5, 3) := by decide +kernel
theorem dX1_set_18 : decode cX1_set 18 = .ok (.iconst 0, 1) := by decide +kernel
theorem dX1_set_19 : decode cX1_set 19 = .ok (.ireturn, 1) := by decide +kernel
theorem dX1_set_20 : decode cX1_set 20 = .ok (.aload_n 0, 1) := by decide +kernel
theorem dX1_set_21 : decode cX1_set 21 = .ok (.getfield 7, 3) := by decide +kernel
theorem dX1_set_24 : decode cX1_set 24 = .ok (.bipush 10, 2) := by decide +kernel
theorem dX1_set_26 : decode cX1_set 26 = .ok (.iload_n 1, 1) := by decide +kernel
theorem dX1_set_27 : decode cX1_set 27 = .ok (.imul, 1) := by decide +kernel
theorem dX1_set_28 : decode cX1_set 28 = .ok (.iload_n 2, 1) := by decide +kernel
theorem dX1_set_29 : decode cX1_set 29 = .ok (.iadd, 1) := by decide +kernel
theorem dX1_set_30 : decode cX1_set 30 = .ok (.iload_n 3, 1) := by decide +kernel
theorem dX1_set_31 : decode cX1_set 31 = .ok (.i2l, 1) := by decide +kernel
theorem dX1_set_32 : decode cX1_set 32 = .ok (.aload_n 0, 1) := by decide +kernel
theorem dX1_set_33 : decode cX1_set 33 = .ok (.getfield 26, 3) := by decide +kernel
theorem dX1_set_36 : decode cX1_set 36 = .ok (.lrem, 1) := by decide +kernel
theorem dX1_set_37 : decode cX1_set 37 = .ok (.lastore, 1) := by decide +kernel
theorem dX1_set_38 : decode cX1_set 38 = .ok (.aload_n 0, 1) := by decide +kernel
theorem dX1_set_39 : decode cX1_set 39 = .ok (.iconst 0, 1) := by decide +kernel
theorem dX1_set_40 : decode cX1_set 40 = .ok (.putfield 54, 3) := by decide +kernel
theorem dX1_set_43 : decode cX1_set 43 = .ok (.iconst 1, 1) := by decide +kernel
theorem dX1_set_44 : decode cX1_set 44 = .ok (.ireturn, 1) := by decide +kernel
set_option maxRecDepth 20000 in
theorem ggX1_get_X1_isPlace : GoodIn wsX1_get wsX1_isPlace := goodIn_r _ [7, 8, 9, 10, 11, 12, 13, 14, 15, 16, 17, 18, 19, 20, 21, 22] (by decide +kernel) (by decide +kernel)
set_option maxRecDepth 20000 in
theorem gX1_get_X1_isPlace : GoodIn wsX1_get (wsV RX1 50 RX1 yX1_isPlace wsX1_isPlace) := goodIn_app (goodIn_of _ (by decide +kernel)) ggX1_get_X1_isPlace
theorem dX1_get_0 : decode cX1_get 0 = .ok (.aload_n 0, 1) := by decide +kernel
theorem dX1_get_1 : decode cX1_get 1 = .ok (.iconst 0, 1) := by decide +kernel
theorem dX1_get_2 : decode cX1_get 2 = .ok (.putfield 45, 3) := by decide +kernel
theorem dX1_get_5 : decode cX1_get 5 = .ok (.aload_n 0, 1) := by decide +kernel
theorem dX1_get_6 : decode cX1_get 6 = .ok (.iload_n 1, 1) := by decide +kernel
theorem dX1_get_7 : decode cX1_get 7 = .ok (.iload_n 2, 1) := by decide +kernel
theorem dX1_get_8 : decode cX1_get 8 = .ok (.invokevirtual 50, 3) := by decide +kernel
theorem dX1_get_11 : decode cX1_get 11 = .ok (.ifCond .eq 18, 3) := by decide +kernel
theorem dX1_get_14 : decode cX1_get 14 = .ok (.aload_n 0, 1) := by decide +kernel
theorem dX1_get_15 : decode cX1_get 15 = .ok (.getfield 7, 3) := by decide +kernel
theorem dX1_get_18 : decode cX1_get 18 = .ok (.bipush 10, 2) := by decide +kernel
theorem dX1_get_20 : decode cX1_get 20 = .ok (.iload_n 1, 1) := by decide +kernel
theorem dX1_get_21 : decode cX1_get 21 = .ok (.imul, 1) := by decide +kernel
theorem dX1_get_22 : decode cX1_get 22 = .ok (.iload_n 2, 1) := by decide +kernel
theorem dX1_get_23 : decode cX1_get 23 = .ok (.iadd, 1) := by decide +kernel
theorem dX1_get_24 : decode cX1_get 24 = .ok (.laload, 1) := by decide +kernel
theorem dX1_get_25 : decode cX1_get 25 = .ok (.l2i, 1) := by decide +kernel
theorem dX1_get_26 : decode cX1_get 26 = .ok (.goto 4, 3) := by decide +kernel
theorem dX1_get_29 : decode cX1_get 29 = .ok (.iconst (-1), 1) := by decide +kernel
theorem dX1_get_30 : decode cX1_get 30 = .ok (.ireturn, 1) := by decide +kernel
set_option maxRecDepth 20000 in
theorem ggX1_setRhs_X1_isPlace : GoodIn wsX1_setRhs wsX1_isPlace := goodIn_r _ [8, 9, 10, 11, 12, 13, 14, 15, 16, 17, 18, 19, 20, 21, 22, 23] (by decide +kernel) (by decide +kernel)
set_option maxRecDepth 20000 in
theorem gX1_setRhs_X1_isPlace : GoodIn wsX1_setRhs (wsV RX1 50 RX1 yX1_isPlace wsX1_isPlace) := goodIn_app (goodIn_of _ (by decide +kernel)) ggX1_setRhs_X1_isPlace
theorem dX1_setRhs_0 : decode cX1_setRhs 0 = .ok (.aload_n 0, 1) := by decide +kernel
theorem dX1_setRhs_1 : decode cX1_setRhs 1 = .ok (.iconst 0, 1) := by decide +kernel
theorem dX1_setRhs_2 : decode cX1_setRhs 2 = .ok (.putfield 45, 3) := by decide +kernel
theorem dX1_setRhs_5 : decode cX1_setRhs 5 = .ok (.aload_n 0, 1) := by decide +kernel
theorem dX1_setRhs_6 : decode cX1_setRhs 6 = .ok (.iload_n 1, 1) := by decide +kernel
theorem dX1_setRhs_7 : decode cX1_setRhs 7 = .ok (.iconst 0, 1) := by decide +kernel
theorem dX1_setRhs_8 : decode cX1_setRhs 8 = .ok (.invokevirtual 50, 3) := by decide +kernel
theorem dX1_setRhs_11 : decode cX1_setRhs 11 = .ok (.ifCond .eq 7, 3) := by decide +kernel
theorem dX1_setRhs_14 : decode cX1_setRhs 14 = .ok (.iload_n 2, 1) := by decide +kernel
theorem dX1_setRhs_15 : decode cX1_setRhs 15 = .ok (.ifCond .ge 5, 3) := by decide +kernel
theorem dX1_setRhs_18 : decode cX1_setRhs 18 = .ok (.iconst 0, 1) := by decide +kernel
theorem dX1_setRhs_19 : decode cX1_setRhs 19 = .ok (.ireturn, 1) := by decide +kernel
theorem dX1_setRhs_20 : decode cX1_setRhs 20 = .ok (.aload_n 0, 1) := by decide +kernel
theorem dX1_setRhs_21 : decode cX1_setRhs 21 = .ok (.getfield 13, 3) := by decide +kernel
theorem dX1_setRhs_24 : decode cX1_setRhs 24 = .ok (.iload_n 1, 1) := by decide +kernel
theorem dX1_setRhs_25 : decode cX1_setRhs 25 = .ok (.iload_n 2, 1) := by decide +kernel
theorem dX1_setRhs_26 : decode cX1_setRhs 26 = .ok (.i2l, 1) := by decide +kernel
theorem dX1_setRhs_27 : decode cX1_setRhs 27 = .ok (.aload_n 0, 1) := by decide +kernel
theorem dX1_setRhs_28 : decode cX1_setRhs 28 = .ok (.getfield 26, 3) := by decide +kernel
theorem dX1_setRhs_31 : decode cX1_setRhs 31 = .ok (.lrem, 1) := by decide +kernel
theorem dX1_setRhs_32 : decode cX1_setRhs 32 = .ok (.lastore, 1) := by decide +kernel
theorem dX1_setRhs_33 : decode cX1_setRhs 33 = .ok (.iconst 1, 1) := by decide +kernel
theorem dX1_setRhs_34 : decode cX1_setRhs 34 = .ok (.ireturn, 1) := by decide +kernel
theorem dX1_power_0 : decode cX1_power 0 = .ok (.lconst 1, 1) := by decide +kernel
theorem dX1_power_1 : decode cX1_power 1 = .ok (.aload_n 0, 1) := by decide +kernel
theorem dX1_power_2 : decode cX1_power 2 = .ok (.getfield 26, 3) := by decide +kernel
theorem dX1_power_5 : decode cX1_power 5 = .ok (.lrem, 1) := by decide +kernel
theorem dX1_power_6 : decode cX1_power 6 = .ok (.lstore 5, 2) := by decide +kernel
theorem dX1_power_8 : decode cX1_power 8 = .ok (.bipush 30, 2) := by decide +kernel
theorem dX1_power_10 : decode cX1_power 10 = .ok (.istore 7, 2) := by decide +kernel
theorem dX1_power_12 : decode cX1_power 12 = .ok (.iload 7, 2) := by decide +kernel
theorem dX1_power_14 : decode cX1_power 14 = .ok (.ifCond .lt 48, 3) := by decide +kernel
theorem dX1_power_17 : decode cX1_power 17 = .ok (.lload 5, 2) := by decide +kernel
theorem dX1_power_19 : decode cX1_power 19 = .ok (.lload 5, 2) := by decide +kernel
theorem dX1_power_21 : decode cX1_power 21 = .ok (.lmul, 1) := by decide +kernel
theorem dX1_power_22 : decode cX1_power 22 = .ok (.aload_n 0, 1) := by decide +kernel
theorem dX1_power_23 : decode cX1_power 23 = .ok (.getfield 26, 3) := by decide +kernel
theorem dX1_power_26 : decode cX1_power 26 = .ok (.lrem, 1) := by decide +kernel
theorem dX1_power_27 : decode cX1_power 27 = .ok (.lstore 5, 2) := by decide +kernel
theorem dX1_power_29 : decode cX1_power 29 = .ok (.lload_n 3, 1) := by decide +kernel
theorem dX1_power_30 : decode cX1_power 30 = .ok (.iload 7, 2) := by decide +kernel
theorem dX1_power_32 : decode cX1_power 32 = .ok (.lshr, 1) := by decide +kernel
theorem dX1_power_33 : decode cX1_power 33 = .ok (.lconst 1, 1) := by decide +kernel
