theorem dX1_isSolvable_4 : decode cX1_isSolvable 4 = .ok (.istore_n 1, 1) := by decide +kernel
theorem dX1_isSolvable_5 : decode cX1_isSolvable 5 = .ok (.aload_n 0, 1) := by decide +kernel
theorem dX1_isSolvable_6 : decode cX1_isSolvable 6 = .ok (.getfield 57, 3) := by decide +kernel
theorem dX1_isSolvable_9 : decode cX1_isSolvable 9 = .ok (.istore_n 2, 1) := by decide +kernel
theorem dX1_isSolvable_10 : decode cX1_isSolvable 10 = .ok (.iload_n 2, 1) := by decide +kernel
theorem dX1_isSolvable_11 : decode cX1_isSolvable 11 = .ok (.aload_n 0, 1) := by decide +kernel
theorem dX1_isSolvable_12 : decode cX1_isSolvable 12 = .ok (.getfield 30, 3) := by decide +kernel
theorem dX1_isSolvable_15 : decode cX1_isSolvable 15 = .ok (.if_icmp .ge 29, 3) := by decide +kernel
theorem dX1_isSolvable_18 : decode cX1_isSolvable 18 = .ok (.iload_n 1, 1) := by decide +kernel
theorem dX1_isSolvable_19 : decode cX1_isSolvable 19 = .ok (.ifCond .eq 25, 3) := by decide +kernel
theorem dX1_isSolvable_22 : decode cX1_isSolvable 22 = .ok (.aload_n 0, 1) := by decide +kernel
theorem dX1_isSolvable_23 : decode cX1_isSolvable 23 = .ok (.iload_n 2, 1) := by decide +kernel
theorem dX1_isSolvable_24 : decode cX1_isSolvable 24 = .ok (.invokevirtual 79, 3) := by decide +kernel
theorem dX1_isSolvable_27 : decode cX1_isSolvable 27 = .ok (.lconst 0, 1) := by decide +kernel
theorem dX1_isSolvable_28 : decode cX1_isSolvable 28 = .ok (.lcmp, 1) := by decide +kernel
theorem dX1_isSolvable_29 : decode cX1_isSolvable 29 = .ok (.ifCond .ne 7, 3) := by decide +kernel
theorem dX1_isSolvable_32 : decode cX1_isSolvable 32 = .ok (.iconst 1, 1) := by decide +kernel
theorem dX1_isSolvable_33 : decode cX1_isSolvable 33 = .ok (.goto 4, 3) := by decide +kernel
theorem dX1_isSolvable_36 : decode cX1_isSolvable 36 = .ok (.iconst 0, 1) := by decide +kernel
theorem dX1_isSolvable_37 : decode cX1_isSolvable 37 = .ok (.istore_n 1, 1) := by decide +kernel
theorem dX1_isSolvable_38 : decode cX1_isSolvable 38 = .ok (.iinc 2 1, 3) := by decide +kernel
theorem dX1_isSolvable_41 : decode cX1_isSolvable 41 = .ok (.goto (-31), 3) := by decide +kernel
theorem dX1_isSolvable_44 : decode cX1_isSolvable 44 = .ok (.iload_n 1, 1) := by decide +kernel
theorem dX1_isSolvable_45 : decode cX1_isSolvable 45 = .ok (.ireturn, 1) := by decide +kernel
set_option maxRecDepth 20000 in
theorem ggX1_solvable_X1_isSolvable : GoodIn wsX1_solvable wsX1_isSolvable := goodIn_r _ [6, 7, 8, 9, 10, 11, 12, 5, 13, 14, 15, 16, 17, 18, 19, 20, 21, 22, 23, 24, 25, 26, 27, 28] (by decide +kernel) (by decide +kernel)
set_option maxRecDepth 20000 in
theorem gX1_solvable_X1_isSolvable : GoodIn wsX1_solvable (wsV RX1 83 RX1 yX1_isSolvable wsX1_isSolvable) := goodIn_app (goodIn_of _ (by decide +kernel)) ggX1_solvable_X1_isSolvable
theorem dX1_solvable_0 : decode cX1_solvable 0 = .ok (.aload_n 0, 1) := by decide +kernel
theorem dX1_solvable_1 : decode cX1_solvable 1 = .ok (.iconst 0, 1) := by decide +kernel
theorem dX1_solvable_2 : decode cX1_solvable 2 = .ok (.putfield 45, 3) := by decide +kernel
theorem dX1_solvable_5 : decode cX1_solvable 5 = .ok (.aload_n 0, 1) := by decide +kernel
theorem dX1_solvable_6 : decode cX1_solvable 6 = .ok (.invokevirtual 83, 3) := by decide +kernel
theorem dX1_solvable_9 : decode cX1_solvable 9 = .ok (.ireturn, 1) := by decide +kernel
theorem dX1_rowOf_0 : decode cX1_rowOf 0 = .ok (.iconst (-1), 1) := by decide +kernel
theorem dX1_rowOf_1 : decode cX1_rowOf 1 = .ok (.istore_n 2, 1) := by decide +kernel
theorem dX1_rowOf_2 : decode cX1_rowOf 2 = .ok (.iconst 0, 1) := by decide +kernel
theorem dX1_rowOf_3 : decode cX1_rowOf 3 = .ok (.istore_n 3, 1) := by decide +kernel
theorem dX1_rowOf_4 : decode cX1_rowOf 4 = .ok (.iload_n 3, 1) := by decide +kernel
theorem dX1_rowOf_5 : decode cX1_rowOf 5 = .ok (.aload_n 0, 1) := by decide +kernel
theorem dX1_rowOf_6 : decode cX1_rowOf 6 = .ok (.getfield 57, 3) := by decide +kernel
theorem dX1_rowOf_9 : decode cX1_rowOf 9 = .ok (.if_icmp .ge 25, 3) := by decide +kernel
theorem dX1_rowOf_12 : decode cX1_rowOf 12 = .ok (.aload_n 0, 1) := by decide +kernel
theorem dX1_rowOf_13 : decode cX1_rowOf 13 = .ok (.getfield 19, 3) := by decide +kernel
theorem dX1_rowOf_16 : decode cX1_rowOf 16 = .ok (.iload_n 3, 1) := by decide +kernel
theorem dX1_rowOf_17 : decode cX1_rowOf 17 = .ok (.iaload, 1) := by decide +kernel
theorem dX1_rowOf_18 : decode cX1_rowOf 18 = .ok (.iload_n 1, 1) := by decide +kernel
theorem dX1_rowOf_19 : decode cX1_rowOf 19 = .ok (.if_icmp .ne 7, 3) := by decide +kernel
theorem dX1_rowOf_22 : decode cX1_rowOf 22 = .ok (.iload_n 3, 1) := by decide +kernel
theorem dX1_rowOf_23 : decode cX1_rowOf 23 = .ok (.goto 4, 3) := by decide +kernel
theorem dX1_rowOf_26 : decode cX1_rowOf 26 = .ok (.iload_n 2, 1) := by decide +kernel
theorem dX1_rowOf_27 : decode cX1_rowOf 27 = .ok (.istore_n 2, 1) := by decide +kernel
theorem dX1_rowOf_28 : decode cX1_rowOf 28 = .ok (.iinc 3 1, 3) := by decide +kernel
theorem dX1_rowOf_31 : decode cX1_rowOf 31 = .ok (.goto (-27), 3) := by decide +kernel
theorem dX1_rowOf_34 : decode cX1_rowOf 34 = .ok (.iload_n 2, 1) := by decide +kernel
theorem dX1_rowOf_35 : decode cX1_rowOf 35 = .ok (.ireturn, 1) := by decide +kernel
set_option maxRecDepth 20000 in
theorem ggX1_solution_X1_isSolvable : GoodIn wsX1_solution wsX1_isSolvable := goodIn_r _ [7, 8, 9, 10, 11, 12, 13, 6, 14, 15, 16, 17, 23, 24, 25, 26, 27, 28, 29, 30, 31, 32, 33, 34] (by decide +kernel) (by decide +kernel)
set_option maxRecDepth 20000 in
theorem gX1_solution_X1_isSolvable : GoodIn wsX1_solution (wsV RX1 83 RX1 yX1_isSolvable wsX1_isSolvable) := goodIn_app (goodIn_of _ (by decide +kernel)) ggX1_solution_X1_isSolvable
set_option maxRecDepth 20000 in
theorem ggX1_solution_X1_rowOf : GoodIn wsX1_solution wsX1_rowOf := goodIn_r _ [21, 9, 22, 23, 24, 25, 26, 27, 28, 29, 30, 31, 32, 33, 34] (by decide +kernel) (by decide +kernel)
set_option maxRecDepth 20000 in
theorem gX1_solution_X1_rowOf : GoodIn wsX1_solution (wsV RX1 87 RX1 yX1_rowOf wsX1_rowOf) := goodIn_app (goodIn_of _ (by decide +kernel)) ggX1_solution_X1_rowOf
set_option maxRecDepth 20000 in
theorem ggX1_solution_X1_changed : GoodIn wsX1_solution wsX1_changed := goodIn_r _ [14, 10, 15, 16, 17, 23, 24, 25, 26, 27, 28, 29, 30, 31, 32, 33, 34] (by decide +kernel) (by decide +kernel)
set_option maxRecDepth 20000 in
theorem gX1_solution_X1_changed : GoodIn wsX1_solution (wsV RX1 79 RX1 yX1_changed wsX1_changed) := goodIn_app (goodIn_of _ (by decide +kernel)) ggX1_solution_X1_changed
theorem dX1_solution_0 : decode cX1_solution 0 = .ok (.aload_n 0, 1) := by decide +kernel
theorem dX1_solution_1 : decode cX1_solution 1 = .ok (.iconst 0, 1) := by decide +kernel
theorem dX1_solution_2 : decode cX1_solution 2 = .ok (.putfield 45, 3) := by decide +kernel
theorem dX1_solution_5 : decode cX1_solution 5 = .ok (.aload_n 0, 1) := by decide +kernel
theorem dX1_solution_6 : decode cX1_solution 6 = .ok (.invokevirtual 83, 3) := by decide +kernel
theorem dX1_solution_9 : decode cX1_solution 9 = .ok (.ifCond .eq 15, 3) := by decide +kernel
theorem dX1_solution_12 : decode cX1_solution 12 = .ok (.iload_n 1, 1) := by decide +kernel
theorem dX1_solution_13 : decode cX1_solution 13 = .ok (.ifCond .lt 11, 3) := by decide +kernel
theorem dX1_solution_16 : decode cX1_solution 16 = .ok (.iload_n 1, 1) := by decide +kernel
theorem dX1_solution_17 : decode cX1_solution 17 = .ok (.aload_n 0, 1) := by decide +kernel
theorem dX1_solution_18 : decode cX1_solution 18 = .ok (.getfield 34, 3) := by decide +kernel
theorem dX1_solution_21 : decode cX1_solution 21 = .ok (.if_icmp .lt 5, 3) := by decide +kernel
theorem dX1_solution_24 : decode cX1_solution 24 = .ok (.iconst (-1), 1) := by decide +kernel
theorem dX1_solution_25 : decode cX1_solution 25 = .ok (.ireturn, 1) := by decide +kernel
theorem dX1_solution_26 : decode cX1_solution 26 = .ok (.aload_n 0, 1) := by decide +kernel
theorem dX1_solution_27 : decode cX1_solution 27 = .ok (.iload_n 1, 1) := by decide +kernel
theorem dX1_solution_28 : decode cX1_solution 28 = .ok (.invokevirtual 87, 3) := by decide +kernel
theorem dX1_solution_31 : decode cX1_solution 31 = .ok (.istore_n 2, 1) := by decide +kernel
theorem dX1_solution_32 : decode cX1_solution 32 = .ok (.iload_n 2, 1) := by decide +kernel
theorem dX1_solution_33 : decode cX1_solution 33 = .ok (.ifCond .ge 7, 3) := by decide +kernel
theorem dX1_solution_36 : decode cX1_solution 36 = .ok (.iconst 0, 1) := by decide +kernel
theorem dX1_solution_37 : decode cX1_solution 37 = .ok (.goto 9, 3) := by decide +kernel
theorem dX1_solution_40 : decode cX1_solution 40 = .ok (.aload_n 0, 1) := by decide +kernel
theorem dX1_solution_41 : decode cX1_solution 41 = .ok (.iload_n 2, 1) := by decide +kernel
theorem dX1_solution_42 : decode cX1_solution 42 = .ok (.invokevirtual 79, 3) := by decide +kernel
theorem dX1_solution_45 : decode cX1_solution 45 = .ok (.l2i, 1) := by decide +kernel
theorem dX1_solution_46 : decode cX1_solution 46 = .ok (.ireturn, 1) := by decide +kernel
theorem dX1_kernelDim_0 : decode cX1_kernelDim 0 = .ok (.aload_n 0, 1) := by decide +kernel
theorem dX1_kernelDim_1 : decode cX1_kernelDim 1 = .ok (.iconst 0, 1) := by decide +kernel
theorem dX1_kernelDim_2 : decode cX1_kernelDim 2 = .ok (.putfield 45, 3) := by decide +kernel
theorem dX1_kernelDim_5 : decode cX1_kernelDim 5 = .ok (.aload_n 0, 1) := by decide +kernel
theorem dX1_kernelDim_6 : decode cX1_kernelDim 6 = .ok (.getfield 54, 3) := by decide +kernel
theorem dX1_kernelDim_9 : decode cX1_kernelDim 9 = .ok (.ifCond .eq 15, 3) := by decide +kernel
theorem dX1_kernelDim_12 : decode cX1_kernelDim 12 = .ok (.aload_n 0, 1) := by decide +kernel
theorem dX1_kernelDim_13 : decode cX1_kernelDim 13 = .ok (.getfield 34, 3) := by decide +kernel
theorem dX1_kernelDim_16 : decode cX1_kernelDim 16 = .ok (.aload_n 0, 1) := by decide +kernel
theorem dX1_kernelDim_17 : decode cX1_kernelDim 17 = .ok (.getfield 57, 3) := by decide +kernel
theorem dX1_kernelDim_20 : decode cX1_kernelDim 20 = .ok (.isub, 1) := by decide +kernel
theorem dX1_kernelDim_21 : decode cX1_kernelDim 21 = .ok (.goto 4, 3) := by decide +kernel
theorem dX1_kernelDim_24 : decode cX1_kernelDim 24 = .ok (.iconst (-1), 1) := by decide +kernel
theorem dX1_kernelDim_25 : decode cX1_kernelDim 25 = .ok (.ireturn, 1) := by decide +kernel
set_option maxRecDepth 20000 in
theorem ggX1_kernelAt_X1_rowOf : GoodIn wsX1_kernelAt wsX1_rowOf := goodIn_r _ [11, 4, 12, 13, 14, 15, 16, 17, 18, 19, 20, 21, 22, 23, 24] (by decide +kernel) (by decide +kernel)
set_option maxRecDepth 20000 in
theorem gX1_kernelAt_X1_rowOf : GoodIn wsX1_kernelAt (wsV RX1 87 RX1 yX1_rowOf wsX1_rowOf) := goodIn_app (goodIn_of _ (by decide +kernel)) ggX1_kernelAt_X1_rowOf
theorem dX1_kernelAt_0 : decode cX1_kernelAt 0 = .ok (.aload_n 0, 1) := by decide +kernel
theorem dX1_kernelAt_1 : decode cX1_kernelAt 1 = .ok (.iconst 0, 1) := by decide +kernel
theorem dX1_kernelAt_2 : decode cX1_kernelAt 2 = .ok (.putfield 45, 3) := by decide +kernel
theorem dX1_kernelAt_5 : decode cX1_kernelAt 5 = .ok (.aload_n 0, 1) := by decide +kernel
theorem dX1_kernelAt_6 : decode cX1_kernelAt 6 = .ok (.getfield 54, 3) := by decide +kernel
theorem dX1_kernelAt_9 : decode cX1_kernelAt 9 = .ok (.ifCond .eq 32, 3) := by decide +kernel
theorem dX1_kernelAt_12 : decode cX1_kernelAt 12 = .ok (.iload_n 1, 1) := by decide +kernel
theorem dX1_kernelAt_13 : decode cX1_kernelAt 13 = .ok (.ifCond .lt 28, 3) := by decide +kernel
theorem dX1_kernelAt_16 : decode cX1_kernelAt 16 = .ok (.iload_n 1, 1) := by decide +kernel
theorem dX1_kernelAt_17 : decode cX1_kernelAt 17 = .ok (.aload_n 0, 1) := by decide +kernel
theorem dX1_kernelAt_18 : decode cX1_kernelAt 18 = .ok (.getfield 34, 3) := by decide +kernel
theorem dX1_kernelAt_21 : decode cX1_kernelAt 21 = .ok (.aload_n 0, 1) := by decide +kernel
theorem dX1_kernelAt_22 : decode cX1_kernelAt 22 = .ok (.getfield 57, 3) := by decide +kernel
theorem dX1_kernelAt_25 : decode cX1_kernelAt 25 = .ok (.isub, 1) := by decide +kernel
theorem dX1_kernelAt_26 : decode cX1_kernelAt 26 = .ok (.if_icmp .ge 15, 3) := by decide +kernel
theorem dX1_kernelAt_29 : decode cX1_kernelAt 29 = .ok (.iload_n 2, 1) := by decide +kernel
theorem dX1_kernelAt_30 : decode cX1_kernelAt 30 = .ok (.ifCond .lt 11, 3) := by decide +kernel
theorem dX1_kernelAt_33 : decode cX1_kernelAt 33 = .ok (.iload_n 2, 1) := by decide +kernel
theorem dX1_kernelAt_34 : decode cX1_kernelAt 34 = .ok (.aload_n 0, 1) := by decide +kernel
theorem dX1_kernelAt_35 : decode cX1_kernelAt 35 = .ok (.getfield 34, 3) := by decide +kernel
theorem dX1_kernelAt_38 : decode cX1_kernelAt 38 = .ok (.if_icmp .lt 5, 3) := by decide +kernel
theorem dX1_kernelAt_41 : decode cX1_kernelAt 41 = .ok (.iconst (-1), 1) := by decide +kernel
theorem dX1_kernelAt_42 : decode cX1_kernelAt 42 = .ok (.ireturn, 1) := by decide +kernel
theorem dX1_kernelAt_43 : decode cX1_kernelAt 43 = .ok (.iconst 0, 1) := by decide +kernel
theorem dX1_kernelAt_44 : decode cX1_kernelAt 44 = .ok (.istore_n 3, 1) := by decide +kernel
theorem dX1_kernelAt_45 : decode cX1_kernelAt 45 = .ok (.iload_n 1, 1) := by decide +kernel
theorem dX1_kernelAt_46 : decode cX1_kernelAt 46 = .ok (.istore 4, 2) := by decide +kernel
theorem dX1_kernelAt_48 : decode cX1_kernelAt 48 = .ok (.aload_n 0, 1) := by decide +kernel
theorem dX1_kernelAt_49 : decode cX1_kernelAt 49 = .ok (.iload_n 3, 1) := by decide +kernel
theorem dX1_kernelAt_50 : decode cX1_kernelAt 50 = .ok (.invokevirtual 87, 3) := by decide +kernel
theorem dX1_kernelAt_53 : decode cX1_kernelAt 53 = .ok (.ifCond .ge 8, 3) := by decide +kernel
theorem dX1_kernelAt_56 : decode cX1_kernelAt 56 = .ok (.iload 4, 2) := by decide +kernel
theorem dX1_kernelAt_58 : decode cX1_kernelAt 58 = .ok (.ifCond .le 28, 3) := by decide +kernel
theorem dX1_kernelAt_61 : decode cX1_kernelAt 61 = .ok (.aload_n 0, 1) := by decide +kernel
theorem dX1_kernelAt_62 : decode cX1_kernelAt 62 = .ok (.iload_n 3, 1) := by decide +kernel
theorem dX1_kernelAt_63 : decode cX1_kernelAt 63 = .ok (.invokevirtual 87, 3) := by decide +kernel
theorem dX1_kernelAt_66 : decode cX1_kernelAt 66 = .ok (.ifCond .ge 10, 3) := by decide +kernel
theorem dX1_kernelAt_69 : decode cX1_kernelAt 69 = .ok (.iload 4, 2) := by decide +kernel
theorem dX1_kernelAt_71 : decode cX1_kernelAt 71 = .ok (.iconst 1, 1) := by decide +kernel
theorem dX1_kernelAt_72 : decode cX1_kernelAt 72 = .ok (.isub, 1) := by decide +kernel
theorem dX1_kernelAt_73 : decode cX1_kernelAt 73 = .ok (.goto 5, 3) := by decide +kernel
theorem dX1_kernelAt_76 : decode cX1_kernelAt 76 = .ok (.iload 4, 2) := by decide +kernel
theorem dX1_kernelAt_78 : decode cX1_kernelAt 78 = .ok (.istore 4, 2) := by decide +kernel
theorem dX1_kernelAt_80 : decode cX1_kernelAt 80 = .ok (.iinc 3 1, 3) := by decide +kernel
theorem dX1_kernelAt_83 : decode cX1_kernelAt 83 = .ok (.goto (-35), 3) := by decide +kernel
theorem dX1_kernelAt_86 : decode cX1_kernelAt 86 = .ok (.aload_n 0, 1) := by decide +kernel
theorem dX1_kernelAt_87 : decode cX1_kernelAt 87 = .ok (.iload_n 2, 1) := by decide +kernel
theorem dX1_kernelAt_88 : decode cX1_kernelAt 88 = .ok (.invokevirtual 87, 3) := by decide +kernel
theorem dX1_kernelAt_91 : decode cX1_kernelAt 91 = .ok (.istore 5, 2) := by decide +kernel
theorem dX1_kernelAt_93 : decode cX1_kernelAt 93 = .ok (.iload_n 2, 1) := by decide +kernel
theorem dX1_kernelAt_94 : decode cX1_kernelAt 94 = .ok (.iload_n 3, 1) := by decide +kernel
theorem dX1_kernelAt_95 : decode cX1_kernelAt 95 = .ok (.if_icmp .ne 13, 3) := by decide +kernel
theorem dX1_kernelAt_98 : decode cX1_kernelAt 98 = .ok (.lconst 1, 1) := by decide +kernel
theorem dX1_kernelAt_99 : decode cX1_kernelAt 99 = .ok (.aload_n 0, 1) := by decide +kernel
theorem dX1_kernelAt_100 : decode cX1_kernelAt 100 = .ok (.getfield 26, 3) := by decide +kernel
theorem dX1_kernelAt_103 : decode cX1_kernelAt 103 = .ok (.lrem, 1) := by decide +kernel
theorem dX1_kernelAt_104 : decode cX1_kernelAt 104 = .ok (.l2i, 1) := by decide +kernel
theorem dX1_kernelAt_105 : decode cX1_kernelAt 105 = .ok (.goto 35, 3) := by decide +kernel
theorem dX1_kernelAt_108 : decode cX1_kernelAt 108 = .ok (.iload 5, 2) := by decide +kernel
theorem dX1_kernelAt_110 : decode cX1_kernelAt 110 = .ok (.ifCond .ge 7, 3) := by decide +kernel
theorem dX1_kernelAt_113 : decode cX1_kernelAt 113 = .ok (.iconst 0, 1) := by decide +kernel
theorem dX1_kernelAt_114 : decode cX1_kernelAt 114 = .ok (.goto 26, 3) := by decide +kernel
theorem dX1_kernelAt_117 : decode cX1_kernelAt 117 = .ok (.aload_n 0, 1) := by decide +kernel
theorem dX1_kernelAt_118 : decode cX1_kernelAt 118 = .ok (.getfield 26, 3) := by decide +kernel
theorem dX1_kernelAt_121 : decode cX1_kernelAt 121 = .ok (.aload_n 0, 1) := by decide +kernel
theorem dX1_kernelAt_122 : decode cX1_kernelAt 122 = .ok (.getfield 16, 3) := by decide +kernel
theorem dX1_kernelAt_125 : decode cX1_kernelAt 125 = .ok (.bipush 20, 2) := by decide +kernel
theorem dX1_kernelAt_127 : decode cX1_kernelAt 127 = .ok (.iload 5, 2) := by decide +kernel
theorem dX1_kernelAt_129 : decode cX1_kernelAt 129 = .ok (.imul, 1) := by decide +kernel
theorem dX1_kernelAt_130 : decode cX1_kernelAt 130 = .ok (.iload_n 3, 1) := by decide +kernel
theorem dX1_kernelAt_131 : decode cX1_kernelAt 131 = .ok (.iadd, 1) := by decide +kernel
theorem dX1_kernelAt_132 : decode cX1_kernelAt 132 = .ok (.laload, 1) := by decide +kernel
theorem dX1_kernelAt_133 : decode cX1_kernelAt 133 = .ok (.lsub, 1) := by decide +kernel
theorem dX1_kernelAt_134 : decode cX1_kernelAt 134 = .ok (.aload_n 0, 1) := by decide +kernel
theorem dX1_kernelAt_135 : decode cX1_kernelAt 135 = .ok (.getfield 26, 3) := by decide +kernel
theorem dX1_kernelAt_138 : decode cX1_kernelAt 138 = .ok (.lrem, 1) := by decide +kernel
theorem dX1_kernelAt_139 : decode cX1_kernelAt 139 = .ok (.l2i, 1) := by decide +kernel
theorem dX1_kernelAt_140 : decode cX1_kernelAt 140 = .ok (.ireturn, 1) := by decide +kernel
theorem dL_cell_0 : decode cL_cell 0 = .ok (.iload_n 1, 1) := by decide +kernel
theorem dL_cell_1 : decode cL_cell 1 = .ok (.aload_n 0, 1) := by decide +kernel
theorem dL_cell_2 : decode cL_cell 2 = .ok (.arraylength, 1) := by decide +kernel
theorem dL_cell_3 : decode cL_cell 3 = .ok (.if_icmp .ge 9, 3) := by decide +kernel
theorem dL_cell_6 : decode cL_cell 6 = .ok (.aload_n 0, 1) := by decide +kernel
theorem dL_cell_7 : decode cL_cell 7 = .ok (.iload_n 1, 1) := by decide +kernel
theorem dL_cell_8 : decode cL_cell 8 = .ok (.iaload, 1) := by decide +kernel
theorem dL_cell_9 : decode cL_cell 9 = .ok (.goto 4, 3) := by decide +kernel
theorem dL_cell_12 : decode cL_cell 12 = .ok (.iconst 0, 1) := by decide +kernel
theorem dL_cell_13 : decode cL_cell 13 = .ok (.ireturn, 1) := by decide +kernel
set_option maxRecDepth 20000 in
theorem ggL_law_L_cell : GoodIn wsL_law wsL_cell := goodIn_r _ [9] (by decide +kernel) (by decide +kernel)
set_option maxRecDepth 20000 in
theorem gL_law_L_cell : GoodIn wsL_law (va_wsS RL 9 yL_cell wsL_cell) := goodIn_app (goodIn_of _ (by decide +kernel)) ggL_law_L_cell
set_option maxRecDepth 20000 in
theorem ggL_law_X0_init : GoodIn wsL_law wsX0_init := goodIn_r _ [12, 13, 14, 15, 16, 17, 18, 19, 20, 21, 22, 23, 24, 25, 26, 27, 28, 29, 2, 30, 31, 32, 33, 252, 253, 254, 255, 256, 257, 258, 259, 260, 261, 262] (by decide +kernel) (by decide +kernel)
set_option maxRecDepth 20000 in
theorem gL_law_X0_init : GoodIn wsL_law (wsX0_init) := ggL_law_X0_init
set_option maxRecDepth 20000 in
theorem ggL_law_X1_init : GoodIn wsL_law wsX1_init := goodIn_r _ [36, 37, 14, 15, 38, 39, 40, 41, 20, 42, 43, 44, 45, 46, 47, 48, 49, 5, 50, 51, 263, 264, 265, 266, 267, 268, 269, 270, 271, 272, 273, 274] (by decide +kernel) (by decide +kernel)
set_option maxRecDepth 20000 in
theorem gL_law_X1_init : GoodIn wsL_law (wsX1_init) := ggL_law_X1_init
set_option maxRecDepth 20000 in
theorem ggL_law_X0_set : GoodIn wsL_law wsX0_set := goodIn_r _ [55, 21, 18, 16, 25, 56, 57, 58, 2, 59, 17, 60, 61, 62, 63, 252, 253, 254, 255, 256, 257, 258, 259, 260, 261, 262] (by decide +kernel) (by decide +kernel)
set_option maxRecDepth 20000 in
theorem gL_law_X0_set : GoodIn wsL_law (wsV RL 21 RX0 yX0_set wsX0_set) := goodIn_app (goodIn_of _ (by decide +kernel)) ggL_law_X0_set
set_option maxRecDepth 20000 in
theorem ggL_law_X1_set : GoodIn wsL_law wsX1_set := goodIn_r _ [67, 68, 39, 44, 69, 70, 71, 72, 5, 73, 47, 45, 46, 263, 264, 265, 266, 267, 268, 269, 270, 271, 272, 273, 274] (by decide +kernel) (by decide +kernel)
set_option maxRecDepth 20000 in
theorem gL_law_X1_set : GoodIn wsL_law (wsV RL 25 RX1 yX1_set wsX1_set) := goodIn_app (goodIn_of _ (by decide +kernel)) ggL_law_X1_set
set_option maxRecDepth 20000 in
theorem ggL_law_X0_get : GoodIn wsL_law wsX0_get := goodIn_r _ [77, 21, 18, 56, 57, 58, 2, 59, 17, 60, 61, 62, 63, 252, 253, 254, 255, 256, 257, 258, 259, 260, 261, 262] (by decide +kernel) (by decide +kernel)
set_option maxRecDepth 20000 in
theorem gL_law_X0_get : GoodIn wsL_law (wsV RL 26 RX0 yX0_get wsX0_get) := goodIn_app (goodIn_of _ (by decide +kernel)) ggL_law_X0_get
set_option maxRecDepth 20000 in
theorem ggL_law_X1_get : GoodIn wsL_law wsX1_get := goodIn_r _ [81, 68, 39, 70, 71, 72, 5, 73, 47, 45, 46, 263, 264, 265, 266, 267, 268, 269, 270, 271, 272, 273, 274] (by decide +kernel) (by decide +kernel)
set_option maxRecDepth 20000 in
theorem gL_law_X1_get : GoodIn wsL_law (wsV RL 30 RX1 yX1_get wsX1_get) := goodIn_app (goodIn_of _ (by decide +kernel)) ggL_law_X1_get
set_option maxRecDepth 20000 in
theorem ggL_law_X0_setRhs : GoodIn wsL_law wsX0_setRhs := goodIn_r _ [85, 22, 16, 56, 57, 58, 2, 59, 17, 252, 253, 254, 255, 256, 257, 258, 259, 260, 261, 262] (by decide +kernel) (by decide +kernel)
set_option maxRecDepth 20000 in
theorem gL_law_X0_setRhs : GoodIn wsL_law (wsV RL 31 RX0 yX0_setRhs wsX0_setRhs) := goodIn_app (goodIn_of _ (by decide +kernel)) ggL_law_X0_setRhs
set_option maxRecDepth 20000 in
theorem ggL_law_X1_setRhs : GoodIn wsL_law wsX1_setRhs := goodIn_r _ [89, 68, 40, 44, 70, 71, 72, 5, 73, 47, 45, 46, 263, 264, 265, 266, 267, 268, 269, 270, 271, 272, 273, 274] (by decide +kernel) (by decide +kernel)
set_option maxRecDepth 20000 in
theorem gL_law_X1_setRhs : GoodIn wsL_law (wsV RL 35 RX1 yX1_setRhs wsX1_setRhs) := goodIn_app (goodIn_of _ (by decide +kernel)) ggL_law_X1_setRhs
set_option maxRecDepth 20000 in
theorem ggL_law_X0_reduce : GoodIn wsL_law wsX0_reduce := goodIn_r _ [93, 17, 18, 26, 25, 94, 95, 96, 2, 97, 23, 19, 21, 24, 27, 98, 99, 100, 101, 16, 102, 103, 104, 105, 106, 107, 108, 109, 110, 111, 112, 113, 114, 115, 116, 117, 118, 119, 120, 121, 122, 123, 124, 125, 252, 253, 254, 255, 256, 257, 258, 259, 260, 261, 262] (by decide +kernel) (by decide +kernel)
set_option maxRecDepth 20000 in
theorem gL_law_X0_reduce : GoodIn wsL_law (wsV RL 36 RX0 yX0_reduce wsX0_reduce) := goodIn_app (goodIn_of _ (by decide +kernel)) ggL_law_X0_reduce
set_option maxRecDepth 20000 in
theorem ggL_law_X1_reduce : GoodIn wsL_law wsX1_reduce := goodIn_r _ [129, 68, 47, 45, 41, 46, 39, 130, 42, 69, 131, 132, 133, 5, 134, 135, 136, 137, 138, 139, 140, 141, 142, 44, 51, 143, 144, 145, 146, 263, 264, 265, 266, 267, 268, 269, 270, 271, 272, 273, 274] (by decide +kernel) (by decide +kernel)
set_option maxRecDepth 20000 in
theorem gL_law_X1_reduce : GoodIn wsL_law (wsV RL 40 RX1 yX1_reduce wsX1_reduce) := goodIn_app (goodIn_of _ (by decide +kernel)) ggL_law_X1_reduce
set_option maxRecDepth 20000 in
theorem ggL_law_X0_rank : GoodIn wsL_law wsX0_rank := goodIn_r _ [150, 25, 26, 252, 253, 254, 255, 256, 257, 258, 259, 260, 261, 262] (by decide +kernel) (by decide +kernel)
set_option maxRecDepth 20000 in
theorem gL_law_X0_rank : GoodIn wsL_law (wsV RL 41 RX0 yX0_rank wsX0_rank) := goodIn_app (goodIn_of _ (by decide +kernel)) ggL_law_X0_rank
set_option maxRecDepth 20000 in
theorem ggL_law_X1_rank : GoodIn wsL_law wsX1_rank := goodIn_r _ [154, 68, 69, 130, 263, 264, 265, 266, 267, 268, 269, 270, 271, 272, 273, 274] (by decide +kernel) (by decide +kernel)
set_option maxRecDepth 20000 in
theorem gL_law_X1_rank : GoodIn wsL_law (wsV RL 44 RX1 yX1_rank wsX1_rank) := goodIn_app (goodIn_of _ (by decide +kernel)) ggL_law_X1_rank
set_option maxRecDepth 20000 in
theorem ggL_law_X0_rrefAt : GoodIn wsL_law wsX0_rrefAt := goodIn_r _ [158, 25, 23, 19, 56, 57, 58, 2, 59, 17, 60, 61, 62, 63, 18, 252, 253, 254, 255, 256, 257, 258, 259, 260, 261, 262] (by decide +kernel) (by decide +kernel)
set_option maxRecDepth 20000 in
theorem gL_law_X0_rrefAt : GoodIn wsL_law (wsV RL 45 RX0 yX0_rrefAt wsX0_rrefAt) := goodIn_app (goodIn_of _ (by decide +kernel)) ggL_law_X0_rrefAt
set_option maxRecDepth 20000 in
theorem ggL_law_X1_rrefAt : GoodIn wsL_law wsX1_rrefAt := goodIn_r _ [162, 68, 69, 41, 70, 71, 72, 5, 73, 47, 45, 46, 263, 264, 265, 266, 267, 268, 269, 270, 271, 272, 273, 274] (by decide +kernel) (by decide +kernel)
set_option maxRecDepth 20000 in
theorem gL_law_X1_rrefAt : GoodIn wsL_law (wsV RL 48 RX1 yX1_rrefAt wsX1_rrefAt) := goodIn_app (goodIn_of _ (by decide +kernel)) ggL_law_X1_rrefAt
set_option maxRecDepth 20000 in
theorem ggL_law_X0_transformAt : GoodIn wsL_law wsX0_transformAt := goodIn_r _ [166, 25, 56, 57, 58, 2, 59, 17, 167, 168, 169, 170, 23, 19, 18, 252, 253, 254, 255, 256, 257, 258, 259, 260, 261, 262] (by decide +kernel) (by decide +kernel)
set_option maxRecDepth 20000 in
theorem gL_law_X0_transformAt : GoodIn wsL_law (wsV RL 49 RX0 yX0_transformAt wsX0_transformAt) := goodIn_app (goodIn_of _ (by decide +kernel)) ggL_law_X0_transformAt
set_option maxRecDepth 20000 in
theorem ggL_law_X1_transformAt : GoodIn wsL_law wsX1_transformAt := goodIn_r _ [174, 68, 69, 41, 175, 176, 177, 5, 178, 47, 45, 263, 264, 265, 266, 267, 268, 269, 270, 271, 272, 273, 274] (by decide +kernel) (by decide +kernel)
set_option maxRecDepth 20000 in
theorem gL_law_X1_transformAt : GoodIn wsL_law (wsV RL 52 RX1 yX1_transformAt wsX1_transformAt) := goodIn_app (goodIn_of _ (by decide +kernel)) ggL_law_X1_transformAt
set_option maxRecDepth 20000 in
theorem ggL_law_X0_det : GoodIn wsL_law wsX0_det := goodIn_r _ [182, 25, 17, 18, 26, 27, 252, 253, 254, 255, 256, 257, 258, 259, 260, 261, 262] (by decide +kernel) (by decide +kernel)
set_option maxRecDepth 20000 in
theorem gL_law_X0_det : GoodIn wsL_law (wsV RL 53 RX0 yX0_det wsX0_det) := goodIn_app (goodIn_of _ (by decide +kernel)) ggL_law_X0_det
set_option maxRecDepth 20000 in
theorem ggL_law_X1_det : GoodIn wsL_law wsX1_det := goodIn_r _ [186, 68, 69, 45, 46, 43, 39, 44, 263, 264, 265, 266, 267, 268, 269, 270, 271, 272, 273, 274] (by decide +kernel) (by decide +kernel)
set_option maxRecDepth 20000 in
theorem gL_law_X1_det : GoodIn wsL_law (wsV RL 56 RX1 yX1_det wsX1_det) := goodIn_app (goodIn_of _ (by decide +kernel)) ggL_law_X1_det
set_option maxRecDepth 20000 in
theorem ggL_law_X0_inverseAt : GoodIn wsL_law wsX0_inverseAt := goodIn_r _ [190, 191, 192, 193, 2, 194, 25, 17, 18, 26, 56, 57, 58, 59, 167, 168, 169, 170, 23, 19, 252, 253, 254, 255, 256, 257, 258, 259, 260, 261, 262] (by decide +kernel) (by decide +kernel)
set_option maxRecDepth 20000 in
theorem gL_law_X0_inverseAt : GoodIn wsL_law (wsV RL 57 RX0 yX0_inverseAt wsX0_inverseAt) := goodIn_app (goodIn_of _ (by decide +kernel)) ggL_law_X0_inverseAt
set_option maxRecDepth 20000 in
theorem ggL_law_X1_inverseAt : GoodIn wsL_law wsX1_inverseAt := goodIn_r _ [198, 68, 69, 45, 46, 130, 41, 175, 176, 177, 5, 178, 47, 263, 264, 265, 266, 267, 268, 269, 270, 271, 272, 273, 274] (by decide +kernel) (by decide +kernel)
set_option maxRecDepth 20000 in
theorem gL_law_X1_inverseAt : GoodIn wsL_law (wsV RL 60 RX1 yX1_inverseAt wsX1_inverseAt) := goodIn_app (goodIn_of _ (by decide +kernel)) ggL_law_X1_inverseAt
set_option maxRecDepth 20000 in
theorem ggL_law_X0_solvable : GoodIn wsL_law wsX0_solvable := goodIn_r _ [202, 25, 26, 17, 203, 204, 205, 2, 206, 22, 16, 167, 168, 169, 170, 23, 19, 18, 252, 253, 254, 255, 256, 257, 258, 259, 260, 261, 262] (by decide +kernel) (by decide +kernel)
set_option maxRecDepth 20000 in
theorem gL_law_X0_solvable : GoodIn wsL_law (wsV RL 61 RX0 yX0_solvable wsX0_solvable) := goodIn_app (goodIn_of _ (by decide +kernel)) ggL_law_X0_solvable
set_option maxRecDepth 20000 in
theorem ggL_law_X1_solvable : GoodIn wsL_law wsX1_solvable := goodIn_r _ [210, 68, 211, 212, 213, 5, 214, 69, 130, 45, 215, 216, 217, 218, 41, 40, 44, 263, 264, 265, 266, 267, 268, 269, 270, 271, 272, 273, 274] (by decide +kernel) (by decide +kernel)
set_option maxRecDepth 20000 in
theorem gL_law_X1_solvable : GoodIn wsL_law (wsV RL 65 RX1 yX1_solvable wsX1_solvable) := goodIn_app (goodIn_of _ (by decide +kernel)) ggL_law_X1_solvable
set_option maxRecDepth 20000 in
theorem ggL_law_X0_solution : GoodIn wsL_law wsX0_solution := goodIn_r _ [222, 24, 60, 61, 62, 2, 63, 18, 223, 200, 201, 202, 25, 26, 17, 203, 204, 205, 206, 22, 16, 167, 168, 169, 170, 23, 19, 252, 253, 254, 255, 256, 257, 258, 259, 260, 261, 262] (by decide +kernel) (by decide +kernel)
set_option maxRecDepth 20000 in
theorem gL_law_X0_solution : GoodIn wsL_law (wsV RL 66 RX0 yX0_solution wsX0_solution) := goodIn_app (goodIn_of _ (by decide +kernel)) ggL_law_X0_solution
set_option maxRecDepth 20000 in
theorem ggL_law_X1_solution : GoodIn wsL_law wsX1_solution := goodIn_r _ [227, 68, 46, 211, 212, 213, 5, 214, 69, 130, 45, 215, 216, 217, 218, 41, 40, 44, 228, 229, 230, 231, 42, 263, 264, 265, 266, 267, 268, 269, 270, 271, 272, 273, 274] (by decide +kernel) (by decide +kernel)
set_option maxRecDepth 20000 in
theorem gL_law_X1_solution : GoodIn wsL_law (wsV RL 70 RX1 yX1_solution wsX1_solution) := goodIn_app (goodIn_of _ (by decide +kernel)) ggL_law_X1_solution
set_option maxRecDepth 20000 in
theorem ggL_law_X0_kernelDim : GoodIn wsL_law wsX0_kernelDim := goodIn_r _ [235, 25, 18, 26, 252, 253, 254, 255, 256, 257, 258, 259, 260, 261, 262] (by decide +kernel) (by decide +kernel)
set_option maxRecDepth 20000 in
theorem gL_law_X0_kernelDim : GoodIn wsL_law (wsV RL 71 RX0 yX0_kernelDim wsX0_kernelDim) := goodIn_app (goodIn_of _ (by decide +kernel)) ggL_law_X0_kernelDim
set_option maxRecDepth 20000 in
theorem ggL_law_X1_kernelDim : GoodIn wsL_law wsX1_kernelDim := goodIn_r _ [239, 68, 69, 46, 130, 263, 264, 265, 266, 267, 268, 269, 270, 271, 272, 273, 274] (by decide +kernel) (by decide +kernel)
set_option maxRecDepth 20000 in
theorem gL_law_X1_kernelDim : GoodIn wsL_law (wsV RL 74 RX1 yX1_kernelDim wsX1_kernelDim) := goodIn_app (goodIn_of _ (by decide +kernel)) ggL_law_X1_kernelDim
set_option maxRecDepth 20000 in
theorem ggL_law_X0_kernelAt : GoodIn wsL_law wsX0_kernelAt := goodIn_r _ [243, 25, 24, 23, 19, 60, 61, 62, 2, 63, 18, 244, 245, 246, 247, 110, 111, 112, 113, 16, 252, 253, 254, 255, 256, 257, 258, 259, 260, 261, 262] (by decide +kernel) (by decide +kernel)
set_option maxRecDepth 20000 in
theorem gL_law_X0_kernelAt : GoodIn wsL_law (wsV RL 75 RX0 yX0_kernelAt wsX0_kernelAt) := goodIn_app (goodIn_of _ (by decide +kernel)) ggL_law_X0_kernelAt
set_option maxRecDepth 20000 in
theorem ggL_law_X1_kernelAt : GoodIn wsL_law wsX1_kernelAt := goodIn_r _ [251, 68, 69, 46, 130, 44, 41, 228, 229, 230, 5, 231, 42, 263, 264, 265, 266, 267, 268, 269, 270, 271, 272, 273, 274] (by decide +kernel) (by decide +kernel)
set_option maxRecDepth 20000 in
theorem gL_law_X1_kernelAt : GoodIn wsL_law (wsV RL 78 RX1 yX1_kernelAt wsX1_kernelAt) := goodIn_app (goodIn_of _ (by decide +kernel)) ggL_law_X1_kernelAt
theorem dL_law_0 : decode cL_law 0 = .ok (.new 7, 3) := by decide +kernel
theorem dL_law_3 : decode cL_law 3 = .ok (.dup, 1) := by decide +kernel
theorem dL_law_4 : decode cL_law 4 = .ok (.aload_n 0, 1) := by decide +kernel
theorem dL_law_5 : decode cL_law 5 = .ok (.iconst 0, 1) := by decide +kernel
theorem dL_law_6 : decode cL_law 6 = .ok (.invokestatic 9, 3) := by decide +kernel
theorem dL_law_9 : decode cL_law 9 = .ok (.aload_n 0, 1) := by decide +kernel
theorem dL_law_10 : decode cL_law 10 = .ok (.iconst 1, 1) := by decide +kernel
theorem dL_law_11 : decode cL_law 11 = .ok (.invokestatic 9, 3) := by decide +kernel
theorem dL_law_14 : decode cL_law 14 = .ok (.aload_n 0, 1) := by decide +kernel
theorem dL_law_15 : decode cL_law 15 = .ok (.iconst 2, 1) := by decide +kernel
theorem dL_law_16 : decode cL_law 16 = .ok (.invokestatic 9, 3) := by decide +kernel
theorem dL_law_19 : decode cL_law 19 = .ok (.invokespecial 15, 3) := by decide +kernel
theorem dL_law_22 : decode cL_law 22 = .ok (.astore_n 1, 1) := by decide +kernel
theorem dL_law_23 : decode cL_law 23 = .ok (.new 18, 3) := by decide +kernel
theorem dL_law_26 : decode cL_law 26 = .ok (.dup, 1) := by decide +kernel
theorem dL_law_27 : decode cL_law 27 = .ok (.aload_n 0, 1) := by decide +kernel
theorem dL_law_28 : decode cL_law 28 = .ok (.iconst 0, 1) := by decide +kernel
theorem dL_law_29 : decode cL_law 29 = .ok (.invokestatic 9, 3) := by decide +kernel
theorem dL_law_32 : decode cL_law 32 = .ok (.aload_n 0, 1) := by decide +kernel
theorem dL_law_33 : decode cL_law 33 = .ok (.iconst 1, 1) := by decide +kernel
theorem dL_law_34 : decode cL_law 34 = .ok (.invokestatic 9, 3) := by decide +kernel
theorem dL_law_37 : decode cL_law 37 = .ok (.aload_n 0, 1) := by decide +kernel
theorem dL_law_38 : decode cL_law 38 = .ok (.iconst 2, 1) := by decide +kernel
theorem dL_law_39 : decode cL_law 39 = .ok (.invokestatic 9, 3) := by decide +kernel
theorem dL_law_42 : decode cL_law 42 = .ok (.invokespecial 20, 3) := by decide +kernel
theorem dL_law_45 : decode cL_law 45 = .ok (.astore_n 2, 1) := by decide +kernel
theorem dL_law_46 : decode cL_law 46 = .ok (.iconst 3, 1) := by decide +kernel
theorem dL_law_47 : decode cL_law 47 = .ok (.istore_n 3, 1) := by decide +kernel
theorem dL_law_48 : decode cL_law 48 = .ok (.iload_n 3, 1) := by decide +kernel
theorem dL_law_49 : decode cL_law 49 = .ok (.aload_n 0, 1) := by decide +kernel
theorem dL_law_50 : decode cL_law 50 = .ok (.arraylength, 1) := by decide +kernel
theorem dL_law_51 : decode cL_law 51 = .ok (.iconst 4, 1) := by decide +kernel
theorem dL_law_52 : decode cL_law 52 = .ok (.isub, 1) := by decide +kernel
theorem dL_law_53 : decode cL_law 53 = .ok (.if_icmp .gt 410, 3) := by decide +kernel
theorem dL_law_56 : decode cL_law 56 = .ok (.aload_n 0, 1) := by decide +kernel
theorem dL_law_57 : decode cL_law 57 = .ok (.iload_n 3, 1) := by decide +kernel
theorem dL_law_58 : decode cL_law 58 = .ok (.iaload, 1) := by decide +kernel
theorem dL_law_59 : decode cL_law 59 = .ok (.bipush 15, 2) := by decide +kernel
theorem dL_law_61 : decode cL_law 61 = .ok (.iand, 1) := by decide +kernel
theorem dL_law_62 : decode cL_law 62 = .ok (.tableswitch 395 0 12 #[66, 109, 142, 175, 188, 201, 234, 267, 280, 313, 326, 349, 362], 66) := by decide +kernel
theorem dL_law_128 : decode cL_law 128 = .ok (.aload_n 1, 1) := by decide +kernel
theorem dL_law_129 : decode cL_law 129 = .ok (.aload_n 0, 1) := by decide +kernel
theorem dL_law_130 : decode cL_law 130 = .ok (.iload_n 3, 1) := by decide +kernel
theorem dL_law_131 : decode cL_law 131 = .ok (.iconst 1, 1) := by decide +kernel
theorem dL_law_132 : decode cL_law 132 = .ok (.iadd, 1) := by decide +kernel
theorem dL_law_133 : decode cL_law 133 = .ok (.iaload, 1) := by decide +kernel
theorem dL_law_134 : decode cL_law 134 = .ok (.aload_n 0, 1) := by decide +kernel
theorem dL_law_135 : decode cL_law 135 = .ok (.iload_n 3, 1) := by decide +kernel
theorem dL_law_136 : decode cL_law 136 = .ok (.iconst 2, 1) := by decide +kernel
theorem dL_law_137 : decode cL_law 137 = .ok (.iadd, 1) := by decide +kernel
theorem dL_law_138 : decode cL_law 138 = .ok (.iaload, 1) := by decide +kernel
theorem dL_law_139 : decode cL_law 139 = .ok (.aload_n 0, 1) := by decide +kernel
theorem dL_law_140 : decode cL_law 140 = .ok (.iload_n 3, 1) := by decide +kernel
theorem dL_law_141 : decode cL_law 141 = .ok (.iconst 3, 1) := by decide +kernel
theorem dL_law_142 : decode cL_law 142 = .ok (.iadd, 1) := by decide +kernel
theorem dL_law_143 : decode cL_law 143 = .ok (.iaload, 1) := by decide +kernel
theorem dL_law_144 : decode cL_law 144 = .ok (.invokevirtual 21, 3) := by decide +kernel
theorem dL_law_147 : decode cL_law 147 = .ok (.aload_n 2, 1) := by decide +kernel
theorem dL_law_148 : decode cL_law 148 = .ok (.aload_n 0, 1) := by decide +kernel
theorem dL_law_149 : decode cL_law 149 = .ok (.iload_n 3, 1) := by decide +kernel
theorem dL_law_150 : decode cL_law 150 = .ok (.iconst 1, 1) := by decide +kernel
theorem dL_law_151 : decode cL_law 151 = .ok (.iadd, 1) := by decide +kernel
theorem dL_law_152 : decode cL_law 152 = .ok (.iaload, 1) := by decide +kernel
theorem dL_law_153 : decode cL_law 153 = .ok (.aload_n 0, 1) := by decide +kernel
theorem dL_law_154 : decode cL_law 154 = .ok (.iload_n 3, 1) := by decide +kernel
theorem dL_law_155 : decode cL_law 155 = .ok (.iconst 2, 1) := by decide +kernel
theorem dL_law_156 : decode cL_law 156 = .ok (.iadd, 1) := by decide +kernel
theorem dL_law_157 : decode cL_law 157 = .ok (.iaload, 1) := by decide +kernel
theorem dL_law_158 : decode cL_law 158 = .ok (.aload_n 0, 1) := by decide +kernel
theorem dL_law_159 : decode cL_law 159 = .ok (.iload_n 3, 1) := by decide +kernel
theorem dL_law_160 : decode cL_law 160 = .ok (.iconst 3, 1) := by decide +kernel
theorem dL_law_161 : decode cL_law 161 = .ok (.iadd, 1) := by decide +kernel
theorem dL_law_162 : decode cL_law 162 = .ok (.iaload, 1) := by decide +kernel
theorem dL_law_163 : decode cL_law 163 = .ok (.invokevirtual 25, 3) := by decide +kernel
theorem dL_law_166 : decode cL_law 166 = .ok (.if_icmp .eq 291, 3) := by decide +kernel
theorem dL_law_169 : decode cL_law 169 = .ok (.iconst 0, 1) := by decide +kernel
theorem dL_law_170 : decode cL_law 170 = .ok (.ireturn, 1) := by decide +kernel
theorem dL_law_171 : decode cL_law 171 = .ok (.aload_n 1, 1) := by decide +kernel
theorem dL_law_172 : decode cL_law 172 = .ok (.aload_n 0, 1) := by decide +kernel
theorem dL_law_173 : decode cL_law 173 = .ok (.iload_n 3, 1) := by decide +kernel
theorem dL_law_174 : decode cL_law 174 = .ok (.iconst 1, 1) := by decide +kernel
theorem dL_law_175 : decode cL_law 175 = .ok (.iadd, 1) := by decide +kernel
theorem dL_law_176 : decode cL_law 176 = .ok (.iaload, 1) := by decide +kernel
theorem dL_law_177 : decode cL_law 177 = .ok (.aload_n 0, 1) := by decide +kernel
theorem dL_law_178 : decode cL_law 178 = .ok (.iload_n 3, 1) := by decide +kernel
theorem dL_law_179 : decode cL_law 179 = .ok (.iconst 2, 1) := by decide +kernel
theorem dL_law_180 : decode cL_law 180 = .ok (.iadd, 1) := by decide +kernel
theorem dL_law_181 : decode cL_law 181 = .ok (.iaload, 1) := by decide +kernel
theorem dL_law_182 : decode cL_law 182 = .ok (.invokevirtual 26, 3) := by decide +kernel
theorem dL_law_185 : decode cL_law 185 = .ok (.aload_n 2, 1) := by decide +kernel
theorem dL_law_186 : decode cL_law 186 = .ok (.aload_n 0, 1) := by decide +kernel
theorem dL_law_187 : decode cL_law 187 = .ok (.iload_n 3, 1) := by decide +kernel
theorem dL_law_188 : decode cL_law 188 = .ok (.iconst 1, 1) := by decide +kernel
theorem dL_law_189 : decode cL_law 189 = .ok (.iadd, 1) := by decide +kernel
theorem dL_law_190 : decode cL_law 190 = .ok (.iaload, 1) := by decide +kernel
theorem dL_law_191 : decode cL_law 191 = .ok (.aload_n 0, 1) := by decide +kernel
theorem dL_law_192 : decode cL_law 192 = .ok (.iload_n 3, 1) := by decide +kernel
theorem dL_law_193 : decode cL_law 193 = .ok (.iconst 2, 1) := by decide +kernel
theorem dL_law_194 : decode cL_law 194 = .ok (.iadd, 1) := by decide +kernel
theorem dL_law_195 : decode cL_law 195 = .ok (.iaload, 1) := by decide +kernel
theorem dL_law_196 : decode cL_law 196 = .ok (.invokevirtual 30, 3) := by decide +kernel
theorem dL_law_199 : decode cL_law 199 = .ok (.if_icmp .eq 258, 3) := by decide +kernel
theorem dL_law_202 : decode cL_law 202 = .ok (.iconst 0, 1) := by decide +kernel
theorem dL_law_203 : decode cL_law 203 = .ok (.ireturn, 1) := by decide +kernel
theorem dL_law_204 : decode cL_law 204 = .ok (.aload_n 1, 1) := by decide +kernel
theorem dL_law_205 : decode cL_law 205 = .ok (.aload_n 0, 1) := by decide +kernel
theorem dL_law_206 : decode cL_law 206 = .ok (.iload_n 3, 1) := by decide +kernel
theorem dL_law_207 : decode cL_law 207 = .ok (.iconst 1, 1) := by decide +kernel
theorem dL_law_208 : decode cL_law 208 = .ok (.iadd, 1) := by decide +kernel
theorem dL_law_209 : decode cL_law 209 = .ok (.iaload, 1) := by decide +kernel
theorem dL_law_210 : decode cL_law 210 = .ok (.aload_n 0, 1) := by decide +kernel
theorem dL_law_211 : decode cL_law 211 = .ok (.iload_n 3, 1) := by decide +kernel
theorem dL_law_212 : decode cL_law 212 = .ok (.iconst 2, 1) := by decide +kernel
theorem dL_law_213 : decode cL_law 213 = .ok (.iadd, 1) := by decide +kernel
theorem dL_law_214 : decode cL_law 214 = .ok (.iaload, 1) := by decide +kernel
theorem dL_law_215 : decode cL_law 215 = .ok (.invokevirtual 31, 3) := by decide +kernel
theorem dL_law_218 : decode cL_law 218 = .ok (.aload_n 2, 1) := by decide +kernel
theorem dL_law_219 : decode cL_law 219 = .ok (.aload_n 0, 1) := by decide +kernel
theorem dL_law_220 : decode cL_law 220 = .ok (.iload_n 3, 1) := by decide +kernel
theorem dL_law_221 : decode cL_law 221 = .ok (.iconst 1, 1) := by decide +kernel
theorem dL_law_222 : decode cL_law 222 = .ok (.iadd, 1) := by decide +kernel
theorem dL_law_223 : decode cL_law 223 = .ok (.iaload, 1) := by decide +kernel
theorem dL_law_224 : decode cL_law 224 = .ok (.aload_n 0, 1) := by decide +kernel
theorem dL_law_225 : decode cL_law 225 = .ok (.iload_n 3, 1) := by decide +kernel
theorem dL_law_226 : decode cL_law 226 = .ok (.iconst 2, 1) := by decide +kernel
theorem dL_law_227 : decode cL_law 227 = .ok (.iadd, 1) := by decide +kernel
theorem dL_law_228 : decode cL_law 228 = .ok (.iaload, 1) := by decide +kernel
theorem dL_law_229 : decode cL_law 229 = .ok (.invokevirtual 35, 3) := by decide +kernel
theorem dL_law_232 : decode cL_law 232 = .ok (.if_icmp .eq 225, 3) := by decide +kernel
theorem dL_law_235 : decode cL_law 235 = .ok (.iconst 0, 1) := by decide +kernel
theorem dL_law_236 : decode cL_law 236 = .ok (.ireturn, 1) := by decide +kernel
theorem dL_law_237 : decode cL_law 237 = .ok (.aload_n 1, 1) := by decide +kernel
theorem dL_law_238 : decode cL_law 238 = .ok (.invokevirtual 36, 3) := by decide +kernel
theorem dL_law_241 : decode cL_law 241 = .ok (.aload_n 2, 1) := by decide +kernel
theorem dL_law_242 : decode cL_law 242 = .ok (.invokevirtual 40, 3) := by decide +kernel
theorem dL_law_245 : decode cL_law 245 = .ok (.if_icmp .eq 212, 3) := by decide +kernel
theorem dL_law_248 : decode cL_law 248 = .ok (.iconst 0, 1) := by decide +kernel
theorem dL_law_249 : decode cL_law 249 = .ok (.ireturn, 1) := by decide +kernel
theorem dL_law_250 : decode cL_law 250 = .ok (.aload_n 1, 1) := by decide +kernel
theorem dL_law_251 : decode cL_law 251 = .ok (.invokevirtual 41, 3) := by decide +kernel
theorem dL_law_254 : decode cL_law 254 = .ok (.aload_n 2, 1) := by decide +kernel
theorem dL_law_255 : decode cL_law 255 = .ok (.invokevirtual 44, 3) := by decide +kernel
theorem dL_law_258 : decode cL_law 258 = .ok (.if_icmp .eq 199, 3) := by decide +kernel
theorem dL_law_261 : decode cL_law 261 = .ok (.iconst 0, 1) := by decide +kernel
theorem dL_law_262 : decode cL_law 262 = .ok (.ireturn, 1) := by decide +kernel
theorem dL_law_263 : decode cL_law 263 = .ok (.aload_n 1, 1) := by decide +kernel
theorem dL_law_264 : decode cL_law 264 = .ok (.aload_n 0, 1) := by decide +kernel
theorem dL_law_265 : decode cL_law 265 = .ok (.iload_n 3, 1) := by decide +kernel
theorem dL_law_266 : decode cL_law 266 = .ok (.iconst 1, 1) := by decide +kernel
theorem dL_law_267 : decode cL_law 267 = .ok (.iadd, 1) := by decide +kernel
theorem dL_law_268 : decode cL_law 268 = .ok (.iaload, 1) := by decide +kernel
theorem dL_law_269 : decode cL_law 269 = .ok (.aload_n 0, 1) := by decide +kernel
theorem dL_law_270 : decode cL_law 270 = .ok (.iload_n 3, 1) := by decide +kernel
theorem dL_law_271 : decode cL_law 271 = .ok (.iconst 2, 1) := by decide +kernel
theorem dL_law_272 : decode cL_law 272 = .ok (.iadd, 1) := by decide +kernel
theorem dL_law_273 : decode cL_law 273 = .ok (.iaload, 1) := by decide +kernel
theorem dL_law_274 : decode cL_law 274 = .ok (.invokevirtual 45, 3) := by decide +kernel
theorem dL_law_277 : decode cL_law 277 = .ok (.aload_n 2, 1) := by decide +kernel
theorem dL_law_278 : decode cL_law 278 = .ok (.aload_n 0, 1) := by decide +kernel
theorem dL_law_279 : decode cL_law 279 = .ok (.iload_n 3, 1) := by decide +kernel
theorem dL_law_280 : decode cL_law 280 = .ok (.iconst 1, 1) := by decide +kernel
theorem dL_law_281 : decode cL_law 281 = .ok (.iadd, 1) := by decide +kernel
theorem dL_law_282 : decode cL_law 282 = .ok (.iaload, 1) := by decide +kernel
theorem dL_law_283 : decode cL_law 283 = .ok (.aload_n 0, 1) := by decide +kernel
theorem dL_law_284 : decode cL_law 284 = .ok (.iload_n 3, 1) := by decide +kernel
theorem dL_law_285 : decode cL_law 285 = .ok (.iconst 2, 1) := by decide +kernel
theorem dL_law_286 : decode cL_law 286 = .ok (.iadd, 1) := by decide +kernel
theorem dL_law_287 : decode cL_law 287 = .ok (.iaload, 1) := by decide +kernel
theorem dL_law_288 : decode cL_law 288 = .ok (.invokevirtual 48, 3) := by decide +kernel
theorem dL_law_291 : decode cL_law 291 = .ok (.if_icmp .eq 166, 3) := by decide +kernel
theorem dL_law_294 : decode cL_law 294 = .ok (.iconst 0, 1) := by decide +kernel
theorem dL_law_295 : decode cL_law 295 = .ok (.ireturn, 1) := by decide +kernel
theorem dL_law_296 : decode cL_law 296 = .ok (.aload_n 1, 1) := by decide +kernel
theorem dL_law_297 : decode cL_law 297 = .ok (.aload_n 0, 1) := by decide +kernel
theorem dL_law_298 : decode cL_law 298 = .ok (.iload_n 3, 1) := by decide +kernel
theorem dL_law_299 : decode cL_law 299 = .ok (.iconst 1, 1) := by decide +kernel
theorem dL_law_300 : decode cL_law 300 = .ok (.iadd, 1) := by decide +kernel
theorem dL_law_301 : decode cL_law 301 = .ok (.iaload, 1) := by decide +kernel
theorem dL_law_302 : decode cL_law 302 = .ok (.aload_n 0, 1) := by decide +kernel
theorem dL_law_303 : decode cL_law 303 = .ok (.iload_n 3, 1) := by decide +kernel
theorem dL_law_304 : decode cL_law 304 = .ok (.iconst 2, 1) := by decide +kernel
theorem dL_law_305 : decode cL_law 305 = .ok (.iadd, 1) := by decide +kernel
theorem dL_law_306 : decode cL_law 306 = .ok (.iaload, 1) := by decide +kernel
theorem dL_law_307 : decode cL_law 307 = .ok (.invokevirtual 49, 3) := by decide +kernel
theorem dL_law_310 : decode cL_law 310 = .ok (.aload_n 2, 1) := by decide +kernel
theorem dL_law_311 : decode cL_law 311 = .ok (.aload_n 0, 1) := by decide +kernel
theorem dL_law_312 : decode cL_law 312 = .ok (.iload_n 3, 1) := by decide +kernel
theorem dL_law_313 : decode cL_law 313 = .ok (.iconst 1, 1) := by decide +kernel
theorem dL_law_314 : decode cL_law 314 = .ok (.iadd, 1) := by decide +kernel
theorem dL_law_315 : decode cL_law 315 = .ok (.iaload, 1) := by decide +kernel
theorem dL_law_316 : decode cL_law 316 = .ok (.aload_n 0, 1) := by decide +kernel
theorem dL_law_317 : decode cL_law 317 = .ok (.iload_n 3, 1) := by decide +kernel
theorem dL_law_318 : decode cL_law 318 = .ok (.iconst 2, 1) := by decide +kernel
theorem dL_law_319 : decode cL_law 319 = .ok (.iadd, 1) := by decide +kernel
theorem dL_law_320 : decode cL_law 320 = .ok (.iaload, 1) := by decide +kernel
theorem dL_law_321 : decode cL_law 321 = .ok (.invokevirtual 52, 3) := by decide +kernel
theorem dL_law_324 : decode cL_law 324 = .ok (.if_icmp .eq 133, 3) := by decide +kernel
theorem dL_law_327 : decode cL_law 327 = .ok (.iconst 0, 1) := by decide +kernel
theorem dL_law_328 : decode cL_law 328 = .ok (.ireturn, 1) := by decide +kernel
theorem dL_law_329 : decode cL_law 329 = .ok (.aload_n 1, 1) := by decide +kernel
theorem dL_law_330 : decode cL_law 330 = .ok (.invokevirtual 53, 3) := by decide +kernel
theorem dL_law_333 : decode cL_law 333 = .ok (.aload_n 2, 1) := by decide +kernel
theorem dL_law_334 : decode cL_law 334 = .ok (.invokevirtual 56, 3) := by decide +kernel
theorem dL_law_337 : decode cL_law 337 = .ok (.if_icmp .eq 120, 3) := by decide +kernel
theorem dL_law_340 : decode cL_law 340 = .ok (.iconst 0, 1) := by decide +kernel
theorem dL_law_341 : decode cL_law 341 = .ok (.ireturn, 1) := by decide +kernel
theorem dL_law_342 : decode cL_law 342 = .ok (.aload_n 1, 1) := by decide +kernel
theorem dL_law_343 : decode cL_law 343 = .ok (.aload_n 0, 1) := by decide +kernel
theorem dL_law_344 : decode cL_law 344 = .ok (.iload_n 3, 1) := by decide +kernel
theorem dL_law_345 : decode cL_law 345 = .ok (.iconst 1, 1) := by decide +kernel
theorem dL_law_346 : decode cL_law 346 = .ok (.iadd, 1) := by decide +kernel
theorem dL_law_347 : decode cL_law 347 = .ok (.iaload, 1) := by decide +kernel
theorem dL_law_348 : decode cL_law 348 = .ok (.aload_n 0, 1) := by decide +kernel
theorem dL_law_349 : decode cL_law 349 = .ok (.iload_n 3, 1) := by decide +kernel
theorem dL_law_350 : decode cL_law 350 = .ok (.iconst 2, 1) := by decide +kernel
theorem dL_law_351 : decode cL_law 351 = .ok (.iadd, 1) := by decide +kernel
theorem dL_law_352 : decode cL_law 352 = .ok (.iaload, 1) := by decide +kernel
theorem dL_law_353 : decode cL_law 353 = .ok (.invokevirtual 57, 3) := by decide +kernel
theorem dL_law_356 : decode cL_law 356 = .ok (.aload_n 2, 1) := by decide +kernel
theorem dL_law_357 : decode cL_law 357 = .ok (.aload_n 0, 1) := by decide +kernel
theorem dL_law_358 : decode cL_law 358 = .ok (.iload_n 3, 1) := by decide +kernel
theorem dL_law_359 : decode cL_law 359 = .ok (.iconst 1, 1) := by decide +kernel
theorem dL_law_360 : decode cL_law 360 = .ok (.iadd, 1) := by decide +kernel
theorem dL_law_361 : decode cL_law 361 = .ok (.iaload, 1) := by decide +kernel
theorem dL_law_362 : decode cL_law 362 = .ok (.aload_n 0, 1) := by decide +kernel
theorem dL_law_363 : decode cL_law 363 = .ok (.iload_n 3, 1) := by decide +kernel
theorem dL_law_364 : decode cL_law 364 = .ok (.iconst 2, 1) := by decide +kernel
theorem dL_law_365 : decode cL_law 365 = .ok (.iadd, 1) := by decide +kernel
theorem dL_law_366 : decode cL_law 366 = .ok (.iaload, 1) := by decide +kernel
theorem dL_law_367 : decode cL_law 367 = .ok (.invokevirtual 60, 3) := by decide +kernel
theorem dL_law_370 : decode cL_law 370 = .ok (.if_icmp .eq 87, 3) := by decide +kernel
theorem dL_law_373 : decode cL_law 373 = .ok (.iconst 0, 1) := by decide +kernel
theorem dL_law_374 : decode cL_law 374 = .ok (.ireturn, 1) := by decide +kernel
theorem dL_law_375 : decode cL_law 375 = .ok (.aload_n 1, 1) := by decide +kernel
theorem dL_law_376 : decode cL_law 376 = .ok (.invokevirtual 61, 3) := by decide +kernel
theorem dL_law_379 : decode cL_law 379 = .ok (.aload_n 2, 1) := by decide +kernel
theorem dL_law_380 : decode cL_law 380 = .ok (.invokevirtual 65, 3) := by decide +kernel
theorem dL_law_383 : decode cL_law 383 = .ok (.if_icmp .eq 74, 3) := by decide +kernel
theorem dL_law_386 : decode cL_law 386 = .ok (.iconst 0, 1) := by decide +kernel
theorem dL_law_387 : decode cL_law 387 = .ok (.ireturn, 1) := by decide +kernel
theorem dL_law_388 : decode cL_law 388 = .ok (.aload_n 1, 1) := by decide +kernel
theorem dL_law_389 : decode cL_law 389 = .ok (.aload_n 0, 1) := by decide +kernel
theorem dL_law_390 : decode cL_law 390 = .ok (.iload_n 3, 1) := by decide +kernel
theorem dL_law_391 : decode cL_law 391 = .ok (.iconst 1, 1) := by decide +kernel
theorem dL_law_392 : decode cL_law 392 = .ok (.iadd, 1) := by decide +kernel
theorem dL_law_393 : decode cL_law 393 = .ok (.iaload, 1) := by decide +kernel
theorem dL_law_394 : decode cL_law 394 = .ok (.invokevirtual 66, 3) := by decide +kernel
theorem dL_law_397 : decode cL_law 397 = .ok (.aload_n 2, 1) := by decide +kernel
theorem dL_law_398 : decode cL_law 398 = .ok (.aload_n 0, 1) := by decide +kernel
theorem dL_law_399 : decode cL_law 399 = .ok (.iload_n 3, 1) := by decide +kernel
theorem dL_law_400 : decode cL_law 400 = .ok (.iconst 1, 1) := by decide +kernel
theorem dL_law_401 : decode cL_law 401 = .ok (.iadd, 1) := by decide +kernel
theorem dL_law_402 : decode cL_law 402 = .ok (.iaload, 1) := by decide +kernel
theorem dL_law_403 : decode cL_law 403 = .ok (.invokevirtual 70, 3) := by decide +kernel
theorem dL_law_406 : decode cL_law 406 = .ok (.if_icmp .eq 51, 3) := by decide +kernel
theorem dL_law_409 : decode cL_law 409 = .ok (.iconst 0, 1) := by decide +kernel
theorem dL_law_410 : decode cL_law 410 = .ok (.ireturn, 1) := by decide +kernel
theorem dL_law_411 : decode cL_law 411 = .ok (.aload_n 1, 1) := by decide +kernel
theorem dL_law_412 : decode cL_law 412 = .ok (.invokevirtual 71, 3) := by decide +kernel
theorem dL_law_415 : decode cL_law 415 = .ok (.aload_n 2, 1) := by decide +kernel
theorem dL_law_416 : decode cL_law 416 = .ok (.invokevirtual 74, 3) := by decide +kernel
theorem dL_law_419 : decode cL_law 419 = .ok (.if_icmp .eq 38, 3) := by decide +kernel
theorem dL_law_422 : decode cL_law 422 = .ok (.iconst 0, 1) := by decide +kernel
theorem dL_law_423 : decode cL_law 423 = .ok (.ireturn, 1) := by decide +kernel
theorem dL_law_424 : decode cL_law 424 = .ok (.aload_n 1, 1) := by decide +kernel
theorem dL_law_425 : decode cL_law 425 = .ok (.aload_n 0, 1) := by decide +kernel
theorem dL_law_426 : decode cL_law 426 = .ok (.iload_n 3, 1) := by decide +kernel
theorem dL_law_427 : decode cL_law 427 = .ok (.iconst 1, 1) := by decide +kernel
theorem dL_law_428 : decode cL_law 428 = .ok (.iadd, 1) := by decide +kernel
theorem dL_law_429 : decode cL_law 429 = .ok (.iaload, 1) := by decide +kernel
theorem dL_law_430 : decode cL_law 430 = .ok (.aload_n 0, 1) := by decide +kernel
theorem dL_law_431 : decode cL_law 431 = .ok (.iload_n 3, 1) := by decide +kernel
theorem dL_law_432 : decode cL_law 432 = .ok (.iconst 2, 1) := by decide +kernel
theorem dL_law_433 : decode cL_law 433 = .ok (.iadd, 1) := by decide +kernel
theorem dL_law_434 : decode cL_law 434 = .ok (.iaload, 1) := by decide +kernel
theorem dL_law_435 : decode cL_law 435 = .ok (.invokevirtual 75, 3) := by decide +kernel
theorem dL_law_438 : decode cL_law 438 = .ok (.aload_n 2, 1) := by decide +kernel
theorem dL_law_439 : decode cL_law 439 = .ok (.aload_n 0, 1) := by decide +kernel
theorem dL_law_440 : decode cL_law 440 = .ok (.iload_n 3, 1) := by decide +kernel
theorem dL_law_441 : decode cL_law 441 = .ok (.iconst 1, 1) := by decide +kernel
theorem dL_law_442 : decode cL_law 442 = .ok (.iadd, 1) := by decide +kernel
theorem dL_law_443 : decode cL_law 443 = .ok (.iaload, 1) := by decide +kernel
theorem dL_law_444 : decode cL_law 444 = .ok (.aload_n 0, 1) := by decide +kernel
theorem dL_law_445 : decode cL_law 445 = .ok (.iload_n 3, 1) := by decide +kernel
theorem dL_law_446 : decode cL_law 446 = .ok (.iconst 2, 1) := by decide +kernel
theorem dL_law_447 : decode cL_law 447 = .ok (.iadd, 1) := by decide +kernel
theorem dL_law_448 : decode cL_law 448 = .ok (.iaload, 1) := by decide +kernel
theorem dL_law_449 : decode cL_law 449 = .ok (.invokevirtual 78, 3) := by decide +kernel
theorem dL_law_452 : decode cL_law 452 = .ok (.if_icmp .eq 5, 3) := by decide +kernel
theorem dL_law_455 : decode cL_law 455 = .ok (.iconst 0, 1) := by decide +kernel
theorem dL_law_456 : decode cL_law 456 = .ok (.ireturn, 1) := by decide +kernel
theorem dL_law_457 : decode cL_law 457 = .ok (.iinc 3 4, 3) := by decide +kernel
theorem dL_law_460 : decode cL_law 460 = .ok (.goto (-412), 3) := by decide +kernel
theorem dL_law_463 : decode cL_law 463 = .ok (.iconst 1, 1) := by decide +kernel
theorem dL_law_464 : decode cL_law 464 = .ok (.ireturn, 1) := by decide +kernel
abbrev vwCl : List vw_C := [(RX0, TX0, 11), (RX1, TX1, 12)]
