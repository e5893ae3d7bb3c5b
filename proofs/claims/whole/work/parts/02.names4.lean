theorem dX1_power_34 : decode cX1_power 34 = .ok (.land, 1) := by decide +kernel
theorem dX1_power_35 : decode cX1_power 35 = .ok (.lconst 1, 1) := by decide +kernel
theorem dX1_power_36 : decode cX1_power 36 = .ok (.lcmp, 1) := by decide +kernel
theorem dX1_power_37 : decode cX1_power 37 = .ok (.ifCond .ne 15, 3) := by decide +kernel
theorem dX1_power_40 : decode cX1_power 40 = .ok (.lload 5, 2) := by decide +kernel
theorem dX1_power_42 : decode cX1_power 42 = .ok (.lload_n 1, 1) := by decide +kernel
theorem dX1_power_43 : decode cX1_power 43 = .ok (.lmul, 1) := by decide +kernel
theorem dX1_power_44 : decode cX1_power 44 = .ok (.aload_n 0, 1) := by decide +kernel
theorem dX1_power_45 : decode cX1_power 45 = .ok (.getfield 26, 3) := by decide +kernel
theorem dX1_power_48 : decode cX1_power 48 = .ok (.lrem, 1) := by decide +kernel
theorem dX1_power_49 : decode cX1_power 49 = .ok (.goto 5, 3) := by decide +kernel
theorem dX1_power_52 : decode cX1_power 52 = .ok (.lload 5, 2) := by decide +kernel
theorem dX1_power_54 : decode cX1_power 54 = .ok (.lstore 5, 2) := by decide +kernel
theorem dX1_power_56 : decode cX1_power 56 = .ok (.iinc 7 (-1), 3) := by decide +kernel
theorem dX1_power_59 : decode cX1_power 59 = .ok (.goto (-47), 3) := by decide +kernel
theorem dX1_power_62 : decode cX1_power 62 = .ok (.lload 5, 2) := by decide +kernel
theorem dX1_power_64 : decode cX1_power 64 = .ok (.lreturn, 1) := by decide +kernel
theorem dX1_swap_0 : decode cX1_swap 0 = .ok (.iconst 0, 1) := by decide +kernel
theorem dX1_swap_1 : decode cX1_swap 1 = .ok (.istore_n 3, 1) := by decide +kernel
theorem dX1_swap_2 : decode cX1_swap 2 = .ok (.iload_n 3, 1) := by decide +kernel
theorem dX1_swap_3 : decode cX1_swap 3 = .ok (.bipush 20, 2) := by decide +kernel
theorem dX1_swap_5 : decode cX1_swap 5 = .ok (.if_icmp .ge 57, 3) := by decide +kernel
theorem dX1_swap_8 : decode cX1_swap 8 = .ok (.aload_n 0, 1) := by decide +kernel
theorem dX1_swap_9 : decode cX1_swap 9 = .ok (.getfield 16, 3) := by decide +kernel
theorem dX1_swap_12 : decode cX1_swap 12 = .ok (.bipush 20, 2) := by decide +kernel
theorem dX1_swap_14 : decode cX1_swap 14 = .ok (.iload_n 1, 1) := by decide +kernel
theorem dX1_swap_15 : decode cX1_swap 15 = .ok (.imul, 1) := by decide +kernel
theorem dX1_swap_16 : decode cX1_swap 16 = .ok (.iload_n 3, 1) := by decide +kernel
theorem dX1_swap_17 : decode cX1_swap 17 = .ok (.iadd, 1) := by decide +kernel
theorem dX1_swap_18 : decode cX1_swap 18 = .ok (.laload, 1) := by decide +kernel
theorem dX1_swap_19 : decode cX1_swap 19 = .ok (.lstore 4, 2) := by decide +kernel
theorem dX1_swap_21 : decode cX1_swap 21 = .ok (.aload_n 0, 1) := by decide +kernel
theorem dX1_swap_22 : decode cX1_swap 22 = .ok (.getfield 16, 3) := by decide +kernel
theorem dX1_swap_25 : decode cX1_swap 25 = .ok (.bipush 20, 2) := by decide +kernel
theorem dX1_swap_27 : decode cX1_swap 27 = .ok (.iload_n 1, 1) := by decide +kernel
theorem dX1_swap_28 : decode cX1_swap 28 = .ok (.imul, 1) := by decide +kernel
theorem dX1_swap_29 : decode cX1_swap 29 = .ok (.iload_n 3, 1) := by decide +kernel
theorem dX1_swap_30 : decode cX1_swap 30 = .ok (.iadd, 1) := by decide +kernel
theorem dX1_swap_31 : decode cX1_swap 31 = .ok (.aload_n 0, 1) := by decide +kernel
theorem dX1_swap_32 : decode cX1_swap 32 = .ok (.getfield 16, 3) := by decide +kernel
theorem dX1_swap_35 : decode cX1_swap 35 = .ok (.bipush 20, 2) := by decide +kernel
theorem dX1_swap_37 : decode cX1_swap 37 = .ok (.iload_n 2, 1) := by decide +kernel
theorem dX1_swap_38 : decode cX1_swap 38 = .ok (.imul, 1) := by decide +kernel
theorem dX1_swap_39 : decode cX1_swap 39 = .ok (.iload_n 3, 1) := by decide +kernel
theorem dX1_swap_40 : decode cX1_swap 40 = .ok (.iadd, 1) := by decide +kernel
theorem dX1_swap_41 : decode cX1_swap 41 = .ok (.laload, 1) := by decide +kernel
theorem dX1_swap_42 : decode cX1_swap 42 = .ok (.lastore, 1) := by decide +kernel
theorem dX1_swap_43 : decode cX1_swap 43 = .ok (.aload_n 0, 1) := by decide +kernel
theorem dX1_swap_44 : decode cX1_swap 44 = .ok (.getfield 16, 3) := by decide +kernel
theorem dX1_swap_47 : decode cX1_swap 47 = .ok (.bipush 20, 2) := by decide +kernel
theorem dX1_swap_49 : decode cX1_swap 49 = .ok (.iload_n 2, 1) := by decide +kernel
theorem dX1_swap_50 : decode cX1_swap 50 = .ok (.imul, 1) := by decide +kernel
theorem dX1_swap_51 : decode cX1_swap 51 = .ok (.iload_n 3, 1) := by decide +kernel
theorem dX1_swap_52 : decode cX1_swap 52 = .ok (.iadd, 1) := by decide +kernel
theorem dX1_swap_53 : decode cX1_swap 53 = .ok (.lload 4, 2) := by decide +kernel
theorem dX1_swap_55 : decode cX1_swap 55 = .ok (.lastore, 1) := by decide +kernel
theorem dX1_swap_56 : decode cX1_swap 56 = .ok (.iinc 3 1, 3) := by decide +kernel
theorem dX1_swap_59 : decode cX1_swap 59 = .ok (.goto (-57), 3) := by decide +kernel
theorem dX1_swap_62 : decode cX1_swap 62 = .ok (.return_, 1) := by decide +kernel
theorem dX1_firstWith_0 : decode cX1_firstWith 0 = .ok (.aload_n 0, 1) := by decide +kernel
theorem dX1_firstWith_1 : decode cX1_firstWith 1 = .ok (.getfield 57, 3) := by decide +kernel
theorem dX1_firstWith_4 : decode cX1_firstWith 4 = .ok (.istore_n 2, 1) := by decide +kernel
theorem dX1_firstWith_5 : decode cX1_firstWith 5 = .ok (.iload_n 2, 1) := by decide +kernel
theorem dX1_firstWith_6 : decode cX1_firstWith 6 = .ok (.aload_n 0, 1) := by decide +kernel
theorem dX1_firstWith_7 : decode cX1_firstWith 7 = .ok (.getfield 30, 3) := by decide +kernel
theorem dX1_firstWith_10 : decode cX1_firstWith 10 = .ok (.if_icmp .ge 25, 3) := by decide +kernel
theorem dX1_firstWith_13 : decode cX1_firstWith 13 = .ok (.aload_n 0, 1) := by decide +kernel
theorem dX1_firstWith_14 : decode cX1_firstWith 14 = .ok (.getfield 16, 3) := by decide +kernel
theorem dX1_firstWith_17 : decode cX1_firstWith 17 = .ok (.bipush 20, 2) := by decide +kernel
theorem dX1_firstWith_19 : decode cX1_firstWith 19 = .ok (.iload_n 2, 1) := by decide +kernel
theorem dX1_firstWith_20 : decode cX1_firstWith 20 = .ok (.imul, 1) := by decide +kernel
theorem dX1_firstWith_21 : decode cX1_firstWith 21 = .ok (.iload_n 1, 1) := by decide +kernel
theorem dX1_firstWith_22 : decode cX1_firstWith 22 = .ok (.iadd, 1) := by decide +kernel
theorem dX1_firstWith_23 : decode cX1_firstWith 23 = .ok (.laload, 1) := by decide +kernel
theorem dX1_firstWith_24 : decode cX1_firstWith 24 = .ok (.lconst 0, 1) := by decide +kernel
theorem dX1_firstWith_25 : decode cX1_firstWith 25 = .ok (.lcmp, 1) := by decide +kernel
theorem dX1_firstWith_26 : decode cX1_firstWith 26 = .ok (.ifCond .ne 9, 3) := by decide +kernel
theorem dX1_firstWith_29 : decode cX1_firstWith 29 = .ok (.iinc 2 1, 3) := by decide +kernel
theorem dX1_firstWith_32 : decode cX1_firstWith 32 = .ok (.goto (-27), 3) := by decide +kernel
theorem dX1_firstWith_35 : decode cX1_firstWith 35 = .ok (.iload_n 2, 1) := by decide +kernel
theorem dX1_firstWith_36 : decode cX1_firstWith 36 = .ok (.ireturn, 1) := by decide +kernel
set_option maxRecDepth 20000 in
theorem ggX1_clear_X1_power : GoodIn wsX1_clear wsX1_power := goodIn_r _ [10, 3, 11, 12, 13, 14, 15, 16, 17, 18, 19, 20, 21, 22] (by decide +kernel) (by decide +kernel)
set_option maxRecDepth 20000 in
theorem gX1_clear_X1_power : GoodIn wsX1_clear (wsV RX1 60 RX1 yX1_power wsX1_power) := goodIn_app (goodIn_of _ (by decide +kernel)) ggX1_clear_X1_power
theorem dX1_clear_0 : decode cX1_clear 0 = .ok (.aload_n 0, 1) := by decide +kernel
theorem dX1_clear_1 : decode cX1_clear 1 = .ok (.aload_n 0, 1) := by decide +kernel
theorem dX1_clear_2 : decode cX1_clear 2 = .ok (.getfield 16, 3) := by decide +kernel
theorem dX1_clear_5 : decode cX1_clear 5 = .ok (.bipush 20, 2) := by decide +kernel
theorem dX1_clear_7 : decode cX1_clear 7 = .ok (.aload_n 0, 1) := by decide +kernel
theorem dX1_clear_8 : decode cX1_clear 8 = .ok (.getfield 57, 3) := by decide +kernel
theorem dX1_clear_11 : decode cX1_clear 11 = .ok (.imul, 1) := by decide +kernel
theorem dX1_clear_12 : decode cX1_clear 12 = .ok (.iload_n 1, 1) := by decide +kernel
theorem dX1_clear_13 : decode cX1_clear 13 = .ok (.iadd, 1) := by decide +kernel
theorem dX1_clear_14 : decode cX1_clear 14 = .ok (.laload, 1) := by decide +kernel
theorem dX1_clear_15 : decode cX1_clear 15 = .ok (.aload_n 0, 1) := by decide +kernel
theorem dX1_clear_16 : decode cX1_clear 16 = .ok (.getfield 26, 3) := by decide +kernel
theorem dX1_clear_19 : decode cX1_clear 19 = .ok (.ldc2_w 48, 3) := by decide +kernel
theorem dX1_clear_22 : decode cX1_clear 22 = .ok (.lsub, 1) := by decide +kernel
theorem dX1_clear_23 : decode cX1_clear 23 = .ok (.invokevirtual 60, 3) := by decide +kernel
theorem dX1_clear_26 : decode cX1_clear 26 = .ok (.lstore_n 2, 1) := by decide +kernel
theorem dX1_clear_27 : decode cX1_clear 27 = .ok (.iconst 0, 1) := by decide +kernel
theorem dX1_clear_28 : decode cX1_clear 28 = .ok (.istore 4, 2) := by decide +kernel
theorem dX1_clear_30 : decode cX1_clear 30 = .ok (.iload 4, 2) := by decide +kernel
theorem dX1_clear_32 : decode cX1_clear 32 = .ok (.bipush 20, 2) := by decide +kernel
theorem dX1_clear_34 : decode cX1_clear 34 = .ok (.if_icmp .ge 46, 3) := by decide +kernel
theorem dX1_clear_37 : decode cX1_clear 37 = .ok (.aload_n 0, 1) := by decide +kernel
theorem dX1_clear_38 : decode cX1_clear 38 = .ok (.getfield 16, 3) := by decide +kernel
theorem dX1_clear_41 : decode cX1_clear 41 = .ok (.bipush 20, 2) := by decide +kernel
theorem dX1_clear_43 : decode cX1_clear 43 = .ok (.aload_n 0, 1) := by decide +kernel
theorem dX1_clear_44 : decode cX1_clear 44 = .ok (.getfield 57, 3) := by decide +kernel
theorem dX1_clear_47 : decode cX1_clear 47 = .ok (.imul, 1) := by decide +kernel
theorem dX1_clear_48 : decode cX1_clear 48 = .ok (.iload 4, 2) := by decide +kernel
theorem dX1_clear_50 : decode cX1_clear 50 = .ok (.iadd, 1) := by decide +kernel
theorem dX1_clear_51 : decode cX1_clear 51 = .ok (.aload_n 0, 1) := by decide +kernel
theorem dX1_clear_52 : decode cX1_clear 52 = .ok (.getfield 16, 3) := by decide +kernel
theorem dX1_clear_55 : decode cX1_clear 55 = .ok (.bipush 20, 2) := by decide +kernel
theorem dX1_clear_57 : decode cX1_clear 57 = .ok (.aload_n 0, 1) := by decide +kernel
theorem dX1_clear_58 : decode cX1_clear 58 = .ok (.getfield 57, 3) := by decide +kernel
theorem dX1_clear_61 : decode cX1_clear 61 = .ok (.imul, 1) := by decide +kernel
theorem dX1_clear_62 : decode cX1_clear 62 = .ok (.iload 4, 2) := by decide +kernel
theorem dX1_clear_64 : decode cX1_clear 64 = .ok (.iadd, 1) := by decide +kernel
theorem dX1_clear_65 : decode cX1_clear 65 = .ok (.laload, 1) := by decide +kernel
theorem dX1_clear_66 : decode cX1_clear 66 = .ok (.lload_n 2, 1) := by decide +kernel
theorem dX1_clear_67 : decode cX1_clear 67 = .ok (.lmul, 1) := by decide +kernel
theorem dX1_clear_68 : decode cX1_clear 68 = .ok (.aload_n 0, 1) := by decide +kernel
theorem dX1_clear_69 : decode cX1_clear 69 = .ok (.getfield 26, 3) := by decide +kernel
theorem dX1_clear_72 : decode cX1_clear 72 = .ok (.lrem, 1) := by decide +kernel
theorem dX1_clear_73 : decode cX1_clear 73 = .ok (.lastore, 1) := by decide +kernel
theorem dX1_clear_74 : decode cX1_clear 74 = .ok (.iinc 4 1, 3) := by decide +kernel
theorem dX1_clear_77 : decode cX1_clear 77 = .ok (.goto (-47), 3) := by decide +kernel
theorem dX1_clear_80 : decode cX1_clear 80 = .ok (.iconst 0, 1) := by decide +kernel
theorem dX1_clear_81 : decode cX1_clear 81 = .ok (.istore 4, 2) := by decide +kernel
theorem dX1_clear_83 : decode cX1_clear 83 = .ok (.iload 4, 2) := by decide +kernel
theorem dX1_clear_85 : decode cX1_clear 85 = .ok (.aload_n 0, 1) := by decide +kernel
theorem dX1_clear_86 : decode cX1_clear 86 = .ok (.getfield 30, 3) := by decide +kernel
theorem dX1_clear_89 : decode cX1_clear 89 = .ok (.if_icmp .ge 107, 3) := by decide +kernel
theorem dX1_clear_92 : decode cX1_clear 92 = .ok (.iload 4, 2) := by decide +kernel
theorem dX1_clear_94 : decode cX1_clear 94 = .ok (.aload_n 0, 1) := by decide +kernel
theorem dX1_clear_95 : decode cX1_clear 95 = .ok (.getfield 57, 3) := by decide +kernel
theorem dX1_clear_98 : decode cX1_clear 98 = .ok (.if_icmp .ne 7, 3) := by decide +kernel
theorem dX1_clear_101 : decode cX1_clear 101 = .ok (.lconst 0, 1) := by decide +kernel
theorem dX1_clear_102 : decode cX1_clear 102 = .ok (.goto 15, 3) := by decide +kernel
theorem dX1_clear_105 : decode cX1_clear 105 = .ok (.aload_n 0, 1) := by decide +kernel
theorem dX1_clear_106 : decode cX1_clear 106 = .ok (.getfield 16, 3) := by decide +kernel
theorem dX1_clear_109 : decode cX1_clear 109 = .ok (.bipush 20, 2) := by decide +kernel
theorem dX1_clear_111 : decode cX1_clear 111 = .ok (.iload 4, 2) := by decide +kernel
theorem dX1_clear_113 : decode cX1_clear 113 = .ok (.imul, 1) := by decide +kernel
theorem dX1_clear_114 : decode cX1_clear 114 = .ok (.iload_n 1, 1) := by decide +kernel
theorem dX1_clear_115 : decode cX1_clear 115 = .ok (.iadd, 1) := by decide +kernel
theorem dX1_clear_116 : decode cX1_clear 116 = .ok (.laload, 1) := by decide +kernel
theorem dX1_clear_117 : decode cX1_clear 117 = .ok (.lstore 5, 2) := by decide +kernel
theorem dX1_clear_119 : decode cX1_clear 119 = .ok (.iconst 0, 1) := by decide +kernel
theorem dX1_clear_120 : decode cX1_clear 120 = .ok (.istore 7, 2) := by decide +kernel
theorem dX1_clear_122 : decode cX1_clear 122 = .ok (.iload 7, 2) := by decide +kernel
theorem dX1_clear_124 : decode cX1_clear 124 = .ok (.bipush 20, 2) := by decide +kernel
theorem dX1_clear_126 : decode cX1_clear 126 = .ok (.if_icmp .ge 64, 3) := by decide +kernel
theorem dX1_clear_129 : decode cX1_clear 129 = .ok (.aload_n 0, 1) := by decide +kernel
theorem dX1_clear_130 : decode cX1_clear 130 = .ok (.getfield 16, 3) := by decide +kernel
theorem dX1_clear_133 : decode cX1_clear 133 = .ok (.bipush 20, 2) := by decide +kernel
theorem dX1_clear_135 : decode cX1_clear 135 = .ok (.iload 4, 2) := by decide +kernel
theorem dX1_clear_137 : decode cX1_clear 137 = .ok (.imul, 1) := by decide +kernel
theorem dX1_clear_138 : decode cX1_clear 138 = .ok (.iload 7, 2) := by decide +kernel
theorem dX1_clear_140 : decode cX1_clear 140 = .ok (.iadd, 1) := by decide +kernel
theorem dX1_clear_141 : decode cX1_clear 141 = .ok (.aload_n 0, 1) := by decide +kernel
theorem dX1_clear_142 : decode cX1_clear 142 = .ok (.getfield 16, 3) := by decide +kernel
theorem dX1_clear_145 : decode cX1_clear 145 = .ok (.bipush 20, 2) := by decide +kernel
theorem dX1_clear_147 : decode cX1_clear 147 = .ok (.iload 4, 2) := by decide +kernel
theorem dX1_clear_149 : decode cX1_clear 149 = .ok (.imul, 1) := by decide +kernel
theorem dX1_clear_150 : decode cX1_clear 150 = .ok (.iload 7, 2) := by decide +kernel
theorem dX1_clear_152 : decode cX1_clear 152 = .ok (.iadd, 1) := by decide +kernel
theorem dX1_clear_153 : decode cX1_clear 153 = .ok (.laload, 1) := by decide +kernel
theorem dX1_clear_154 : decode cX1_clear 154 = .ok (.aload_n 0, 1) := by decide +kernel
theorem dX1_clear_155 : decode cX1_clear 155 = .ok (.getfield 26, 3) := by decide +kernel
theorem dX1_clear_158 : decode cX1_clear 158 = .ok (.lload 5, 2) := by decide +kernel
theorem dX1_clear_160 : decode cX1_clear 160 = .ok (.lsub, 1) := by decide +kernel
theorem dX1_clear_161 : decode cX1_clear 161 = .ok (.aload_n 0, 1) := by decide +kernel
theorem dX1_clear_162 : decode cX1_clear 162 = .ok (.getfield 16, 3) := by decide +kernel
theorem dX1_clear_165 : decode cX1_clear 165 = .ok (.bipush 20, 2) := by decide +kernel
theorem dX1_clear_167 : decode cX1_clear 167 = .ok (.aload_n 0, 1) := by decide +kernel
theorem dX1_clear_168 : decode cX1_clear 168 = .ok (.getfield 57, 3) := by decide +kernel
theorem dX1_clear_171 : decode cX1_clear 171 = .ok (.imul, 1) := by decide +kernel
theorem dX1_clear_172 : decode cX1_clear 172 = .ok (.iload 7, 2) := by decide +kernel
theorem dX1_clear_174 : decode cX1_clear 174 = .ok (.iadd, 1) := by decide +kernel
theorem dX1_clear_175 : decode cX1_clear 175 = .ok (.laload, 1) := by decide +kernel
theorem dX1_clear_176 : decode cX1_clear 176 = .ok (.lmul, 1) := by decide +kernel
theorem dX1_clear_177 : decode cX1_clear 177 = .ok (.ladd, 1) := by decide +kernel
theorem dX1_clear_178 : decode cX1_clear 178 = .ok (.aload_n 0, 1) := by decide +kernel
theorem dX1_clear_179 : decode cX1_clear 179 = .ok (.getfield 26, 3) := by decide +kernel
theorem dX1_clear_182 : decode cX1_clear 182 = .ok (.lrem, 1) := by decide +kernel
theorem dX1_clear_183 : decode cX1_clear 183 = .ok (.lastore, 1) := by decide +kernel
theorem dX1_clear_184 : decode cX1_clear 184 = .ok (.iinc 7 1, 3) := by decide +kernel
theorem dX1_clear_187 : decode cX1_clear 187 = .ok (.goto (-65), 3) := by decide +kernel
theorem dX1_clear_190 : decode cX1_clear 190 = .ok (.iinc 4 1, 3) := by decide +kernel
theorem dX1_clear_193 : decode cX1_clear 193 = .ok (.goto (-110), 3) := by decide +kernel
theorem dX1_clear_196 : decode cX1_clear 196 = .ok (.return_, 1) := by decide +kernel
set_option maxRecDepth 20000 in
theorem ggX1_reduce_X1_firstWith : GoodIn wsX1_reduce wsX1_firstWith := goodIn_r _ [14, 7, 3, 4, 29, 30, 31, 32, 33, 34, 35, 36, 37, 38, 39, 40] (by decide +kernel) (by decide +kernel)
set_option maxRecDepth 20000 in
theorem gX1_reduce_X1_firstWith : GoodIn wsX1_reduce (wsV RX1 64 RX1 yX1_firstWith wsX1_firstWith) := goodIn_app (goodIn_of _ (by decide +kernel)) ggX1_reduce_X1_firstWith
set_option maxRecDepth 20000 in
theorem ggX1_reduce_X1_swap : GoodIn wsX1_reduce wsX1_swap := goodIn_r _ [18, 4, 29, 30, 31, 32, 33, 34, 35, 36, 37, 38, 39, 40] (by decide +kernel) (by decide +kernel)
set_option maxRecDepth 20000 in
theorem gX1_reduce_X1_swap : GoodIn wsX1_reduce (wsV RX1 68 RX1 yX1_swap wsX1_swap) := goodIn_app (goodIn_of _ (by decide +kernel)) ggX1_reduce_X1_swap
set_option maxRecDepth 20000 in
theorem ggX1_reduce_X1_clear : GoodIn wsX1_reduce wsX1_clear := goodIn_r _ [22, 4, 7, 23, 24, 3, 25, 26, 27, 13, 28, 29, 30, 31, 32, 33, 34, 35, 36, 37, 38, 39, 40] (by decide +kernel) (by decide +kernel)
set_option maxRecDepth 20000 in
theorem gX1_reduce_X1_clear : GoodIn wsX1_reduce (wsV RX1 72 RX1 yX1_clear wsX1_clear) := goodIn_app (goodIn_of _ (by decide +kernel)) ggX1_reduce_X1_clear
theorem dX1_reduce_0 : decode cX1_reduce 0 = .ok (.aload_n 0, 1) := by decide +kernel
theorem dX1_reduce_1 : decode cX1_reduce 1 = .ok (.iconst 0, 1) := by decide +kernel
theorem dX1_reduce_2 : decode cX1_reduce 2 = .ok (.putfield 45, 3) := by decide +kernel
theorem dX1_reduce_5 : decode cX1_reduce 5 = .ok (.aload_n 0, 1) := by decide +kernel
theorem dX1_reduce_6 : decode cX1_reduce 6 = .ok (.getfield 41, 3) := by decide +kernel
theorem dX1_reduce_9 : decode cX1_reduce 9 = .ok (.ifCond .ne 5, 3) := by decide +kernel
theorem dX1_reduce_12 : decode cX1_reduce 12 = .ok (.iconst (-1), 1) := by decide +kernel
theorem dX1_reduce_13 : decode cX1_reduce 13 = .ok (.ireturn, 1) := by decide +kernel
theorem dX1_reduce_14 : decode cX1_reduce 14 = .ok (.iconst 0, 1) := by decide +kernel
theorem dX1_reduce_15 : decode cX1_reduce 15 = .ok (.istore_n 1, 1) := by decide +kernel
theorem dX1_reduce_16 : decode cX1_reduce 16 = .ok (.iload_n 1, 1) := by decide +kernel
theorem dX1_reduce_17 : decode cX1_reduce 17 = .ok (.aload_n 0, 1) := by decide +kernel
theorem dX1_reduce_18 : decode cX1_reduce 18 = .ok (.getfield 30, 3) := by decide +kernel
theorem dX1_reduce_21 : decode cX1_reduce 21 = .ok (.if_icmp .ge 81, 3) := by decide +kernel
theorem dX1_reduce_24 : decode cX1_reduce 24 = .ok (.iconst 0, 1) := by decide +kernel
theorem dX1_reduce_25 : decode cX1_reduce 25 = .ok (.istore_n 2, 1) := by decide +kernel
theorem dX1_reduce_26 : decode cX1_reduce 26 = .ok (.iload_n 2, 1) := by decide +kernel
theorem dX1_reduce_27 : decode cX1_reduce 27 = .ok (.bipush 10, 2) := by decide +kernel
theorem dX1_reduce_29 : decode cX1_reduce 29 = .ok (.if_icmp .ge 67, 3) := by decide +kernel
theorem dX1_reduce_32 : decode cX1_reduce 32 = .ok (.aload_n 0, 1) := by decide +kernel
theorem dX1_reduce_33 : decode cX1_reduce 33 = .ok (.getfield 16, 3) := by decide +kernel
theorem dX1_reduce_36 : decode cX1_reduce 36 = .ok (.bipush 20, 2) := by decide +kernel
theorem dX1_reduce_38 : decode cX1_reduce 38 = .ok (.iload_n 1, 1) := by decide +kernel
theorem dX1_reduce_39 : decode cX1_reduce 39 = .ok (.imul, 1) := by decide +kernel
theorem dX1_reduce_40 : decode cX1_reduce 40 = .ok (.iload_n 2, 1) := by decide +kernel
theorem dX1_reduce_41 : decode cX1_reduce 41 = .ok (.iadd, 1) := by decide +kernel
theorem dX1_reduce_42 : decode cX1_reduce 42 = .ok (.iload_n 2, 1) := by decide +kernel
theorem dX1_reduce_43 : decode cX1_reduce 43 = .ok (.aload_n 0, 1) := by decide +kernel
theorem dX1_reduce_44 : decode cX1_reduce 44 = .ok (.getfield 34, 3) := by decide +kernel
theorem dX1_reduce_47 : decode cX1_reduce 47 = .ok (.if_icmp .ge 17, 3) := by decide +kernel
theorem dX1_reduce_50 : decode cX1_reduce 50 = .ok (.aload_n 0, 1) := by decide +kernel
theorem dX1_reduce_51 : decode cX1_reduce 51 = .ok (.getfield 7, 3) := by decide +kernel
theorem dX1_reduce_54 : decode cX1_reduce 54 = .ok (.bipush 10, 2) := by decide +kernel
theorem dX1_reduce_56 : decode cX1_reduce 56 = .ok (.iload_n 1, 1) := by decide +kernel
theorem dX1_reduce_57 : decode cX1_reduce 57 = .ok (.imul, 1) := by decide +kernel
theorem dX1_reduce_58 : decode cX1_reduce 58 = .ok (.iload_n 2, 1) := by decide +kernel
theorem dX1_reduce_59 : decode cX1_reduce 59 = .ok (.iadd, 1) := by decide +kernel
theorem dX1_reduce_60 : decode cX1_reduce 60 = .ok (.laload, 1) := by decide +kernel
theorem dX1_reduce_61 : decode cX1_reduce 61 = .ok (.goto 4, 3) := by decide +kernel
theorem dX1_reduce_64 : decode cX1_reduce 64 = .ok (.lconst 0, 1) := by decide +kernel
theorem dX1_reduce_65 : decode cX1_reduce 65 = .ok (.lastore, 1) := by decide +kernel
theorem dX1_reduce_66 : decode cX1_reduce 66 = .ok (.aload_n 0, 1) := by decide +kernel
theorem dX1_reduce_67 : decode cX1_reduce 67 = .ok (.getfield 16, 3) := by decide +kernel
theorem dX1_reduce_70 : decode cX1_reduce 70 = .ok (.bipush 20, 2) := by decide +kernel
theorem dX1_reduce_72 : decode cX1_reduce 72 = .ok (.iload_n 1, 1) := by decide +kernel
theorem dX1_reduce_73 : decode cX1_reduce 73 = .ok (.imul, 1) := by decide +kernel
theorem dX1_reduce_74 : decode cX1_reduce 74 = .ok (.bipush 10, 2) := by decide +kernel
theorem dX1_reduce_76 : decode cX1_reduce 76 = .ok (.iadd, 1) := by decide +kernel
theorem dX1_reduce_77 : decode cX1_reduce 77 = .ok (.iload_n 2, 1) := by decide +kernel
theorem dX1_reduce_78 : decode cX1_reduce 78 = .ok (.iadd, 1) := by decide +kernel
theorem dX1_reduce_79 : decode cX1_reduce 79 = .ok (.iload_n 1, 1) := by decide +kernel
theorem dX1_reduce_80 : decode cX1_reduce 80 = .ok (.iload_n 2, 1) := by decide +kernel
theorem dX1_reduce_81 : decode cX1_reduce 81 = .ok (.if_icmp .ne 7, 3) := by decide +kernel
theorem dX1_reduce_84 : decode cX1_reduce 84 = .ok (.lconst 1, 1) := by decide +kernel
theorem dX1_reduce_85 : decode cX1_reduce 85 = .ok (.goto 4, 3) := by decide +kernel
theorem dX1_reduce_88 : decode cX1_reduce 88 = .ok (.lconst 0, 1) := by decide +kernel
theorem dX1_reduce_89 : decode cX1_reduce 89 = .ok (.lastore, 1) := by decide +kernel
theorem dX1_reduce_90 : decode cX1_reduce 90 = .ok (.iinc 2 1, 3) := by decide +kernel
theorem dX1_reduce_93 : decode cX1_reduce 93 = .ok (.goto (-67), 3) := by decide +kernel
theorem dX1_reduce_96 : decode cX1_reduce 96 = .ok (.iinc 1 1, 3) := by decide +kernel
theorem dX1_reduce_99 : decode cX1_reduce 99 = .ok (.goto (-83), 3) := by decide +kernel
theorem dX1_reduce_102 : decode cX1_reduce 102 = .ok (.aload_n 0, 1) := by decide +kernel
theorem dX1_reduce_103 : decode cX1_reduce 103 = .ok (.iconst 0, 1) := by decide +kernel
theorem dX1_reduce_104 : decode cX1_reduce 104 = .ok (.putfield 57, 3) := by decide +kernel
theorem dX1_reduce_107 : decode cX1_reduce 107 = .ok (.iconst 0, 1) := by decide +kernel
theorem dX1_reduce_108 : decode cX1_reduce 108 = .ok (.istore_n 1, 1) := by decide +kernel
theorem dX1_reduce_109 : decode cX1_reduce 109 = .ok (.iload_n 1, 1) := by decide +kernel
theorem dX1_reduce_110 : decode cX1_reduce 110 = .ok (.aload_n 0, 1) := by decide +kernel
theorem dX1_reduce_111 : decode cX1_reduce 111 = .ok (.getfield 34, 3) := by decide +kernel
theorem dX1_reduce_114 : decode cX1_reduce 114 = .ok (.if_icmp .ge 68, 3) := by decide +kernel
theorem dX1_reduce_117 : decode cX1_reduce 117 = .ok (.aload_n 0, 1) := by decide +kernel
theorem dX1_reduce_118 : decode cX1_reduce 118 = .ok (.getfield 57, 3) := by decide +kernel
theorem dX1_reduce_121 : decode cX1_reduce 121 = .ok (.aload_n 0, 1) := by decide +kernel
theorem dX1_reduce_122 : decode cX1_reduce 122 = .ok (.getfield 30, 3) := by decide +kernel
theorem dX1_reduce_125 : decode cX1_reduce 125 = .ok (.if_icmp .ge 57, 3) := by decide +kernel
theorem dX1_reduce_128 : decode cX1_reduce 128 = .ok (.aload_n 0, 1) := by decide +kernel
theorem dX1_reduce_129 : decode cX1_reduce 129 = .ok (.iload_n 1, 1) := by decide +kernel
theorem dX1_reduce_130 : decode cX1_reduce 130 = .ok (.invokevirtual 64, 3) := by decide +kernel
theorem dX1_reduce_133 : decode cX1_reduce 133 = .ok (.istore_n 2, 1) := by decide +kernel
theorem dX1_reduce_134 : decode cX1_reduce 134 = .ok (.iload_n 2, 1) := by decide +kernel
theorem dX1_reduce_135 : decode cX1_reduce 135 = .ok (.aload_n 0, 1) := by decide +kernel
theorem dX1_reduce_136 : decode cX1_reduce 136 = .ok (.getfield 30, 3) := by decide +kernel
theorem dX1_reduce_139 : decode cX1_reduce 139 = .ok (.if_icmp .ge 37, 3) := by decide +kernel
theorem dX1_reduce_142 : decode cX1_reduce 142 = .ok (.aload_n 0, 1) := by decide +kernel
theorem dX1_reduce_143 : decode cX1_reduce 143 = .ok (.iload_n 2, 1) := by decide +kernel
theorem dX1_reduce_144 : decode cX1_reduce 144 = .ok (.aload_n 0, 1) := by decide +kernel
theorem dX1_reduce_145 : decode cX1_reduce 145 = .ok (.getfield 57, 3) := by decide +kernel
theorem dX1_reduce_148 : decode cX1_reduce 148 = .ok (.invokevirtual 68, 3) := by decide +kernel
theorem dX1_reduce_151 : decode cX1_reduce 151 = .ok (.aload_n 0, 1) := by decide +kernel
theorem dX1_reduce_152 : decode cX1_reduce 152 = .ok (.iload_n 1, 1) := by decide +kernel
theorem dX1_reduce_153 : decode cX1_reduce 153 = .ok (.invokevirtual 72, 3) := by decide +kernel
theorem dX1_reduce_156 : decode cX1_reduce 156 = .ok (.aload_n 0, 1) := by decide +kernel
theorem dX1_reduce_157 : decode cX1_reduce 157 = .ok (.getfield 19, 3) := by decide +kernel
theorem dX1_reduce_160 : decode cX1_reduce 160 = .ok (.aload_n 0, 1) := by decide +kernel
theorem dX1_reduce_161 : decode cX1_reduce 161 = .ok (.getfield 57, 3) := by decide +kernel
theorem dX1_reduce_164 : decode cX1_reduce 164 = .ok (.iload_n 1, 1) := by decide +kernel
theorem dX1_reduce_165 : decode cX1_reduce 165 = .ok (.iastore, 1) := by decide +kernel
theorem dX1_reduce_166 : decode cX1_reduce 166 = .ok (.aload_n 0, 1) := by decide +kernel
theorem dX1_reduce_167 : decode cX1_reduce 167 = .ok (.dup, 1) := by decide +kernel
theorem dX1_reduce_168 : decode cX1_reduce 168 = .ok (.getfield 57, 3) := by decide +kernel
theorem dX1_reduce_171 : decode cX1_reduce 171 = .ok (.iconst 1, 1) := by decide +kernel
theorem dX1_reduce_172 : decode cX1_reduce 172 = .ok (.iadd, 1) := by decide +kernel
theorem dX1_reduce_173 : decode cX1_reduce 173 = .ok (.putfield 57, 3) := by decide +kernel
theorem dX1_reduce_176 : decode cX1_reduce 176 = .ok (.iinc 1 1, 3) := by decide +kernel
theorem dX1_reduce_179 : decode cX1_reduce 179 = .ok (.goto (-70), 3) := by decide +kernel
theorem dX1_reduce_182 : decode cX1_reduce 182 = .ok (.aload_n 0, 1) := by decide +kernel
theorem dX1_reduce_183 : decode cX1_reduce 183 = .ok (.iconst 1, 1) := by decide +kernel
theorem dX1_reduce_184 : decode cX1_reduce 184 = .ok (.putfield 54, 3) := by decide +kernel
theorem dX1_reduce_187 : decode cX1_reduce 187 = .ok (.aload_n 0, 1) := by decide +kernel
theorem dX1_reduce_188 : decode cX1_reduce 188 = .ok (.getfield 57, 3) := by decide +kernel
theorem dX1_reduce_191 : decode cX1_reduce 191 = .ok (.ireturn, 1) := by decide +kernel
theorem dX1_rank_0 : decode cX1_rank 0 = .ok (.aload_n 0, 1) := by decide +kernel
theorem dX1_rank_1 : decode cX1_rank 1 = .ok (.iconst 0, 1) := by decide +kernel
theorem dX1_rank_2 : decode cX1_rank 2 = .ok (.putfield 45, 3) := by decide +kernel
theorem dX1_rank_5 : decode cX1_rank 5 = .ok (.aload_n 0, 1) := by decide +kernel
theorem dX1_rank_6 : decode cX1_rank 6 = .ok (.getfield 54, 3) := by decide +kernel
theorem dX1_rank_9 : decode cX1_rank 9 = .ok (.ifCond .eq 10, 3) := by decide +kernel
theorem dX1_rank_12 : decode cX1_rank 12 = .ok (.aload_n 0, 1) := by decide +kernel
theorem dX1_rank_13 : decode cX1_rank 13 = .ok (.getfield 57, 3) := by decide +kernel
theorem dX1_rank_16 : decode cX1_rank 16 = .ok (.goto 4, 3) := by decide +kernel
theorem dX1_rank_19 : decode cX1_rank 19 = .ok (.iconst (-1), 1) := by decide +kernel
theorem dX1_rank_20 : decode cX1_rank 20 = .ok (.ireturn, 1) := by decide +kernel
set_option maxRecDepth 20000 in
theorem ggX1_rrefAt_X1_isPlace : GoodIn wsX1_rrefAt wsX1_isPlace := goodIn_r _ [8, 9, 10, 11, 12, 13, 14, 15, 16, 17, 18, 19, 20, 21, 22, 23] (by decide +kernel) (by decide +kernel)
set_option maxRecDepth 20000 in
theorem gX1_rrefAt_X1_isPlace : GoodIn wsX1_rrefAt (wsV RX1 50 RX1 yX1_isPlace wsX1_isPlace) := goodIn_app (goodIn_of _ (by decide +kernel)) ggX1_rrefAt_X1_isPlace
theorem dX1_rrefAt_0 : decode cX1_rrefAt 0 = .ok (.aload_n 0, 1) := by decide +kernel
theorem dX1_rrefAt_1 : decode cX1_rrefAt 1 = .ok (.iconst 0, 1) := by decide +kernel
theorem dX1_rrefAt_2 : decode cX1_rrefAt 2 = .ok (.putfield 45, 3) := by decide +kernel
theorem dX1_rrefAt_5 : decode cX1_rrefAt 5 = .ok (.aload_n 0, 1) := by decide +kernel
theorem dX1_rrefAt_6 : decode cX1_rrefAt 6 = .ok (.getfield 54, 3) := by decide +kernel
theorem dX1_rrefAt_9 : decode cX1_rrefAt 9 = .ok (.ifCond .eq 27, 3) := by decide +kernel
theorem dX1_rrefAt_12 : decode cX1_rrefAt 12 = .ok (.aload_n 0, 1) := by decide +kernel
theorem dX1_rrefAt_13 : decode cX1_rrefAt 13 = .ok (.iload_n 1, 1) := by decide +kernel
theorem dX1_rrefAt_14 : decode cX1_rrefAt 14 = .ok (.iload_n 2, 1) := by decide +kernel
theorem dX1_rrefAt_15 : decode cX1_rrefAt 15 = .ok (.invokevirtual 50, 3) := by decide +kernel
theorem dX1_rrefAt_18 : decode cX1_rrefAt 18 = .ok (.ifCond .eq 18, 3) := by decide +kernel
theorem dX1_rrefAt_21 : decode cX1_rrefAt 21 = .ok (.aload_n 0, 1) := by decide +kernel
theorem dX1_rrefAt_22 : decode cX1_rrefAt 22 = .ok (.getfield 16, 3) := by decide +kernel
theorem dX1_rrefAt_25 : decode cX1_rrefAt 25 = .ok (.bipush 20, 2) := by decide +kernel
theorem dX1_rrefAt_27 : decode cX1_rrefAt 27 = .ok (.iload_n 1, 1) := by decide +kernel
theorem dX1_rrefAt_28 : decode cX1_rrefAt 28 = .ok (.imul, 1) := by decide +kernel
theorem dX1_rrefAt_29 : decode cX1_rrefAt 29 = .ok (.iload_n 2, 1) := by decide +kernel
theorem dX1_rrefAt_30 : decode cX1_rrefAt 30 = .ok (.iadd, 1) := by decide +kernel
theorem dX1_rrefAt_31 : decode cX1_rrefAt 31 = .ok (.laload, 1) := by decide +kernel
theorem dX1_rrefAt_32 : decode cX1_rrefAt 32 = .ok (.l2i, 1) := by decide +kernel
theorem dX1_rrefAt_33 : decode cX1_rrefAt 33 = .ok (.goto 4, 3) := by decide +kernel
theorem dX1_rrefAt_36 : decode cX1_rrefAt 36 = .ok (.iconst (-1), 1) := by decide +kernel
theorem dX1_rrefAt_37 : decode cX1_rrefAt 37 = .ok (.ireturn, 1) := by decide +kernel
theorem dX1_isSquare_0 : decode cX1_isSquare 0 = .ok (.aload_n 0, 1) := by decide +kernel
theorem dX1_isSquare_1 : decode cX1_isSquare 1 = .ok (.getfield 41, 3) := by decide +kernel
theorem dX1_isSquare_4 : decode cX1_isSquare 4 = .ok (.ifCond .eq 31, 3) := by decide +kernel
theorem dX1_isSquare_7 : decode cX1_isSquare 7 = .ok (.iload_n 1, 1) := by decide +kernel
theorem dX1_isSquare_8 : decode cX1_isSquare 8 = .ok (.ifCond .lt 27, 3) := by decide +kernel
theorem dX1_isSquare_11 : decode cX1_isSquare 11 = .ok (.iload_n 1, 1) := by decide +kernel
theorem dX1_isSquare_12 : decode cX1_isSquare 12 = .ok (.aload_n 0, 1) := by decide +kernel
theorem dX1_isSquare_13 : decode cX1_isSquare 13 = .ok (.getfield 30, 3) := by decide +kernel
theorem dX1_isSquare_16 : decode cX1_isSquare 16 = .ok (.if_icmp .ge 19, 3) := by decide +kernel
theorem dX1_isSquare_19 : decode cX1_isSquare 19 = .ok (.iload_n 2, 1) := by decide +kernel
theorem dX1_isSquare_20 : decode cX1_isSquare 20 = .ok (.ifCond .lt 15, 3) := by decide +kernel
theorem dX1_isSquare_23 : decode cX1_isSquare 23 = .ok (.iload_n 2, 1) := by decide +kernel
theorem dX1_isSquare_24 : decode cX1_isSquare 24 = .ok (.aload_n 0, 1) := by decide +kernel
theorem dX1_isSquare_25 : decode cX1_isSquare 25 = .ok (.getfield 30, 3) := by decide +kernel
theorem dX1_isSquare_28 : decode cX1_isSquare 28 = .ok (.if_icmp .ge 7, 3) := by decide +kernel
theorem dX1_isSquare_31 : decode cX1_isSquare 31 = .ok (.iconst 1, 1) := by decide +kernel
theorem dX1_isSquare_32 : decode cX1_isSquare 32 = .ok (.goto 4, 3) := by decide +kernel
theorem dX1_isSquare_35 : decode cX1_isSquare 35 = .ok (.iconst 0, 1) := by decide +kernel
theorem dX1_isSquare_36 : decode cX1_isSquare 36 = .ok (.ireturn, 1) := by decide +kernel
set_option maxRecDepth 20000 in
theorem ggX1_transformAt_X1_isSquare : GoodIn wsX1_transformAt wsX1_isSquare := goodIn_r _ [8, 9, 10, 11, 12, 13, 14, 15, 16, 17, 18, 19, 20, 21, 22] (by decide +kernel) (by decide +kernel)
set_option maxRecDepth 20000 in
theorem gX1_transformAt_X1_isSquare : GoodIn wsX1_transformAt (wsV RX1 76 RX1 yX1_isSquare wsX1_isSquare) := goodIn_app (goodIn_of _ (by decide +kernel)) ggX1_transformAt_X1_isSquare
theorem dX1_transformAt_0 : decode cX1_transformAt 0 = .ok (.aload_n 0, 1) := by decide +kernel
theorem dX1_transformAt_1 : decode cX1_transformAt 1 = .ok (.iconst 0, 1) := by decide +kernel
theorem dX1_transformAt_2 : decode cX1_transformAt 2 = .ok (.putfield 45, 3) := by decide +kernel
theorem dX1_transformAt_5 : decode cX1_transformAt 5 = .ok (.aload_n 0, 1) := by decide +kernel
theorem dX1_transformAt_6 : decode cX1_transformAt 6 = .ok (.getfield 54, 3) := by decide +kernel
theorem dX1_transformAt_9 : decode cX1_transformAt 9 = .ok (.ifCond .eq 30, 3) := by decide +kernel
theorem dX1_transformAt_12 : decode cX1_transformAt 12 = .ok (.aload_n 0, 1) := by decide +kernel
theorem dX1_transformAt_13 : decode cX1_transformAt 13 = .ok (.iload_n 1, 1) := by decide +kernel
theorem dX1_transformAt_14 : decode cX1_transformAt 14 = .ok (.iload_n 2, 1) := by decide +kernel
theorem dX1_transformAt_15 : decode cX1_transformAt 15 = .ok (.invokevirtual 76, 3) := by decide +kernel
theorem dX1_transformAt_18 : decode cX1_transformAt 18 = .ok (.ifCond .eq 21, 3) := by decide +kernel
theorem dX1_transformAt_21 : decode cX1_transformAt 21 = .ok (.aload_n 0, 1) := by decide +kernel
theorem dX1_transformAt_22 : decode cX1_transformAt 22 = .ok (.getfield 16, 3) := by decide +kernel
theorem dX1_transformAt_25 : decode cX1_transformAt 25 = .ok (.bipush 20, 2) := by decide +kernel
theorem dX1_transformAt_27 : decode cX1_transformAt 27 = .ok (.iload_n 1, 1) := by decide +kernel
theorem dX1_transformAt_28 : decode cX1_transformAt 28 = .ok (.imul, 1) := by decide +kernel
theorem dX1_transformAt_29 : decode cX1_transformAt 29 = .ok (.bipush 10, 2) := by decide +kernel
theorem dX1_transformAt_31 : decode cX1_transformAt 31 = .ok (.iadd, 1) := by decide +kernel
theorem dX1_transformAt_32 : decode cX1_transformAt 32 = .ok (.iload_n 2, 1) := by decide +kernel
theorem dX1_transformAt_33 : decode cX1_transformAt 33 = .ok (.iadd, 1) := by decide +kernel
theorem dX1_transformAt_34 : decode cX1_transformAt 34 = .ok (.laload, 1) := by decide +kernel
theorem dX1_transformAt_35 : decode cX1_transformAt 35 = .ok (.l2i, 1) := by decide +kernel
theorem dX1_transformAt_36 : decode cX1_transformAt 36 = .ok (.goto 4, 3) := by decide +kernel
theorem dX1_transformAt_39 : decode cX1_transformAt 39 = .ok (.iconst (-1), 1) := by decide +kernel
theorem dX1_transformAt_40 : decode cX1_transformAt 40 = .ok (.ireturn, 1) := by decide +kernel
theorem dX1_det_0 : decode cX1_det 0 = .ok (.aload_n 0, 1) := by decide +kernel
theorem dX1_det_1 : decode cX1_det 1 = .ok (.iconst 0, 1) := by decide +kernel
theorem dX1_det_2 : decode cX1_det 2 = .ok (.putfield 45, 3) := by decide +kernel
theorem dX1_det_5 : decode cX1_det 5 = .ok (.aload_n 0, 1) := by decide +kernel
theorem dX1_det_6 : decode cX1_det 6 = .ok (.getfield 54, 3) := by decide +kernel
theorem dX1_det_9 : decode cX1_det 9 = .ok (.ifCond .eq 14, 3) := by decide +kernel
theorem dX1_det_12 : decode cX1_det 12 = .ok (.aload_n 0, 1) := by decide +kernel
theorem dX1_det_13 : decode cX1_det 13 = .ok (.getfield 30, 3) := by decide +kernel
theorem dX1_det_16 : decode cX1_det 16 = .ok (.aload_n 0, 1) := by decide +kernel
theorem dX1_det_17 : decode cX1_det 17 = .ok (.getfield 34, 3) := by decide +kernel
theorem dX1_det_20 : decode cX1_det 20 = .ok (.if_icmp .eq 5, 3) := by decide +kernel
theorem dX1_det_23 : decode cX1_det 23 = .ok (.iconst (-1), 1) := by decide +kernel
theorem dX1_det_24 : decode cX1_det 24 = .ok (.ireturn, 1) := by decide +kernel
theorem dX1_det_25 : decode cX1_det 25 = .ok (.aload_n 0, 1) := by decide +kernel
theorem dX1_det_26 : decode cX1_det 26 = .ok (.getfield 23, 3) := by decide +kernel
theorem dX1_det_29 : decode cX1_det 29 = .ok (.iconst 0, 1) := by decide +kernel
theorem dX1_det_30 : decode cX1_det 30 = .ok (.lconst 1, 1) := by decide +kernel
theorem dX1_det_31 : decode cX1_det 31 = .ok (.lastore, 1) := by decide +kernel
theorem dX1_det_32 : decode cX1_det 32 = .ok (.iconst 1, 1) := by decide +kernel
theorem dX1_det_33 : decode cX1_det 33 = .ok (.istore_n 1, 1) := by decide +kernel
theorem dX1_det_34 : decode cX1_det 34 = .ok (.iload_n 1, 1) := by decide +kernel
theorem dX1_det_35 : decode cX1_det 35 = .ok (.iconst 1, 1) := by decide +kernel
theorem dX1_det_36 : decode cX1_det 36 = .ok (.aload_n 0, 1) := by decide +kernel
theorem dX1_det_37 : decode cX1_det 37 = .ok (.getfield 34, 3) := by decide +kernel
theorem dX1_det_40 : decode cX1_det 40 = .ok (.ishl, 1) := by decide +kernel
theorem dX1_det_41 : decode cX1_det 41 = .ok (.if_icmp .ge 141, 3) := by decide +kernel
theorem dX1_det_44 : decode cX1_det 44 = .ok (.iconst 0, 1) := by decide +kernel
theorem dX1_det_45 : decode cX1_det 45 = .ok (.istore_n 2, 1) := by decide +kernel
theorem dX1_det_46 : decode cX1_det 46 = .ok (.iconst 0, 1) := by decide +kernel
theorem dX1_det_47 : decode cX1_det 47 = .ok (.istore_n 3, 1) := by decide +kernel
theorem dX1_det_48 : decode cX1_det 48 = .ok (.iload_n 3, 1) := by decide +kernel
theorem dX1_det_49 : decode cX1_det 49 = .ok (.aload_n 0, 1) := by decide +kernel
theorem dX1_det_50 : decode cX1_det 50 = .ok (.getfield 34, 3) := by decide +kernel
theorem dX1_det_53 : decode cX1_det 53 = .ok (.if_icmp .ge 17, 3) := by decide +kernel
theorem dX1_det_56 : decode cX1_det 56 = .ok (.iload_n 2, 1) := by decide +kernel
theorem dX1_det_57 : decode cX1_det 57 = .ok (.iload_n 1, 1) := by decide +kernel
theorem dX1_det_58 : decode cX1_det 58 = .ok (.iload_n 3, 1) := by decide +kernel
theorem dX1_det_59 : decode cX1_det 59 = .ok (.ishr, 1) := by decide +kernel
theorem dX1_det_60 : decode cX1_det 60 = .ok (.iconst 1, 1) := by decide +kernel
theorem dX1_det_61 : decode cX1_det 61 = .ok (.iand, 1) := by decide +kernel
theorem dX1_det_62 : decode cX1_det 62 = .ok (.iadd, 1) := by decide +kernel
theorem dX1_det_63 : decode cX1_det 63 = .ok (.istore_n 2, 1) := by decide +kernel
theorem dX1_det_64 : decode cX1_det 64 = .ok (.iinc 3 1, 3) := by decide +kernel
theorem dX1_det_67 : decode cX1_det 67 = .ok (.goto (-19), 3) := by decide +kernel
theorem dX1_det_70 : decode cX1_det 70 = .ok (.lconst 0, 1) := by decide +kernel
theorem dX1_det_71 : decode cX1_det 71 = .ok (.lstore_n 3, 1) := by decide +kernel
theorem dX1_det_72 : decode cX1_det 72 = .ok (.iconst 0, 1) := by decide +kernel
theorem dX1_det_73 : decode cX1_det 73 = .ok (.istore 5, 2) := by decide +kernel
theorem dX1_det_75 : decode cX1_det 75 = .ok (.aload_n 0, 1) := by decide +kernel
theorem dX1_det_76 : decode cX1_det 76 = .ok (.getfield 34, 3) := by decide +kernel
theorem dX1_det_79 : decode cX1_det 79 = .ok (.iconst 1, 1) := by decide +kernel
theorem dX1_det_80 : decode cX1_det 80 = .ok (.isub, 1) := by decide +kernel
theorem dX1_det_81 : decode cX1_det 81 = .ok (.istore 6, 2) := by decide +kernel
theorem dX1_det_83 : decode cX1_det 83 = .ok (.iload 6, 2) := by decide +kernel
theorem dX1_det_85 : decode cX1_det 85 = .ok (.ifCond .lt 84, 3) := by decide +kernel
theorem dX1_det_88 : decode cX1_det 88 = .ok (.iload_n 1, 1) := by decide +kernel
theorem dX1_det_89 : decode cX1_det 89 = .ok (.iload 6, 2) := by decide +kernel
theorem dX1_det_91 : decode cX1_det 91 = .ok (.ishr, 1) := by decide +kernel
theorem dX1_det_92 : decode cX1_det 92 = .ok (.iconst 1, 1) := by decide +kernel
theorem dX1_det_93 : decode cX1_det 93 = .ok (.iand, 1) := by decide +kernel
theorem dX1_det_94 : decode cX1_det 94 = .ok (.iconst 1, 1) := by decide +kernel
theorem dX1_det_95 : decode cX1_det 95 = .ok (.if_icmp .ne 68, 3) := by decide +kernel
theorem dX1_det_98 : decode cX1_det 98 = .ok (.aload_n 0, 1) := by decide +kernel
theorem dX1_det_99 : decode cX1_det 99 = .ok (.getfield 7, 3) := by decide +kernel
theorem dX1_det_102 : decode cX1_det 102 = .ok (.bipush 10, 2) := by decide +kernel
theorem dX1_det_104 : decode cX1_det 104 = .ok (.iload_n 2, 1) := by decide +kernel
theorem dX1_det_105 : decode cX1_det 105 = .ok (.iconst 1, 1) := by decide +kernel
theorem dX1_det_106 : decode cX1_det 106 = .ok (.isub, 1) := by decide +kernel
theorem dX1_det_107 : decode cX1_det 107 = .ok (.imul, 1) := by decide +kernel
theorem dX1_det_108 : decode cX1_det 108 = .ok (.iload 6, 2) := by decide +kernel
theorem dX1_det_110 : decode cX1_det 110 = .ok (.iadd, 1) := by decide +kernel
theorem dX1_det_111 : decode cX1_det 111 = .ok (.laload, 1) := by decide +kernel
theorem dX1_det_112 : decode cX1_det 112 = .ok (.aload_n 0, 1) := by decide +kernel
theorem dX1_det_113 : decode cX1_det 113 = .ok (.getfield 23, 3) := by decide +kernel
theorem dX1_det_116 : decode cX1_det 116 = .ok (.iload_n 1, 1) := by decide +kernel
theorem dX1_det_117 : decode cX1_det 117 = .ok (.iconst 1, 1) := by decide +kernel
theorem dX1_det_118 : decode cX1_det 118 = .ok (.iload 6, 2) := by decide +kernel
theorem dX1_det_120 : decode cX1_det 120 = .ok (.ishl, 1) := by decide +kernel
theorem dX1_det_121 : decode cX1_det 121 = .ok (.ixor, 1) := by decide +kernel
theorem dX1_det_122 : decode cX1_det 122 = .ok (.laload, 1) := by decide +kernel
theorem dX1_det_123 : decode cX1_det 123 = .ok (.lmul, 1) := by decide +kernel
theorem dX1_det_124 : decode cX1_det 124 = .ok (.aload_n 0, 1) := by decide +kernel
theorem dX1_det_125 : decode cX1_det 125 = .ok (.getfield 26, 3) := by decide +kernel
theorem dX1_det_128 : decode cX1_det 128 = .ok (.lrem, 1) := by decide +kernel
theorem dX1_det_129 : decode cX1_det 129 = .ok (.lstore 7, 2) := by decide +kernel
theorem dX1_det_131 : decode cX1_det 131 = .ok (.iload 5, 2) := by decide +kernel
theorem dX1_det_133 : decode cX1_det 133 = .ok (.iconst 2, 1) := by decide +kernel
theorem dX1_det_134 : decode cX1_det 134 = .ok (.irem, 1) := by decide +kernel
theorem dX1_det_135 : decode cX1_det 135 = .ok (.ifCond .ne 10, 3) := by decide +kernel
theorem dX1_det_138 : decode cX1_det 138 = .ok (.lload_n 3, 1) := by decide +kernel
theorem dX1_det_139 : decode cX1_det 139 = .ok (.lload 7, 2) := by decide +kernel
theorem dX1_det_141 : decode cX1_det 141 = .ok (.ladd, 1) := by decide +kernel
theorem dX1_det_142 : decode cX1_det 142 = .ok (.goto 12, 3) := by decide +kernel
theorem dX1_det_145 : decode cX1_det 145 = .ok (.lload_n 3, 1) := by decide +kernel
theorem dX1_det_146 : decode cX1_det 146 = .ok (.aload_n 0, 1) := by decide +kernel
theorem dX1_det_147 : decode cX1_det 147 = .ok (.getfield 26, 3) := by decide +kernel
theorem dX1_det_150 : decode cX1_det 150 = .ok (.ladd, 1) := by decide +kernel
theorem dX1_det_151 : decode cX1_det 151 = .ok (.lload 7, 2) := by decide +kernel
theorem dX1_det_153 : decode cX1_det 153 = .ok (.lsub, 1) := by decide +kernel
theorem dX1_det_154 : decode cX1_det 154 = .ok (.aload_n 0, 1) := by decide +kernel
theorem dX1_det_155 : decode cX1_det 155 = .ok (.getfield 26, 3) := by decide +kernel
theorem dX1_det_158 : decode cX1_det 158 = .ok (.lrem, 1) := by decide +kernel
theorem dX1_det_159 : decode cX1_det 159 = .ok (.lstore_n 3, 1) := by decide +kernel
theorem dX1_det_160 : decode cX1_det 160 = .ok (.iinc 5 1, 3) := by decide +kernel
theorem dX1_det_163 : decode cX1_det 163 = .ok (.iinc 6 (-1), 3) := by decide +kernel
theorem dX1_det_166 : decode cX1_det 166 = .ok (.goto (-83), 3) := by decide +kernel
theorem dX1_det_169 : decode cX1_det 169 = .ok (.aload_n 0, 1) := by decide +kernel
theorem dX1_det_170 : decode cX1_det 170 = .ok (.getfield 23, 3) := by decide +kernel
theorem dX1_det_173 : decode cX1_det 173 = .ok (.iload_n 1, 1) := by decide +kernel
theorem dX1_det_174 : decode cX1_det 174 = .ok (.lload_n 3, 1) := by decide +kernel
theorem dX1_det_175 : decode cX1_det 175 = .ok (.lastore, 1) := by decide +kernel
theorem dX1_det_176 : decode cX1_det 176 = .ok (.iinc 1 1, 3) := by decide +kernel
theorem dX1_det_179 : decode cX1_det 179 = .ok (.goto (-145), 3) := by decide +kernel
theorem dX1_det_182 : decode cX1_det 182 = .ok (.aload_n 0, 1) := by decide +kernel
theorem dX1_det_183 : decode cX1_det 183 = .ok (.getfield 23, 3) := by decide +kernel
theorem dX1_det_186 : decode cX1_det 186 = .ok (.iconst 1, 1) := by decide +kernel
theorem dX1_det_187 : decode cX1_det 187 = .ok (.aload_n 0, 1) := by decide +kernel
theorem dX1_det_188 : decode cX1_det 188 = .ok (.getfield 34, 3) := by decide +kernel
theorem dX1_det_191 : decode cX1_det 191 = .ok (.ishl, 1) := by decide +kernel
theorem dX1_det_192 : decode cX1_det 192 = .ok (.iconst 1, 1) := by decide +kernel
theorem dX1_det_193 : decode cX1_det 193 = .ok (.isub, 1) := by decide +kernel
theorem dX1_det_194 : decode cX1_det 194 = .ok (.laload, 1) := by decide +kernel
theorem dX1_det_195 : decode cX1_det 195 = .ok (.aload_n 0, 1) := by decide +kernel
theorem dX1_det_196 : decode cX1_det 196 = .ok (.getfield 26, 3) := by decide +kernel
theorem dX1_det_199 : decode cX1_det 199 = .ok (.lrem, 1) := by decide +kernel
theorem dX1_det_200 : decode cX1_det 200 = .ok (.l2i, 1) := by decide +kernel
theorem dX1_det_201 : decode cX1_det 201 = .ok (.ireturn, 1) := by decide +kernel
set_option maxRecDepth 20000 in
theorem ggX1_inverseAt_X1_isSquare : GoodIn wsX1_inverseAt wsX1_isSquare := goodIn_r _ [11, 12, 3, 13, 14, 15, 16, 17, 18, 19, 20, 21, 22, 23, 24] (by decide +kernel) (by decide +kernel)
set_option maxRecDepth 20000 in
theorem gX1_inverseAt_X1_isSquare : GoodIn wsX1_inverseAt (wsV RX1 76 RX1 yX1_isSquare wsX1_isSquare) := goodIn_app (goodIn_of _ (by decide +kernel)) ggX1_inverseAt_X1_isSquare
theorem dX1_inverseAt_0 : decode cX1_inverseAt 0 = .ok (.aload_n 0, 1) := by decide +kernel
theorem dX1_inverseAt_1 : decode cX1_inverseAt 1 = .ok (.iconst 0, 1) := by decide +kernel
theorem dX1_inverseAt_2 : decode cX1_inverseAt 2 = .ok (.putfield 45, 3) := by decide +kernel
theorem dX1_inverseAt_5 : decode cX1_inverseAt 5 = .ok (.aload_n 0, 1) := by decide +kernel
theorem dX1_inverseAt_6 : decode cX1_inverseAt 6 = .ok (.getfield 54, 3) := by decide +kernel
theorem dX1_inverseAt_9 : decode cX1_inverseAt 9 = .ok (.ifCond .eq 52, 3) := by decide +kernel
theorem dX1_inverseAt_12 : decode cX1_inverseAt 12 = .ok (.aload_n 0, 1) := by decide +kernel
theorem dX1_inverseAt_13 : decode cX1_inverseAt 13 = .ok (.getfield 30, 3) := by decide +kernel
theorem dX1_inverseAt_16 : decode cX1_inverseAt 16 = .ok (.aload_n 0, 1) := by decide +kernel
theorem dX1_inverseAt_17 : decode cX1_inverseAt 17 = .ok (.getfield 34, 3) := by decide +kernel
theorem dX1_inverseAt_20 : decode cX1_inverseAt 20 = .ok (.if_icmp .ne 41, 3) := by decide +kernel
theorem dX1_inverseAt_23 : decode cX1_inverseAt 23 = .ok (.aload_n 0, 1) := by decide +kernel
theorem dX1_inverseAt_24 : decode cX1_inverseAt 24 = .ok (.getfield 57, 3) := by decide +kernel
theorem dX1_inverseAt_27 : decode cX1_inverseAt 27 = .ok (.aload_n 0, 1) := by decide +kernel
theorem dX1_inverseAt_28 : decode cX1_inverseAt 28 = .ok (.getfield 34, 3) := by decide +kernel
theorem dX1_inverseAt_31 : decode cX1_inverseAt 31 = .ok (.if_icmp .ne 30, 3) := by decide +kernel
theorem dX1_inverseAt_34 : decode cX1_inverseAt 34 = .ok (.aload_n 0, 1) := by decide +kernel
theorem dX1_inverseAt_35 : decode cX1_inverseAt 35 = .ok (.iload_n 1, 1) := by decide +kernel
theorem dX1_inverseAt_36 : decode cX1_inverseAt 36 = .ok (.iload_n 2, 1) := by decide +kernel
theorem dX1_inverseAt_37 : decode cX1_inverseAt 37 = .ok (.invokevirtual 76, 3) := by decide +kernel
theorem dX1_inverseAt_40 : decode cX1_inverseAt 40 = .ok (.ifCond .eq 21, 3) := by decide +kernel
theorem dX1_inverseAt_43 : decode cX1_inverseAt 43 = .ok (.aload_n 0, 1) := by decide +kernel
theorem dX1_inverseAt_44 : decode cX1_inverseAt 44 = .ok (.getfield 16, 3) := by decide +kernel
theorem dX1_inverseAt_47 : decode cX1_inverseAt 47 = .ok (.bipush 20, 2) := by decide +kernel
theorem dX1_inverseAt_49 : decode cX1_inverseAt 49 = .ok (.iload_n 1, 1) := by decide +kernel
theorem dX1_inverseAt_50 : decode cX1_inverseAt 50 = .ok (.imul, 1) := by decide +kernel
theorem dX1_inverseAt_51 : decode cX1_inverseAt 51 = .ok (.bipush 10, 2) := by decide +kernel
theorem dX1_inverseAt_53 : decode cX1_inverseAt 53 = .ok (.iadd, 1) := by decide +kernel
theorem dX1_inverseAt_54 : decode cX1_inverseAt 54 = .ok (.iload_n 2, 1) := by decide +kernel
theorem dX1_inverseAt_55 : decode cX1_inverseAt 55 = .ok (.iadd, 1) := by decide +kernel
theorem dX1_inverseAt_56 : decode cX1_inverseAt 56 = .ok (.laload, 1) := by decide +kernel
theorem dX1_inverseAt_57 : decode cX1_inverseAt 57 = .ok (.l2i, 1) := by decide +kernel
theorem dX1_inverseAt_58 : decode cX1_inverseAt 58 = .ok (.goto 4, 3) := by decide +kernel
theorem dX1_inverseAt_61 : decode cX1_inverseAt 61 = .ok (.iconst (-1), 1) := by decide +kernel
theorem dX1_inverseAt_62 : decode cX1_inverseAt 62 = .ok (.ireturn, 1) := by decide +kernel
theorem dX1_changed_0 : decode cX1_changed 0 = .ok (.lconst 0, 1) := by decide +kernel
theorem dX1_changed_1 : decode cX1_changed 1 = .ok (.lstore_n 2, 1) := by decide +kernel
theorem dX1_changed_2 : decode cX1_changed 2 = .ok (.iconst 0, 1) := by decide +kernel
theorem dX1_changed_3 : decode cX1_changed 3 = .ok (.istore 4, 2) := by decide +kernel
theorem dX1_changed_5 : decode cX1_changed 5 = .ok (.iload 4, 2) := by decide +kernel
theorem dX1_changed_7 : decode cX1_changed 7 = .ok (.aload_n 0, 1) := by decide +kernel
theorem dX1_changed_8 : decode cX1_changed 8 = .ok (.getfield 30, 3) := by decide +kernel
theorem dX1_changed_11 : decode cX1_changed 11 = .ok (.if_icmp .ge 40, 3) := by decide +kernel
theorem dX1_changed_14 : decode cX1_changed 14 = .ok (.lload_n 2, 1) := by decide +kernel
theorem dX1_changed_15 : decode cX1_changed 15 = .ok (.aload_n 0, 1) := by decide +kernel
theorem dX1_changed_16 : decode cX1_changed 16 = .ok (.getfield 16, 3) := by decide +kernel
theorem dX1_changed_19 : decode cX1_changed 19 = .ok (.bipush 20, 2) := by decide +kernel
theorem dX1_changed_21 : decode cX1_changed 21 = .ok (.iload_n 1, 1) := by decide +kernel
theorem dX1_changed_22 : decode cX1_changed 22 = .ok (.imul, 1) := by decide +kernel
theorem dX1_changed_23 : decode cX1_changed 23 = .ok (.bipush 10, 2) := by decide +kernel
theorem dX1_changed_25 : decode cX1_changed 25 = .ok (.iadd, 1) := by decide +kernel
theorem dX1_changed_26 : decode cX1_changed 26 = .ok (.iload 4, 2) := by decide +kernel
theorem dX1_changed_28 : decode cX1_changed 28 = .ok (.iadd, 1) := by decide +kernel
theorem dX1_changed_29 : decode cX1_changed 29 = .ok (.laload, 1) := by decide +kernel
theorem dX1_changed_30 : decode cX1_changed 30 = .ok (.aload_n 0, 1) := by decide +kernel
theorem dX1_changed_31 : decode cX1_changed 31 = .ok (.getfield 13, 3) := by decide +kernel
theorem dX1_changed_34 : decode cX1_changed 34 = .ok (.iload 4, 2) := by decide +kernel
theorem dX1_changed_36 : decode cX1_changed 36 = .ok (.laload, 1) := by decide +kernel
theorem dX1_changed_37 : decode cX1_changed 37 = .ok (.lmul, 1) := by decide +kernel
theorem dX1_changed_38 : decode cX1_changed 38 = .ok (.ladd, 1) := by decide +kernel
theorem dX1_changed_39 : decode cX1_changed 39 = .ok (.aload_n 0, 1) := by decide +kernel
theorem dX1_changed_40 : decode cX1_changed 40 = .ok (.getfield 26, 3) := by decide +kernel
theorem dX1_changed_43 : decode cX1_changed 43 = .ok (.lrem, 1) := by decide +kernel
theorem dX1_changed_44 : decode cX1_changed 44 = .ok (.lstore_n 2, 1) := by decide +kernel
theorem dX1_changed_45 : decode cX1_changed 45 = .ok (.iinc 4 1, 3) := by decide +kernel
theorem dX1_changed_48 : decode cX1_changed 48 = .ok (.goto (-43), 3) := by decide +kernel
theorem dX1_changed_51 : decode cX1_changed 51 = .ok (.lload_n 2, 1) := by decide +kernel
theorem dX1_changed_52 : decode cX1_changed 52 = .ok (.lreturn, 1) := by decide +kernel
set_option maxRecDepth 20000 in
theorem ggX1_isSolvable_X1_changed : GoodIn wsX1_isSolvable wsX1_changed := goodIn_r _ [8, 3, 9, 10, 11, 12, 13, 14, 15, 16, 17, 18, 19, 20, 21, 22, 23] (by decide +kernel) (by decide +kernel)
set_option maxRecDepth 20000 in
theorem gX1_isSolvable_X1_changed : GoodIn wsX1_isSolvable (wsV RX1 79 RX1 yX1_changed wsX1_changed) := goodIn_app (goodIn_of _ (by decide +kernel)) ggX1_isSolvable_X1_changed
theorem dX1_isSolvable_0 : decode cX1_isSolvable 0 = .ok (.aload_n 0, 1) := by decide +kernel
theorem dX1_isSolvable_1 : decode cX1_isSolvable 1 = .ok (.getfield 54, 3) := by decide +kernel
