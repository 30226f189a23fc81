theorem dX12_plan_26 : decode cX12_plan 26 = .ok (.getfield 252, 3) := by decide +kernel
theorem dX12_plan_29 : decode cX12_plan 29 = .ok (.bipush 8, 2) := by decide +kernel
theorem dX12_plan_31 : decode cX12_plan 31 = .ok (.if_icmp .ne 6, 3) := by decide +kernel
theorem dX12_plan_34 : decode cX12_plan 34 = .ok (.bipush (-4), 2) := by decide +kernel
theorem dX12_plan_36 : decode cX12_plan 36 = .ok (.ireturn, 1) := by decide +kernel
theorem dX12_plan_37 : decode cX12_plan 37 = .ok (.aload_n 0, 1) := by decide +kernel
theorem dX12_plan_38 : decode cX12_plan 38 = .ok (.getfield 54, 3) := by decide +kernel
theorem dX12_plan_41 : decode cX12_plan 41 = .ok (.aload_n 0, 1) := by decide +kernel
theorem dX12_plan_42 : decode cX12_plan 42 = .ok (.getfield 252, 3) := by decide +kernel
theorem dX12_plan_45 : decode cX12_plan 45 = .ok (.iload_n 1, 1) := by decide +kernel
theorem dX12_plan_46 : decode cX12_plan 46 = .ok (.iastore, 1) := by decide +kernel
theorem dX12_plan_47 : decode cX12_plan 47 = .ok (.aload_n 0, 1) := by decide +kernel
theorem dX12_plan_48 : decode cX12_plan 48 = .ok (.getfield 57, 3) := by decide +kernel
theorem dX12_plan_51 : decode cX12_plan 51 = .ok (.aload_n 0, 1) := by decide +kernel
theorem dX12_plan_52 : decode cX12_plan 52 = .ok (.getfield 252, 3) := by decide +kernel
theorem dX12_plan_55 : decode cX12_plan 55 = .ok (.iload_n 2, 1) := by decide +kernel
theorem dX12_plan_56 : decode cX12_plan 56 = .ok (.iastore, 1) := by decide +kernel
theorem dX12_plan_57 : decode cX12_plan 57 = .ok (.aload_n 0, 1) := by decide +kernel
theorem dX12_plan_58 : decode cX12_plan 58 = .ok (.dup, 1) := by decide +kernel
theorem dX12_plan_59 : decode cX12_plan 59 = .ok (.getfield 252, 3) := by decide +kernel
theorem dX12_plan_62 : decode cX12_plan 62 = .ok (.iconst 1, 1) := by decide +kernel
theorem dX12_plan_63 : decode cX12_plan 63 = .ok (.iadd, 1) := by decide +kernel
theorem dX12_plan_64 : decode cX12_plan 64 = .ok (.putfield 252, 3) := by decide +kernel
theorem dX12_plan_67 : decode cX12_plan 67 = .ok (.aload_n 0, 1) := by decide +kernel
theorem dX12_plan_68 : decode cX12_plan 68 = .ok (.getfield 252, 3) := by decide +kernel
theorem dX12_plan_71 : decode cX12_plan 71 = .ok (.ireturn, 1) := by decide +kernel
theorem dX12_unplan_0 : decode cX12_unplan 0 = .ok (.aload_n 0, 1) := by decide +kernel
theorem dX12_unplan_1 : decode cX12_unplan 1 = .ok (.getfield 252, 3) := by decide +kernel
theorem dX12_unplan_4 : decode cX12_unplan 4 = .ok (.istore_n 1, 1) := by decide +kernel
theorem dX12_unplan_5 : decode cX12_unplan 5 = .ok (.aload_n 0, 1) := by decide +kernel
theorem dX12_unplan_6 : decode cX12_unplan 6 = .ok (.iconst 0, 1) := by decide +kernel
theorem dX12_unplan_7 : decode cX12_unplan 7 = .ok (.putfield 252, 3) := by decide +kernel
theorem dX12_unplan_10 : decode cX12_unplan 10 = .ok (.iload_n 1, 1) := by decide +kernel
theorem dX12_unplan_11 : decode cX12_unplan 11 = .ok (.ireturn, 1) := by decide +kernel
set_option maxRecDepth 20000 in
theorem ggX12_moves_X12_modulo : GoodIn wsX12_moves wsX12_modulo := goodIn_r _ [6, 7, 8, 9, 10] (by decide +kernel) (by decide +kernel)
set_option maxRecDepth 20000 in
theorem gX12_moves_X12_modulo : GoodIn wsX12_moves (va_wsS RX12 125 yX12_modulo wsX12_modulo) := goodIn_app (goodIn_of _ (by decide +kernel)) ggX12_moves_X12_modulo
theorem dX12_moves_0 : decode cX12_moves 0 = .ok (.iconst 0, 1) := by decide +kernel
theorem dX12_moves_1 : decode cX12_moves 1 = .ok (.istore_n 2, 1) := by decide +kernel
theorem dX12_moves_2 : decode cX12_moves 2 = .ok (.iload_n 2, 1) := by decide +kernel
theorem dX12_moves_3 : decode cX12_moves 3 = .ok (.iconst 5, 1) := by decide +kernel
theorem dX12_moves_4 : decode cX12_moves 4 = .ok (.if_icmp .ge 16, 3) := by decide +kernel
theorem dX12_moves_7 : decode cX12_moves 7 = .ok (.aload_n 0, 1) := by decide +kernel
theorem dX12_moves_8 : decode cX12_moves 8 = .ok (.getfield 63, 3) := by decide +kernel
theorem dX12_moves_11 : decode cX12_moves 11 = .ok (.iload_n 2, 1) := by decide +kernel
theorem dX12_moves_12 : decode cX12_moves 12 = .ok (.iconst 0, 1) := by decide +kernel
theorem dX12_moves_13 : decode cX12_moves 13 = .ok (.iastore, 1) := by decide +kernel
theorem dX12_moves_14 : decode cX12_moves 14 = .ok (.iinc 2 1, 3) := by decide +kernel
theorem dX12_moves_17 : decode cX12_moves 17 = .ok (.goto (-15), 3) := by decide +kernel
theorem dX12_moves_20 : decode cX12_moves 20 = .ok (.iconst 4, 1) := by decide +kernel
theorem dX12_moves_21 : decode cX12_moves 21 = .ok (.istore_n 2, 1) := by decide +kernel
theorem dX12_moves_22 : decode cX12_moves 22 = .ok (.iload_n 2, 1) := by decide +kernel
theorem dX12_moves_23 : decode cX12_moves 23 = .ok (.ifCond .lt 67, 3) := by decide +kernel
theorem dX12_moves_26 : decode cX12_moves 26 = .ok (.iconst 4, 1) := by decide +kernel
theorem dX12_moves_27 : decode cX12_moves 27 = .ok (.istore_n 3, 1) := by decide +kernel
theorem dX12_moves_28 : decode cX12_moves 28 = .ok (.iload_n 3, 1) := by decide +kernel
theorem dX12_moves_29 : decode cX12_moves 29 = .ok (.ifCond .lt 55, 3) := by decide +kernel
theorem dX12_moves_32 : decode cX12_moves 32 = .ok (.aload_n 0, 1) := by decide +kernel
theorem dX12_moves_33 : decode cX12_moves 33 = .ok (.getfield 63, 3) := by decide +kernel
theorem dX12_moves_36 : decode cX12_moves 36 = .ok (.iload_n 3, 1) := by decide +kernel
theorem dX12_moves_37 : decode cX12_moves 37 = .ok (.aload_n 0, 1) := by decide +kernel
theorem dX12_moves_38 : decode cX12_moves 38 = .ok (.getfield 63, 3) := by decide +kernel
theorem dX12_moves_41 : decode cX12_moves 41 = .ok (.iload_n 3, 1) := by decide +kernel
theorem dX12_moves_42 : decode cX12_moves 42 = .ok (.iaload, 1) := by decide +kernel
theorem dX12_moves_43 : decode cX12_moves 43 = .ok (.iload_n 1, 1) := by decide +kernel
theorem dX12_moves_44 : decode cX12_moves 44 = .ok (.invokestatic 125, 3) := by decide +kernel
theorem dX12_moves_47 : decode cX12_moves 47 = .ok (.imul, 1) := by decide +kernel
theorem dX12_moves_48 : decode cX12_moves 48 = .ok (.sipush 10007, 3) := by decide +kernel
theorem dX12_moves_51 : decode cX12_moves 51 = .ok (.irem, 1) := by decide +kernel
theorem dX12_moves_52 : decode cX12_moves 52 = .ok (.iload_n 3, 1) := by decide +kernel
theorem dX12_moves_53 : decode cX12_moves 53 = .ok (.ifCond .le 14, 3) := by decide +kernel
theorem dX12_moves_56 : decode cX12_moves 56 = .ok (.aload_n 0, 1) := by decide +kernel
theorem dX12_moves_57 : decode cX12_moves 57 = .ok (.getfield 63, 3) := by decide +kernel
theorem dX12_moves_60 : decode cX12_moves 60 = .ok (.iload_n 3, 1) := by decide +kernel
theorem dX12_moves_61 : decode cX12_moves 61 = .ok (.iconst 1, 1) := by decide +kernel
theorem dX12_moves_62 : decode cX12_moves 62 = .ok (.isub, 1) := by decide +kernel
theorem dX12_moves_63 : decode cX12_moves 63 = .ok (.iaload, 1) := by decide +kernel
theorem dX12_moves_64 : decode cX12_moves 64 = .ok (.goto 9, 3) := by decide +kernel
theorem dX12_moves_67 : decode cX12_moves 67 = .ok (.aload_n 0, 1) := by decide +kernel
theorem dX12_moves_68 : decode cX12_moves 68 = .ok (.getfield 60, 3) := by decide +kernel
theorem dX12_moves_71 : decode cX12_moves 71 = .ok (.iload_n 2, 1) := by decide +kernel
theorem dX12_moves_72 : decode cX12_moves 72 = .ok (.iaload, 1) := by decide +kernel
theorem dX12_moves_73 : decode cX12_moves 73 = .ok (.iadd, 1) := by decide +kernel
theorem dX12_moves_74 : decode cX12_moves 74 = .ok (.invokestatic 125, 3) := by decide +kernel
theorem dX12_moves_77 : decode cX12_moves 77 = .ok (.iastore, 1) := by decide +kernel
theorem dX12_moves_78 : decode cX12_moves 78 = .ok (.iinc 3 (-1), 3) := by decide +kernel
theorem dX12_moves_81 : decode cX12_moves 81 = .ok (.goto (-53), 3) := by decide +kernel
theorem dX12_moves_84 : decode cX12_moves 84 = .ok (.iinc 2 (-1), 3) := by decide +kernel
theorem dX12_moves_87 : decode cX12_moves 87 = .ok (.goto (-65), 3) := by decide +kernel
theorem dX12_moves_90 : decode cX12_moves 90 = .ok (.return_, 1) := by decide +kernel
set_option maxRecDepth 20000 in
theorem ggX12_alters_X12_moves : GoodIn wsX12_alters wsX12_moves := goodIn_r _ [7, 1, 2, 8, 9, 6, 10, 11, 12, 13, 14, 15, 16, 17, 18, 19, 20, 21, 22, 23, 24, 25, 26, 27, 28, 29, 30, 31, 32, 33, 34, 35, 36, 37, 38, 39, 40, 41, 42, 43, 44, 45, 46, 47, 48, 49, 50, 51, 52, 53, 54, 55, 56, 57, 58, 59] (by decide +kernel) (by decide +kernel)
set_option maxRecDepth 20000 in
theorem gX12_alters_X12_moves : GoodIn wsX12_alters (wsV RX12 255 RX12 yX12_moves wsX12_moves) := goodIn_app (goodIn_of _ (by decide +kernel)) ggX12_alters_X12_moves
set_option maxRecDepth 20000 in
theorem ggX12_alters_X12_modulo : GoodIn wsX12_alters wsX12_modulo := goodIn_r _ [10, 11, 12, 13, 14] (by decide +kernel) (by decide +kernel)
set_option maxRecDepth 20000 in
theorem gX12_alters_X12_modulo : GoodIn wsX12_alters (va_wsS RX12 125 yX12_modulo wsX12_modulo) := goodIn_app (goodIn_of _ (by decide +kernel)) ggX12_alters_X12_modulo
theorem dX12_alters_0 : decode cX12_alters 0 = .ok (.iconst 1, 1) := by decide +kernel
theorem dX12_alters_1 : decode cX12_alters 1 = .ok (.istore_n 3, 1) := by decide +kernel
theorem dX12_alters_2 : decode cX12_alters 2 = .ok (.iload_n 1, 1) := by decide +kernel
theorem dX12_alters_3 : decode cX12_alters 3 = .ok (.ifCond .ne 8, 3) := by decide +kernel
theorem dX12_alters_6 : decode cX12_alters 6 = .ok (.aload_n 0, 1) := by decide +kernel
theorem dX12_alters_7 : decode cX12_alters 7 = .ok (.iload_n 2, 1) := by decide +kernel
theorem dX12_alters_8 : decode cX12_alters 8 = .ok (.invokevirtual 255, 3) := by decide +kernel
theorem dX12_alters_11 : decode cX12_alters 11 = .ok (.iconst 0, 1) := by decide +kernel
theorem dX12_alters_12 : decode cX12_alters 12 = .ok (.istore 4, 2) := by decide +kernel
theorem dX12_alters_14 : decode cX12_alters 14 = .ok (.iload 4, 2) := by decide +kernel
theorem dX12_alters_16 : decode cX12_alters 16 = .ok (.iconst 5, 1) := by decide +kernel
theorem dX12_alters_17 : decode cX12_alters 17 = .ok (.if_icmp .ge 121, 3) := by decide +kernel
theorem dX12_alters_20 : decode cX12_alters 20 = .ok (.iload_n 1, 1) := by decide +kernel
theorem dX12_alters_21 : decode cX12_alters 21 = .ok (.ifCond .le 117, 3) := by decide +kernel
theorem dX12_alters_24 : decode cX12_alters 24 = .ok (.aload_n 0, 1) := by decide +kernel
theorem dX12_alters_25 : decode cX12_alters 25 = .ok (.getfield 63, 3) := by decide +kernel
theorem dX12_alters_28 : decode cX12_alters 28 = .ok (.iload 4, 2) := by decide +kernel
theorem dX12_alters_30 : decode cX12_alters 30 = .ok (.iload_n 1, 1) := by decide +kernel
theorem dX12_alters_31 : decode cX12_alters 31 = .ok (.iconst 1, 1) := by decide +kernel
theorem dX12_alters_32 : decode cX12_alters 32 = .ok (.if_icmp .ne 22, 3) := by decide +kernel
theorem dX12_alters_35 : decode cX12_alters 35 = .ok (.aload_n 0, 1) := by decide +kernel
theorem dX12_alters_36 : decode cX12_alters 36 = .ok (.getfield 60, 3) := by decide +kernel
theorem dX12_alters_39 : decode cX12_alters 39 = .ok (.iload 4, 2) := by decide +kernel
theorem dX12_alters_41 : decode cX12_alters 41 = .ok (.iaload, 1) := by decide +kernel
theorem dX12_alters_42 : decode cX12_alters 42 = .ok (.iload_n 2, 1) := by decide +kernel
theorem dX12_alters_43 : decode cX12_alters 43 = .ok (.invokestatic 125, 3) := by decide +kernel
theorem dX12_alters_46 : decode cX12_alters 46 = .ok (.imul, 1) := by decide +kernel
theorem dX12_alters_47 : decode cX12_alters 47 = .ok (.sipush 10007, 3) := by decide +kernel
theorem dX12_alters_50 : decode cX12_alters 50 = .ok (.irem, 1) := by decide +kernel
theorem dX12_alters_51 : decode cX12_alters 51 = .ok (.goto 69, 3) := by decide +kernel
theorem dX12_alters_54 : decode cX12_alters 54 = .ok (.iload_n 1, 1) := by decide +kernel
theorem dX12_alters_55 : decode cX12_alters 55 = .ok (.iconst 2, 1) := by decide +kernel
theorem dX12_alters_56 : decode cX12_alters 56 = .ok (.if_icmp .ne 15, 3) := by decide +kernel
theorem dX12_alters_59 : decode cX12_alters 59 = .ok (.aload_n 0, 1) := by decide +kernel
theorem dX12_alters_60 : decode cX12_alters 60 = .ok (.getfield 60, 3) := by decide +kernel
theorem dX12_alters_63 : decode cX12_alters 63 = .ok (.iconst 4, 1) := by decide +kernel
theorem dX12_alters_64 : decode cX12_alters 64 = .ok (.iload 4, 2) := by decide +kernel
theorem dX12_alters_66 : decode cX12_alters 66 = .ok (.isub, 1) := by decide +kernel
theorem dX12_alters_67 : decode cX12_alters 67 = .ok (.iaload, 1) := by decide +kernel
theorem dX12_alters_68 : decode cX12_alters 68 = .ok (.goto 52, 3) := by decide +kernel
theorem dX12_alters_71 : decode cX12_alters 71 = .ok (.iload_n 1, 1) := by decide +kernel
theorem dX12_alters_72 : decode cX12_alters 72 = .ok (.iconst 3, 1) := by decide +kernel
theorem dX12_alters_73 : decode cX12_alters 73 = .ok (.if_icmp .ne 34, 3) := by decide +kernel
theorem dX12_alters_76 : decode cX12_alters 76 = .ok (.iload 4, 2) := by decide +kernel
theorem dX12_alters_78 : decode cX12_alters 78 = .ok (.iconst 4, 1) := by decide +kernel
theorem dX12_alters_79 : decode cX12_alters 79 = .ok (.if_icmp .ge 24, 3) := by decide +kernel
theorem dX12_alters_82 : decode cX12_alters 82 = .ok (.aload_n 0, 1) := by decide +kernel
theorem dX12_alters_83 : decode cX12_alters 83 = .ok (.getfield 60, 3) := by decide +kernel
theorem dX12_alters_86 : decode cX12_alters 86 = .ok (.iload 4, 2) := by decide +kernel
theorem dX12_alters_88 : decode cX12_alters 88 = .ok (.iconst 1, 1) := by decide +kernel
theorem dX12_alters_89 : decode cX12_alters 89 = .ok (.iadd, 1) := by decide +kernel
theorem dX12_alters_90 : decode cX12_alters 90 = .ok (.iaload, 1) := by decide +kernel
theorem dX12_alters_91 : decode cX12_alters 91 = .ok (.iload 4, 2) := by decide +kernel
theorem dX12_alters_93 : decode cX12_alters 93 = .ok (.iconst 1, 1) := by decide +kernel
theorem dX12_alters_94 : decode cX12_alters 94 = .ok (.iadd, 1) := by decide +kernel
theorem dX12_alters_95 : decode cX12_alters 95 = .ok (.imul, 1) := by decide +kernel
theorem dX12_alters_96 : decode cX12_alters 96 = .ok (.sipush 10007, 3) := by decide +kernel
theorem dX12_alters_99 : decode cX12_alters 99 = .ok (.irem, 1) := by decide +kernel
theorem dX12_alters_100 : decode cX12_alters 100 = .ok (.goto 20, 3) := by decide +kernel
theorem dX12_alters_103 : decode cX12_alters 103 = .ok (.iconst 0, 1) := by decide +kernel
theorem dX12_alters_104 : decode cX12_alters 104 = .ok (.goto 16, 3) := by decide +kernel
theorem dX12_alters_107 : decode cX12_alters 107 = .ok (.aload_n 0, 1) := by decide +kernel
theorem dX12_alters_108 : decode cX12_alters 108 = .ok (.getfield 60, 3) := by decide +kernel
theorem dX12_alters_111 : decode cX12_alters 111 = .ok (.iload 4, 2) := by decide +kernel
theorem dX12_alters_113 : decode cX12_alters 113 = .ok (.iaload, 1) := by decide +kernel
theorem dX12_alters_114 : decode cX12_alters 114 = .ok (.iload_n 3, 1) := by decide +kernel
theorem dX12_alters_115 : decode cX12_alters 115 = .ok (.imul, 1) := by decide +kernel
theorem dX12_alters_116 : decode cX12_alters 116 = .ok (.sipush 10007, 3) := by decide +kernel
theorem dX12_alters_119 : decode cX12_alters 119 = .ok (.irem, 1) := by decide +kernel
theorem dX12_alters_120 : decode cX12_alters 120 = .ok (.iastore, 1) := by decide +kernel
theorem dX12_alters_121 : decode cX12_alters 121 = .ok (.iload_n 3, 1) := by decide +kernel
theorem dX12_alters_122 : decode cX12_alters 122 = .ok (.iload_n 2, 1) := by decide +kernel
theorem dX12_alters_123 : decode cX12_alters 123 = .ok (.invokestatic 125, 3) := by decide +kernel
theorem dX12_alters_126 : decode cX12_alters 126 = .ok (.imul, 1) := by decide +kernel
theorem dX12_alters_127 : decode cX12_alters 127 = .ok (.sipush 10007, 3) := by decide +kernel
theorem dX12_alters_130 : decode cX12_alters 130 = .ok (.irem, 1) := by decide +kernel
theorem dX12_alters_131 : decode cX12_alters 131 = .ok (.istore_n 3, 1) := by decide +kernel
theorem dX12_alters_132 : decode cX12_alters 132 = .ok (.iinc 4 1, 3) := by decide +kernel
theorem dX12_alters_135 : decode cX12_alters 135 = .ok (.goto (-121), 3) := by decide +kernel
theorem dX12_alters_138 : decode cX12_alters 138 = .ok (.iconst 0, 1) := by decide +kernel
theorem dX12_alters_139 : decode cX12_alters 139 = .ok (.istore 4, 2) := by decide +kernel
theorem dX12_alters_141 : decode cX12_alters 141 = .ok (.iload 4, 2) := by decide +kernel
theorem dX12_alters_143 : decode cX12_alters 143 = .ok (.iconst 5, 1) := by decide +kernel
theorem dX12_alters_144 : decode cX12_alters 144 = .ok (.if_icmp .ge 23, 3) := by decide +kernel
theorem dX12_alters_147 : decode cX12_alters 147 = .ok (.aload_n 0, 1) := by decide +kernel
theorem dX12_alters_148 : decode cX12_alters 148 = .ok (.getfield 60, 3) := by decide +kernel
theorem dX12_alters_151 : decode cX12_alters 151 = .ok (.iload 4, 2) := by decide +kernel
theorem dX12_alters_153 : decode cX12_alters 153 = .ok (.aload_n 0, 1) := by decide +kernel
theorem dX12_alters_154 : decode cX12_alters 154 = .ok (.getfield 63, 3) := by decide +kernel
theorem dX12_alters_157 : decode cX12_alters 157 = .ok (.iload 4, 2) := by decide +kernel
theorem dX12_alters_159 : decode cX12_alters 159 = .ok (.iaload, 1) := by decide +kernel
theorem dX12_alters_160 : decode cX12_alters 160 = .ok (.iastore, 1) := by decide +kernel
theorem dX12_alters_161 : decode cX12_alters 161 = .ok (.iinc 4 1, 3) := by decide +kernel
theorem dX12_alters_164 : decode cX12_alters 164 = .ok (.goto (-23), 3) := by decide +kernel
theorem dX12_alters_167 : decode cX12_alters 167 = .ok (.return_, 1) := by decide +kernel
set_option maxRecDepth 20000 in
theorem ggX12_planned_X12_alters : GoodIn wsX12_planned wsX12_alters := goodIn_r _ [10, 11, 1, 12, 13, 14, 9, 15, 16, 17, 18, 19, 20, 21, 22, 23, 24, 25, 26, 27, 28, 29, 30, 31, 32, 33, 34, 35, 36, 37, 38, 39, 40, 41, 42, 43, 44, 45, 46, 47, 48, 49, 50, 51, 52, 53, 54, 55, 56, 57, 58, 59, 60, 61, 62, 63, 64, 65, 66, 67] (by decide +kernel) (by decide +kernel)
set_option maxRecDepth 20000 in
theorem gX12_planned_X12_alters : GoodIn wsX12_planned (wsV RX12 258 RX12 yX12_alters wsX12_alters) := goodIn_app (goodIn_of _ (by decide +kernel)) ggX12_planned_X12_alters
theorem dX12_planned_0 : decode cX12_planned 0 = .ok (.iconst 0, 1) := by decide +kernel
theorem dX12_planned_1 : decode cX12_planned 1 = .ok (.istore_n 1, 1) := by decide +kernel
theorem dX12_planned_2 : decode cX12_planned 2 = .ok (.iload_n 1, 1) := by decide +kernel
theorem dX12_planned_3 : decode cX12_planned 3 = .ok (.iconst 5, 1) := by decide +kernel
theorem dX12_planned_4 : decode cX12_planned 4 = .ok (.if_icmp .ge 21, 3) := by decide +kernel
theorem dX12_planned_7 : decode cX12_planned 7 = .ok (.aload_n 0, 1) := by decide +kernel
theorem dX12_planned_8 : decode cX12_planned 8 = .ok (.getfield 60, 3) := by decide +kernel
theorem dX12_planned_11 : decode cX12_planned 11 = .ok (.iload_n 1, 1) := by decide +kernel
theorem dX12_planned_12 : decode cX12_planned 12 = .ok (.aload_n 0, 1) := by decide +kernel
theorem dX12_planned_13 : decode cX12_planned 13 = .ok (.getfield 9, 3) := by decide +kernel
theorem dX12_planned_16 : decode cX12_planned 16 = .ok (.iload_n 1, 1) := by decide +kernel
theorem dX12_planned_17 : decode cX12_planned 17 = .ok (.iaload, 1) := by decide +kernel
theorem dX12_planned_18 : decode cX12_planned 18 = .ok (.iastore, 1) := by decide +kernel
theorem dX12_planned_19 : decode cX12_planned 19 = .ok (.iinc 1 1, 3) := by decide +kernel
theorem dX12_planned_22 : decode cX12_planned 22 = .ok (.goto (-20), 3) := by decide +kernel
theorem dX12_planned_25 : decode cX12_planned 25 = .ok (.iconst 0, 1) := by decide +kernel
theorem dX12_planned_26 : decode cX12_planned 26 = .ok (.istore_n 1, 1) := by decide +kernel
theorem dX12_planned_27 : decode cX12_planned 27 = .ok (.iload_n 1, 1) := by decide +kernel
theorem dX12_planned_28 : decode cX12_planned 28 = .ok (.aload_n 0, 1) := by decide +kernel
theorem dX12_planned_29 : decode cX12_planned 29 = .ok (.getfield 252, 3) := by decide +kernel
theorem dX12_planned_32 : decode cX12_planned 32 = .ok (.if_icmp .ge 25, 3) := by decide +kernel
theorem dX12_planned_35 : decode cX12_planned 35 = .ok (.aload_n 0, 1) := by decide +kernel
theorem dX12_planned_36 : decode cX12_planned 36 = .ok (.aload_n 0, 1) := by decide +kernel
theorem dX12_planned_37 : decode cX12_planned 37 = .ok (.getfield 54, 3) := by decide +kernel
theorem dX12_planned_40 : decode cX12_planned 40 = .ok (.iload_n 1, 1) := by decide +kernel
theorem dX12_planned_41 : decode cX12_planned 41 = .ok (.iaload, 1) := by decide +kernel
theorem dX12_planned_42 : decode cX12_planned 42 = .ok (.aload_n 0, 1) := by decide +kernel
theorem dX12_planned_43 : decode cX12_planned 43 = .ok (.getfield 57, 3) := by decide +kernel
theorem dX12_planned_46 : decode cX12_planned 46 = .ok (.iload_n 1, 1) := by decide +kernel
theorem dX12_planned_47 : decode cX12_planned 47 = .ok (.iaload, 1) := by decide +kernel
theorem dX12_planned_48 : decode cX12_planned 48 = .ok (.invokevirtual 258, 3) := by decide +kernel
theorem dX12_planned_51 : decode cX12_planned 51 = .ok (.iinc 1 1, 3) := by decide +kernel
theorem dX12_planned_54 : decode cX12_planned 54 = .ok (.goto (-27), 3) := by decide +kernel
theorem dX12_planned_57 : decode cX12_planned 57 = .ok (.return_, 1) := by decide +kernel
set_option maxRecDepth 20000 in
theorem ggX12_run_X12_planned : GoodIn wsX12_run wsX12_planned := goodIn_r _ [7, 2, 1, 8, 9, 10, 11, 12, 13, 6, 14, 15, 16, 17, 18, 19, 20, 21, 22, 23, 24, 25, 26, 31, 32, 33, 34, 35, 36, 37, 38, 39, 40, 41, 42, 43, 44, 45, 46, 47, 48, 49, 50, 51, 52, 53, 54, 55, 56, 57, 58, 59, 60, 61, 62, 63, 64, 65, 66, 67, 68, 69, 70, 71, 72, 73, 74, 75] (by decide +kernel) (by decide +kernel)
set_option maxRecDepth 20000 in
theorem gX12_run_X12_planned : GoodIn wsX12_run (wsV RX12 261 RX12 yX12_planned wsX12_planned) := goodIn_app (goodIn_of _ (by decide +kernel)) ggX12_run_X12_planned
set_option maxRecDepth 20000 in
theorem ggX12_run_X12_degreeOf : GoodIn wsX12_run wsX12_degreeOf := goodIn_r _ [30, 1, 31, 32, 33, 34, 35, 36, 37, 38, 39, 40, 41, 42, 43, 44, 45, 46, 47, 48, 49, 50, 51, 52, 53, 54, 55, 56, 57, 58, 59, 60, 61, 62, 63, 64, 65, 66, 67, 68, 69, 70, 71, 72, 73, 74, 75] (by decide +kernel) (by decide +kernel)
set_option maxRecDepth 20000 in
theorem gX12_run_X12_degreeOf : GoodIn wsX12_run (wsV RX12 131 RX12 yX12_degreeOf wsX12_degreeOf) := goodIn_app (goodIn_of _ (by decide +kernel)) ggX12_run_X12_degreeOf
theorem dX12_run_0 : decode cX12_run 0 = .ok (.aload_n 0, 1) := by decide +kernel
theorem dX12_run_1 : decode cX12_run 1 = .ok (.invokevirtual 261, 3) := by decide +kernel
theorem dX12_run_4 : decode cX12_run 4 = .ok (.iconst 0, 1) := by decide +kernel
theorem dX12_run_5 : decode cX12_run 5 = .ok (.istore_n 1, 1) := by decide +kernel
theorem dX12_run_6 : decode cX12_run 6 = .ok (.iload_n 1, 1) := by decide +kernel
theorem dX12_run_7 : decode cX12_run 7 = .ok (.iconst 5, 1) := by decide +kernel
theorem dX12_run_8 : decode cX12_run 8 = .ok (.if_icmp .ge 21, 3) := by decide +kernel
theorem dX12_run_11 : decode cX12_run 11 = .ok (.aload_n 0, 1) := by decide +kernel
theorem dX12_run_12 : decode cX12_run 12 = .ok (.getfield 9, 3) := by decide +kernel
theorem dX12_run_15 : decode cX12_run 15 = .ok (.iload_n 1, 1) := by decide +kernel
theorem dX12_run_16 : decode cX12_run 16 = .ok (.aload_n 0, 1) := by decide +kernel
theorem dX12_run_17 : decode cX12_run 17 = .ok (.getfield 60, 3) := by decide +kernel
theorem dX12_run_20 : decode cX12_run 20 = .ok (.iload_n 1, 1) := by decide +kernel
theorem dX12_run_21 : decode cX12_run 21 = .ok (.iaload, 1) := by decide +kernel
theorem dX12_run_22 : decode cX12_run 22 = .ok (.iastore, 1) := by decide +kernel
theorem dX12_run_23 : decode cX12_run 23 = .ok (.iinc 1 1, 3) := by decide +kernel
theorem dX12_run_26 : decode cX12_run 26 = .ok (.goto (-20), 3) := by decide +kernel
theorem dX12_run_29 : decode cX12_run 29 = .ok (.aload_n 0, 1) := by decide +kernel
theorem dX12_run_30 : decode cX12_run 30 = .ok (.invokevirtual 131, 3) := by decide +kernel
theorem dX12_run_33 : decode cX12_run 33 = .ok (.ireturn, 1) := by decide +kernel
set_option maxRecDepth 20000 in
theorem ggX12_ahead_X12_isIn : GoodIn wsX12_ahead wsX12_isIn := goodIn_r _ [5] (by decide +kernel) (by decide +kernel)
set_option maxRecDepth 20000 in
theorem gX12_ahead_X12_isIn : GoodIn wsX12_ahead (va_wsS RX12 121 yX12_isIn wsX12_isIn) := goodIn_app (goodIn_of _ (by decide +kernel)) ggX12_ahead_X12_isIn
set_option maxRecDepth 20000 in
theorem ggX12_ahead_X12_planned : GoodIn wsX12_ahead wsX12_planned := goodIn_r _ [9, 1, 10, 11, 12, 13, 14, 15, 16, 4, 17, 18, 19, 20, 21, 22, 23, 24, 25, 26, 27, 28, 29, 37, 38, 39, 40, 41, 42, 43, 44, 45, 46, 47, 48, 49, 50, 51, 52, 53, 54, 55, 56, 57, 58, 59, 60, 61, 62, 63, 64, 65, 66, 67, 68, 69, 70, 71, 72, 73, 74, 75, 76, 77, 78, 79, 80, 81] (by decide +kernel) (by decide +kernel)
set_option maxRecDepth 20000 in
theorem gX12_ahead_X12_planned : GoodIn wsX12_ahead (wsV RX12 261 RX12 yX12_planned wsX12_planned) := goodIn_app (goodIn_of _ (by decide +kernel)) ggX12_ahead_X12_planned
set_option maxRecDepth 20000 in
theorem ggX12_ahead_X12_told : GoodIn wsX12_ahead wsX12_told := goodIn_r _ [32, 33, 34, 35, 4, 36] (by decide +kernel) (by decide +kernel)
set_option maxRecDepth 20000 in
theorem gX12_ahead_X12_told : GoodIn wsX12_ahead (va_wsS RX12 128 yX12_told wsX12_told) := goodIn_app (goodIn_of _ (by decide +kernel)) ggX12_ahead_X12_told
theorem dX12_ahead_0 : decode cX12_ahead 0 = .ok (.iload_n 1, 1) := by decide +kernel
theorem dX12_ahead_1 : decode cX12_ahead 1 = .ok (.iconst 0, 1) := by decide +kernel
theorem dX12_ahead_2 : decode cX12_ahead 2 = .ok (.iconst 4, 1) := by decide +kernel
theorem dX12_ahead_3 : decode cX12_ahead 3 = .ok (.invokestatic 121, 3) := by decide +kernel
theorem dX12_ahead_6 : decode cX12_ahead 6 = .ok (.ifCond .ne 5, 3) := by decide +kernel
theorem dX12_ahead_9 : decode cX12_ahead 9 = .ok (.iconst (-1), 1) := by decide +kernel
theorem dX12_ahead_10 : decode cX12_ahead 10 = .ok (.ireturn, 1) := by decide +kernel
theorem dX12_ahead_11 : decode cX12_ahead 11 = .ok (.aload_n 0, 1) := by decide +kernel
theorem dX12_ahead_12 : decode cX12_ahead 12 = .ok (.invokevirtual 261, 3) := by decide +kernel
theorem dX12_ahead_15 : decode cX12_ahead 15 = .ok (.aload_n 0, 1) := by decide +kernel
theorem dX12_ahead_16 : decode cX12_ahead 16 = .ok (.getfield 60, 3) := by decide +kernel
theorem dX12_ahead_19 : decode cX12_ahead 19 = .ok (.iload_n 1, 1) := by decide +kernel
theorem dX12_ahead_20 : decode cX12_ahead 20 = .ok (.iaload, 1) := by decide +kernel
theorem dX12_ahead_21 : decode cX12_ahead 21 = .ok (.invokestatic 128, 3) := by decide +kernel
theorem dX12_ahead_24 : decode cX12_ahead 24 = .ok (.ireturn, 1) := by decide +kernel
set_option maxRecDepth 20000 in
theorem ggX12_isRack_X12_isIn : GoodIn wsX12_isRack wsX12_isIn := goodIn_r _ [4] (by decide +kernel) (by decide +kernel)
set_option maxRecDepth 20000 in
theorem gX12_isRack_X12_isIn : GoodIn wsX12_isRack (va_wsS RX12 121 yX12_isIn wsX12_isIn) := goodIn_app (goodIn_of _ (by decide +kernel)) ggX12_isRack_X12_isIn
theorem dX12_isRack_0 : decode cX12_isRack 0 = .ok (.iload_n 0, 1) := by decide +kernel
theorem dX12_isRack_1 : decode cX12_isRack 1 = .ok (.iconst 0, 1) := by decide +kernel
theorem dX12_isRack_2 : decode cX12_isRack 2 = .ok (.iconst 2, 1) := by decide +kernel
theorem dX12_isRack_3 : decode cX12_isRack 3 = .ok (.invokestatic 121, 3) := by decide +kernel
theorem dX12_isRack_6 : decode cX12_isRack 6 = .ok (.ireturn, 1) := by decide +kernel
set_option maxRecDepth 20000 in
theorem ggX12_rack_X12_isRack : GoodIn wsX12_rack wsX12_isRack := goodIn_r _ [7, 8, 9, 6, 10] (by decide +kernel) (by decide +kernel)
set_option maxRecDepth 20000 in
theorem gX12_rack_X12_isRack : GoodIn wsX12_rack (va_wsS RX12 264 yX12_isRack wsX12_isRack) := goodIn_app (goodIn_of _ (by decide +kernel)) ggX12_rack_X12_isRack
set_option maxRecDepth 20000 in
theorem ggX12_rack_X12_isIn : GoodIn wsX12_rack wsX12_isIn := goodIn_r _ [10] (by decide +kernel) (by decide +kernel)
set_option maxRecDepth 20000 in
theorem gX12_rack_X12_isIn : GoodIn wsX12_rack (va_wsS RX12 121 yX12_isIn wsX12_isIn) := goodIn_app (goodIn_of _ (by decide +kernel)) ggX12_rack_X12_isIn
theorem dX12_rack_0 : decode cX12_rack 0 = .ok (.iload_n 1, 1) := by decide +kernel
theorem dX12_rack_1 : decode cX12_rack 1 = .ok (.invokestatic 264, 3) := by decide +kernel
theorem dX12_rack_4 : decode cX12_rack 4 = .ok (.ifCond .eq 12, 3) := by decide +kernel
theorem dX12_rack_7 : decode cX12_rack 7 = .ok (.iload_n 2, 1) := by decide +kernel
theorem dX12_rack_8 : decode cX12_rack 8 = .ok (.iconst (-1), 1) := by decide +kernel
theorem dX12_rack_9 : decode cX12_rack 9 = .ok (.iconst 2, 1) := by decide +kernel
theorem dX12_rack_10 : decode cX12_rack 10 = .ok (.invokestatic 121, 3) := by decide +kernel
theorem dX12_rack_13 : decode cX12_rack 13 = .ok (.ifCond .ne 5, 3) := by decide +kernel
theorem dX12_rack_16 : decode cX12_rack 16 = .ok (.iconst (-1), 1) := by decide +kernel
theorem dX12_rack_17 : decode cX12_rack 17 = .ok (.ireturn, 1) := by decide +kernel
theorem dX12_rack_18 : decode cX12_rack 18 = .ok (.iload_n 2, 1) := by decide +kernel
theorem dX12_rack_19 : decode cX12_rack 19 = .ok (.ifCond .lt 12, 3) := by decide +kernel
theorem dX12_rack_22 : decode cX12_rack 22 = .ok (.iload_n 3, 1) := by decide +kernel
theorem dX12_rack_23 : decode cX12_rack 23 = .ok (.bipush 10, 2) := by decide +kernel
theorem dX12_rack_25 : decode cX12_rack 25 = .ok (.if_icmp .le 6, 3) := by decide +kernel
theorem dX12_rack_28 : decode cX12_rack 28 = .ok (.bipush (-2), 2) := by decide +kernel
theorem dX12_rack_30 : decode cX12_rack 30 = .ok (.ireturn, 1) := by decide +kernel
theorem dX12_rack_31 : decode cX12_rack 31 = .ok (.iload_n 2, 1) := by decide +kernel
theorem dX12_rack_32 : decode cX12_rack 32 = .ok (.ifCond .lt 10, 3) := by decide +kernel
theorem dX12_rack_35 : decode cX12_rack 35 = .ok (.iload_n 3, 1) := by decide +kernel
theorem dX12_rack_36 : decode cX12_rack 36 = .ok (.ifCond .ge 6, 3) := by decide +kernel
theorem dX12_rack_39 : decode cX12_rack 39 = .ok (.bipush (-14), 2) := by decide +kernel
theorem dX12_rack_41 : decode cX12_rack 41 = .ok (.ireturn, 1) := by decide +kernel
theorem dX12_rack_42 : decode cX12_rack 42 = .ok (.aload_n 0, 1) := by decide +kernel
theorem dX12_rack_43 : decode cX12_rack 43 = .ok (.getfield 66, 3) := by decide +kernel
theorem dX12_rack_46 : decode cX12_rack 46 = .ok (.iload_n 1, 1) := by decide +kernel
theorem dX12_rack_47 : decode cX12_rack 47 = .ok (.iload_n 2, 1) := by decide +kernel
theorem dX12_rack_48 : decode cX12_rack 48 = .ok (.iastore, 1) := by decide +kernel
theorem dX12_rack_49 : decode cX12_rack 49 = .ok (.aload_n 0, 1) := by decide +kernel
theorem dX12_rack_50 : decode cX12_rack 50 = .ok (.getfield 69, 3) := by decide +kernel
theorem dX12_rack_53 : decode cX12_rack 53 = .ok (.iload_n 1, 1) := by decide +kernel
theorem dX12_rack_54 : decode cX12_rack 54 = .ok (.iload_n 2, 1) := by decide +kernel
theorem dX12_rack_55 : decode cX12_rack 55 = .ok (.ifCond .ge 7, 3) := by decide +kernel
theorem dX12_rack_58 : decode cX12_rack 58 = .ok (.iconst 0, 1) := by decide +kernel
theorem dX12_rack_59 : decode cX12_rack 59 = .ok (.goto 4, 3) := by decide +kernel
theorem dX12_rack_62 : decode cX12_rack 62 = .ok (.iload_n 3, 1) := by decide +kernel
theorem dX12_rack_63 : decode cX12_rack 63 = .ok (.iastore, 1) := by decide +kernel
theorem dX12_rack_64 : decode cX12_rack 64 = .ok (.iconst 0, 1) := by decide +kernel
theorem dX12_rack_65 : decode cX12_rack 65 = .ok (.istore 4, 2) := by decide +kernel
theorem dX12_rack_67 : decode cX12_rack 67 = .ok (.iload 4, 2) := by decide +kernel
theorem dX12_rack_69 : decode cX12_rack 69 = .ok (.bipush 10, 2) := by decide +kernel
theorem dX12_rack_71 : decode cX12_rack 71 = .ok (.if_icmp .ge 22, 3) := by decide +kernel
theorem dX12_rack_74 : decode cX12_rack 74 = .ok (.aload_n 0, 1) := by decide +kernel
theorem dX12_rack_75 : decode cX12_rack 75 = .ok (.getfield 75, 3) := by decide +kernel
theorem dX12_rack_78 : decode cX12_rack 78 = .ok (.bipush 10, 2) := by decide +kernel
theorem dX12_rack_80 : decode cX12_rack 80 = .ok (.iload_n 1, 1) := by decide +kernel
theorem dX12_rack_81 : decode cX12_rack 81 = .ok (.imul, 1) := by decide +kernel
theorem dX12_rack_82 : decode cX12_rack 82 = .ok (.iload 4, 2) := by decide +kernel
theorem dX12_rack_84 : decode cX12_rack 84 = .ok (.iadd, 1) := by decide +kernel
theorem dX12_rack_85 : decode cX12_rack 85 = .ok (.iconst 0, 1) := by decide +kernel
theorem dX12_rack_86 : decode cX12_rack 86 = .ok (.bastore, 1) := by decide +kernel
theorem dX12_rack_87 : decode cX12_rack 87 = .ok (.iinc 4 1, 3) := by decide +kernel
theorem dX12_rack_90 : decode cX12_rack 90 = .ok (.goto (-23), 3) := by decide +kernel
theorem dX12_rack_93 : decode cX12_rack 93 = .ok (.iconst 1, 1) := by decide +kernel
theorem dX12_rack_94 : decode cX12_rack 94 = .ok (.ireturn, 1) := by decide +kernel
set_option maxRecDepth 20000 in
theorem ggX12_store_X12_isRack : GoodIn wsX12_store wsX12_isRack := goodIn_r _ [8, 9, 10, 7, 11] (by decide +kernel) (by decide +kernel)
set_option maxRecDepth 20000 in
theorem gX12_store_X12_isRack : GoodIn wsX12_store (va_wsS RX12 264 yX12_isRack wsX12_isRack) := goodIn_app (goodIn_of _ (by decide +kernel)) ggX12_store_X12_isRack
set_option maxRecDepth 20000 in
theorem ggX12_store_X12_isIn : GoodIn wsX12_store wsX12_isIn := goodIn_r _ [11] (by decide +kernel) (by decide +kernel)
set_option maxRecDepth 20000 in
theorem gX12_store_X12_isIn : GoodIn wsX12_store (va_wsS RX12 121 yX12_isIn wsX12_isIn) := goodIn_app (goodIn_of _ (by decide +kernel)) ggX12_store_X12_isIn
theorem dX12_store_0 : decode cX12_store 0 = .ok (.iload_n 1, 1) := by decide +kernel
theorem dX12_store_1 : decode cX12_store 1 = .ok (.invokestatic 264, 3) := by decide +kernel
theorem dX12_store_4 : decode cX12_store 4 = .ok (.ifCond .eq 12, 3) := by decide +kernel
theorem dX12_store_7 : decode cX12_store 7 = .ok (.iload_n 3, 1) := by decide +kernel
theorem dX12_store_8 : decode cX12_store 8 = .ok (.iconst 0, 1) := by decide +kernel
theorem dX12_store_9 : decode cX12_store 9 = .ok (.iconst 2, 1) := by decide +kernel
theorem dX12_store_10 : decode cX12_store 10 = .ok (.invokestatic 121, 3) := by decide +kernel
theorem dX12_store_13 : decode cX12_store 13 = .ok (.ifCond .ne 5, 3) := by decide +kernel
theorem dX12_store_16 : decode cX12_store 16 = .ok (.iconst (-1), 1) := by decide +kernel
theorem dX12_store_17 : decode cX12_store 17 = .ok (.ireturn, 1) := by decide +kernel
theorem dX12_store_18 : decode cX12_store 18 = .ok (.aload_n 0, 1) := by decide +kernel
theorem dX12_store_19 : decode cX12_store 19 = .ok (.getfield 66, 3) := by decide +kernel
theorem dX12_store_22 : decode cX12_store 22 = .ok (.iload_n 1, 1) := by decide +kernel
theorem dX12_store_23 : decode cX12_store 23 = .ok (.iaload, 1) := by decide +kernel
theorem dX12_store_24 : decode cX12_store 24 = .ok (.ifCond .ge 6, 3) := by decide +kernel
theorem dX12_store_27 : decode cX12_store 27 = .ok (.bipush (-11), 2) := by decide +kernel
theorem dX12_store_29 : decode cX12_store 29 = .ok (.ireturn, 1) := by decide +kernel
theorem dX12_store_30 : decode cX12_store 30 = .ok (.iload_n 2, 1) := by decide +kernel
theorem dX12_store_31 : decode cX12_store 31 = .ok (.iconst 0, 1) := by decide +kernel
theorem dX12_store_32 : decode cX12_store 32 = .ok (.aload_n 0, 1) := by decide +kernel
theorem dX12_store_33 : decode cX12_store 33 = .ok (.getfield 69, 3) := by decide +kernel
theorem dX12_store_36 : decode cX12_store 36 = .ok (.iload_n 1, 1) := by decide +kernel
theorem dX12_store_37 : decode cX12_store 37 = .ok (.iaload, 1) := by decide +kernel
theorem dX12_store_38 : decode cX12_store 38 = .ok (.iconst 1, 1) := by decide +kernel
theorem dX12_store_39 : decode cX12_store 39 = .ok (.isub, 1) := by decide +kernel
theorem dX12_store_40 : decode cX12_store 40 = .ok (.invokestatic 121, 3) := by decide +kernel
theorem dX12_store_43 : decode cX12_store 43 = .ok (.ifCond .ne 6, 3) := by decide +kernel
theorem dX12_store_46 : decode cX12_store 46 = .ok (.bipush (-13), 2) := by decide +kernel
theorem dX12_store_48 : decode cX12_store 48 = .ok (.ireturn, 1) := by decide +kernel
theorem dX12_store_49 : decode cX12_store 49 = .ok (.aload_n 0, 1) := by decide +kernel
theorem dX12_store_50 : decode cX12_store 50 = .ok (.getfield 66, 3) := by decide +kernel
theorem dX12_store_53 : decode cX12_store 53 = .ok (.iload_n 1, 1) := by decide +kernel
theorem dX12_store_54 : decode cX12_store 54 = .ok (.iaload, 1) := by decide +kernel
theorem dX12_store_55 : decode cX12_store 55 = .ok (.iload_n 3, 1) := by decide +kernel
theorem dX12_store_56 : decode cX12_store 56 = .ok (.if_icmp .eq 6, 3) := by decide +kernel
theorem dX12_store_59 : decode cX12_store 59 = .ok (.bipush (-12), 2) := by decide +kernel
theorem dX12_store_61 : decode cX12_store 61 = .ok (.ireturn, 1) := by decide +kernel
theorem dX12_store_62 : decode cX12_store 62 = .ok (.aload_n 0, 1) := by decide +kernel
theorem dX12_store_63 : decode cX12_store 63 = .ok (.getfield 72, 3) := by decide +kernel
theorem dX12_store_66 : decode cX12_store 66 = .ok (.bipush 10, 2) := by decide +kernel
theorem dX12_store_68 : decode cX12_store 68 = .ok (.iload_n 1, 1) := by decide +kernel
theorem dX12_store_69 : decode cX12_store 69 = .ok (.imul, 1) := by decide +kernel
theorem dX12_store_70 : decode cX12_store 70 = .ok (.iload_n 2, 1) := by decide +kernel
theorem dX12_store_71 : decode cX12_store 71 = .ok (.iadd, 1) := by decide +kernel
theorem dX12_store_72 : decode cX12_store 72 = .ok (.iload 4, 2) := by decide +kernel
theorem dX12_store_74 : decode cX12_store 74 = .ok (.iastore, 1) := by decide +kernel
theorem dX12_store_75 : decode cX12_store 75 = .ok (.aload_n 0, 1) := by decide +kernel
theorem dX12_store_76 : decode cX12_store 76 = .ok (.getfield 75, 3) := by decide +kernel
theorem dX12_store_79 : decode cX12_store 79 = .ok (.bipush 10, 2) := by decide +kernel
theorem dX12_store_81 : decode cX12_store 81 = .ok (.iload_n 1, 1) := by decide +kernel
theorem dX12_store_82 : decode cX12_store 82 = .ok (.imul, 1) := by decide +kernel
theorem dX12_store_83 : decode cX12_store 83 = .ok (.iload_n 2, 1) := by decide +kernel
theorem dX12_store_84 : decode cX12_store 84 = .ok (.iadd, 1) := by decide +kernel
theorem dX12_store_85 : decode cX12_store 85 = .ok (.iconst 1, 1) := by decide +kernel
theorem dX12_store_86 : decode cX12_store 86 = .ok (.bastore, 1) := by decide +kernel
theorem dX12_store_87 : decode cX12_store 87 = .ok (.iconst 1, 1) := by decide +kernel
theorem dX12_store_88 : decode cX12_store 88 = .ok (.ireturn, 1) := by decide +kernel
set_option maxRecDepth 20000 in
theorem ggX12_thing_X12_isRack : GoodIn wsX12_thing wsX12_isRack := goodIn_r _ [8, 9, 10, 7, 11] (by decide +kernel) (by decide +kernel)
set_option maxRecDepth 20000 in
theorem gX12_thing_X12_isRack : GoodIn wsX12_thing (va_wsS RX12 264 yX12_isRack wsX12_isRack) := goodIn_app (goodIn_of _ (by decide +kernel)) ggX12_thing_X12_isRack
set_option maxRecDepth 20000 in
theorem ggX12_thing_X12_isIn : GoodIn wsX12_thing wsX12_isIn := goodIn_r _ [11] (by decide +kernel) (by decide +kernel)
set_option maxRecDepth 20000 in
theorem gX12_thing_X12_isIn : GoodIn wsX12_thing (va_wsS RX12 121 yX12_isIn wsX12_isIn) := goodIn_app (goodIn_of _ (by decide +kernel)) ggX12_thing_X12_isIn
theorem dX12_thing_0 : decode cX12_thing 0 = .ok (.iload_n 1, 1) := by decide +kernel
theorem dX12_thing_1 : decode cX12_thing 1 = .ok (.invokestatic 264, 3) := by decide +kernel
theorem dX12_thing_4 : decode cX12_thing 4 = .ok (.ifCond .eq 37, 3) := by decide +kernel
theorem dX12_thing_7 : decode cX12_thing 7 = .ok (.iload_n 2, 1) := by decide +kernel
theorem dX12_thing_8 : decode cX12_thing 8 = .ok (.iconst 0, 1) := by decide +kernel
theorem dX12_thing_9 : decode cX12_thing 9 = .ok (.aload_n 0, 1) := by decide +kernel
theorem dX12_thing_10 : decode cX12_thing 10 = .ok (.getfield 69, 3) := by decide +kernel
theorem dX12_thing_13 : decode cX12_thing 13 = .ok (.iload_n 1, 1) := by decide +kernel
theorem dX12_thing_14 : decode cX12_thing 14 = .ok (.iaload, 1) := by decide +kernel
theorem dX12_thing_15 : decode cX12_thing 15 = .ok (.iconst 1, 1) := by decide +kernel
theorem dX12_thing_16 : decode cX12_thing 16 = .ok (.isub, 1) := by decide +kernel
theorem dX12_thing_17 : decode cX12_thing 17 = .ok (.invokestatic 121, 3) := by decide +kernel
theorem dX12_thing_20 : decode cX12_thing 20 = .ok (.ifCond .eq 21, 3) := by decide +kernel
theorem dX12_thing_23 : decode cX12_thing 23 = .ok (.aload_n 0, 1) := by decide +kernel
theorem dX12_thing_24 : decode cX12_thing 24 = .ok (.getfield 75, 3) := by decide +kernel
theorem dX12_thing_27 : decode cX12_thing 27 = .ok (.bipush 10, 2) := by decide +kernel
theorem dX12_thing_29 : decode cX12_thing 29 = .ok (.iload_n 1, 1) := by decide +kernel
theorem dX12_thing_30 : decode cX12_thing 30 = .ok (.imul, 1) := by decide +kernel
theorem dX12_thing_31 : decode cX12_thing 31 = .ok (.iload_n 2, 1) := by decide +kernel
theorem dX12_thing_32 : decode cX12_thing 32 = .ok (.iadd, 1) := by decide +kernel
theorem dX12_thing_33 : decode cX12_thing 33 = .ok (.baload, 1) := by decide +kernel
theorem dX12_thing_34 : decode cX12_thing 34 = .ok (.ifCond .eq 7, 3) := by decide +kernel
theorem dX12_thing_37 : decode cX12_thing 37 = .ok (.iconst 1, 1) := by decide +kernel
theorem dX12_thing_38 : decode cX12_thing 38 = .ok (.goto 4, 3) := by decide +kernel
theorem dX12_thing_41 : decode cX12_thing 41 = .ok (.iconst 0, 1) := by decide +kernel
theorem dX12_thing_42 : decode cX12_thing 42 = .ok (.istore_n 3, 1) := by decide +kernel
theorem dX12_thing_43 : decode cX12_thing 43 = .ok (.iload_n 3, 1) := by decide +kernel
theorem dX12_thing_44 : decode cX12_thing 44 = .ok (.ifCond .eq 18, 3) := by decide +kernel
theorem dX12_thing_47 : decode cX12_thing 47 = .ok (.aload_n 0, 1) := by decide +kernel
theorem dX12_thing_48 : decode cX12_thing 48 = .ok (.getfield 72, 3) := by decide +kernel
theorem dX12_thing_51 : decode cX12_thing 51 = .ok (.bipush 10, 2) := by decide +kernel
theorem dX12_thing_53 : decode cX12_thing 53 = .ok (.iload_n 1, 1) := by decide +kernel
theorem dX12_thing_54 : decode cX12_thing 54 = .ok (.imul, 1) := by decide +kernel
theorem dX12_thing_55 : decode cX12_thing 55 = .ok (.iload_n 2, 1) := by decide +kernel
theorem dX12_thing_56 : decode cX12_thing 56 = .ok (.iadd, 1) := by decide +kernel
theorem dX12_thing_57 : decode cX12_thing 57 = .ok (.iaload, 1) := by decide +kernel
theorem dX12_thing_58 : decode cX12_thing 58 = .ok (.i2l, 1) := by decide +kernel
theorem dX12_thing_59 : decode cX12_thing 59 = .ok (.goto 6, 3) := by decide +kernel
theorem dX12_thing_62 : decode cX12_thing 62 = .ok (.ldc2_w 268, 3) := by decide +kernel
theorem dX12_thing_65 : decode cX12_thing 65 = .ok (.lreturn, 1) := by decide +kernel
set_option maxRecDepth 20000 in
theorem ggX12_copied_X12_isRack : GoodIn wsX12_copied wsX12_isRack := goodIn_r _ [8, 9, 10, 7, 11] (by decide +kernel) (by decide +kernel)
set_option maxRecDepth 20000 in
theorem gX12_copied_X12_isRack : GoodIn wsX12_copied (va_wsS RX12 264 yX12_isRack wsX12_isRack) := goodIn_app (goodIn_of _ (by decide +kernel)) ggX12_copied_X12_isRack
theorem dX12_copied_0 : decode cX12_copied 0 = .ok (.iload_n 1, 1) := by decide +kernel
theorem dX12_copied_1 : decode cX12_copied 1 = .ok (.invokestatic 264, 3) := by decide +kernel
theorem dX12_copied_4 : decode cX12_copied 4 = .ok (.ifCond .eq 10, 3) := by decide +kernel
theorem dX12_copied_7 : decode cX12_copied 7 = .ok (.iload_n 2, 1) := by decide +kernel
theorem dX12_copied_8 : decode cX12_copied 8 = .ok (.invokestatic 264, 3) := by decide +kernel
theorem dX12_copied_11 : decode cX12_copied 11 = .ok (.ifCond .ne 5, 3) := by decide +kernel
theorem dX12_copied_14 : decode cX12_copied 14 = .ok (.iconst (-1), 1) := by decide +kernel
theorem dX12_copied_15 : decode cX12_copied 15 = .ok (.ireturn, 1) := by decide +kernel
theorem dX12_copied_16 : decode cX12_copied 16 = .ok (.aload_n 0, 1) := by decide +kernel
theorem dX12_copied_17 : decode cX12_copied 17 = .ok (.getfield 66, 3) := by decide +kernel
theorem dX12_copied_20 : decode cX12_copied 20 = .ok (.iload_n 1, 1) := by decide +kernel
theorem dX12_copied_21 : decode cX12_copied 21 = .ok (.iaload, 1) := by decide +kernel
theorem dX12_copied_22 : decode cX12_copied 22 = .ok (.ifCond .ge 6, 3) := by decide +kernel
theorem dX12_copied_25 : decode cX12_copied 25 = .ok (.bipush (-11), 2) := by decide +kernel
theorem dX12_copied_27 : decode cX12_copied 27 = .ok (.ireturn, 1) := by decide +kernel
theorem dX12_copied_28 : decode cX12_copied 28 = .ok (.aload_n 0, 1) := by decide +kernel
theorem dX12_copied_29 : decode cX12_copied 29 = .ok (.getfield 66, 3) := by decide +kernel
theorem dX12_copied_32 : decode cX12_copied 32 = .ok (.iload_n 2, 1) := by decide +kernel
theorem dX12_copied_33 : decode cX12_copied 33 = .ok (.aload_n 0, 1) := by decide +kernel
theorem dX12_copied_34 : decode cX12_copied 34 = .ok (.getfield 66, 3) := by decide +kernel
theorem dX12_copied_37 : decode cX12_copied 37 = .ok (.iload_n 1, 1) := by decide +kernel
theorem dX12_copied_38 : decode cX12_copied 38 = .ok (.iaload, 1) := by decide +kernel
theorem dX12_copied_39 : decode cX12_copied 39 = .ok (.iastore, 1) := by decide +kernel
theorem dX12_copied_40 : decode cX12_copied 40 = .ok (.aload_n 0, 1) := by decide +kernel
theorem dX12_copied_41 : decode cX12_copied 41 = .ok (.getfield 69, 3) := by decide +kernel
theorem dX12_copied_44 : decode cX12_copied 44 = .ok (.iload_n 2, 1) := by decide +kernel
theorem dX12_copied_45 : decode cX12_copied 45 = .ok (.aload_n 0, 1) := by decide +kernel
theorem dX12_copied_46 : decode cX12_copied 46 = .ok (.getfield 69, 3) := by decide +kernel
theorem dX12_copied_49 : decode cX12_copied 49 = .ok (.iload_n 1, 1) := by decide +kernel
theorem dX12_copied_50 : decode cX12_copied 50 = .ok (.iaload, 1) := by decide +kernel
theorem dX12_copied_51 : decode cX12_copied 51 = .ok (.iastore, 1) := by decide +kernel
theorem dX12_copied_52 : decode cX12_copied 52 = .ok (.iconst 0, 1) := by decide +kernel
theorem dX12_copied_53 : decode cX12_copied 53 = .ok (.istore_n 3, 1) := by decide +kernel
theorem dX12_copied_54 : decode cX12_copied 54 = .ok (.iload_n 3, 1) := by decide +kernel
theorem dX12_copied_55 : decode cX12_copied 55 = .ok (.bipush 10, 2) := by decide +kernel
theorem dX12_copied_57 : decode cX12_copied 57 = .ok (.if_icmp .ge 53, 3) := by decide +kernel
theorem dX12_copied_60 : decode cX12_copied 60 = .ok (.aload_n 0, 1) := by decide +kernel
theorem dX12_copied_61 : decode cX12_copied 61 = .ok (.getfield 72, 3) := by decide +kernel
theorem dX12_copied_64 : decode cX12_copied 64 = .ok (.bipush 10, 2) := by decide +kernel
theorem dX12_copied_66 : decode cX12_copied 66 = .ok (.iload_n 2, 1) := by decide +kernel
theorem dX12_copied_67 : decode cX12_copied 67 = .ok (.imul, 1) := by decide +kernel
theorem dX12_copied_68 : decode cX12_copied 68 = .ok (.iload_n 3, 1) := by decide +kernel
theorem dX12_copied_69 : decode cX12_copied 69 = .ok (.iadd, 1) := by decide +kernel
theorem dX12_copied_70 : decode cX12_copied 70 = .ok (.aload_n 0, 1) := by decide +kernel
theorem dX12_copied_71 : decode cX12_copied 71 = .ok (.getfield 72, 3) := by decide +kernel
theorem dX12_copied_74 : decode cX12_copied 74 = .ok (.bipush 10, 2) := by decide +kernel
theorem dX12_copied_76 : decode cX12_copied 76 = .ok (.iload_n 1, 1) := by decide +kernel
theorem dX12_copied_77 : decode cX12_copied 77 = .ok (.imul, 1) := by decide +kernel
theorem dX12_copied_78 : decode cX12_copied 78 = .ok (.iload_n 3, 1) := by decide +kernel
theorem dX12_copied_79 : decode cX12_copied 79 = .ok (.iadd, 1) := by decide +kernel
theorem dX12_copied_80 : decode cX12_copied 80 = .ok (.iaload, 1) := by decide +kernel
theorem dX12_copied_81 : decode cX12_copied 81 = .ok (.iastore, 1) := by decide +kernel
theorem dX12_copied_82 : decode cX12_copied 82 = .ok (.aload_n 0, 1) := by decide +kernel
theorem dX12_copied_83 : decode cX12_copied 83 = .ok (.getfield 75, 3) := by decide +kernel
theorem dX12_copied_86 : decode cX12_copied 86 = .ok (.bipush 10, 2) := by decide +kernel
theorem dX12_copied_88 : decode cX12_copied 88 = .ok (.iload_n 2, 1) := by decide +kernel
theorem dX12_copied_89 : decode cX12_copied 89 = .ok (.imul, 1) := by decide +kernel
theorem dX12_copied_90 : decode cX12_copied 90 = .ok (.iload_n 3, 1) := by decide +kernel
theorem dX12_copied_91 : decode cX12_copied 91 = .ok (.iadd, 1) := by decide +kernel
theorem dX12_copied_92 : decode cX12_copied 92 = .ok (.aload_n 0, 1) := by decide +kernel
theorem dX12_copied_93 : decode cX12_copied 93 = .ok (.getfield 75, 3) := by decide +kernel
theorem dX12_copied_96 : decode cX12_copied 96 = .ok (.bipush 10, 2) := by decide +kernel
theorem dX12_copied_98 : decode cX12_copied 98 = .ok (.iload_n 1, 1) := by decide +kernel
theorem dX12_copied_99 : decode cX12_copied 99 = .ok (.imul, 1) := by decide +kernel
theorem dX12_copied_100 : decode cX12_copied 100 = .ok (.iload_n 3, 1) := by decide +kernel
theorem dX12_copied_101 : decode cX12_copied 101 = .ok (.iadd, 1) := by decide +kernel
theorem dX12_copied_102 : decode cX12_copied 102 = .ok (.baload, 1) := by decide +kernel
theorem dX12_copied_103 : decode cX12_copied 103 = .ok (.bastore, 1) := by decide +kernel
theorem dX12_copied_104 : decode cX12_copied 104 = .ok (.iinc 3 1, 3) := by decide +kernel
theorem dX12_copied_107 : decode cX12_copied 107 = .ok (.goto (-53), 3) := by decide +kernel
theorem dX12_copied_110 : decode cX12_copied 110 = .ok (.aload_n 0, 1) := by decide +kernel
theorem dX12_copied_111 : decode cX12_copied 111 = .ok (.getfield 69, 3) := by decide +kernel
theorem dX12_copied_114 : decode cX12_copied 114 = .ok (.iload_n 1, 1) := by decide +kernel
theorem dX12_copied_115 : decode cX12_copied 115 = .ok (.iaload, 1) := by decide +kernel
theorem dX12_copied_116 : decode cX12_copied 116 = .ok (.ireturn, 1) := by decide +kernel
set_option maxRecDepth 20000 in
theorem ggX12_feed_X12_isIn : GoodIn wsX12_feed wsX12_isIn := goodIn_r _ [6] (by decide +kernel) (by decide +kernel)
set_option maxRecDepth 20000 in
theorem gX12_feed_X12_isIn : GoodIn wsX12_feed (va_wsS RX12 121 yX12_isIn wsX12_isIn) := goodIn_app (goodIn_of _ (by decide +kernel)) ggX12_feed_X12_isIn
theorem dX12_feed_0 : decode cX12_feed 0 = .ok (.iload_n 1, 1) := by decide +kernel
theorem dX12_feed_1 : decode cX12_feed 1 = .ok (.bipush 32, 2) := by decide +kernel
theorem dX12_feed_3 : decode cX12_feed 3 = .ok (.bipush 126, 2) := by decide +kernel
theorem dX12_feed_5 : decode cX12_feed 5 = .ok (.invokestatic 121, 3) := by decide +kernel
theorem dX12_feed_8 : decode cX12_feed 8 = .ok (.ifCond .ne 6, 3) := by decide +kernel
theorem dX12_feed_11 : decode cX12_feed 11 = .ok (.bipush (-2), 2) := by decide +kernel
theorem dX12_feed_13 : decode cX12_feed 13 = .ok (.ireturn, 1) := by decide +kernel
theorem dX12_feed_14 : decode cX12_feed 14 = .ok (.aload_n 0, 1) := by decide +kernel
theorem dX12_feed_15 : decode cX12_feed 15 = .ok (.getfield 270, 3) := by decide +kernel
theorem dX12_feed_18 : decode cX12_feed 18 = .ok (.bipush 60, 2) := by decide +kernel
theorem dX12_feed_20 : decode cX12_feed 20 = .ok (.if_icmp .ne 6, 3) := by decide +kernel
theorem dX12_feed_23 : decode cX12_feed 23 = .ok (.bipush (-4), 2) := by decide +kernel
theorem dX12_feed_25 : decode cX12_feed 25 = .ok (.ireturn, 1) := by decide +kernel
theorem dX12_feed_26 : decode cX12_feed 26 = .ok (.aload_n 0, 1) := by decide +kernel
theorem dX12_feed_27 : decode cX12_feed 27 = .ok (.getfield 79, 3) := by decide +kernel
theorem dX12_feed_30 : decode cX12_feed 30 = .ok (.aload_n 0, 1) := by decide +kernel
theorem dX12_feed_31 : decode cX12_feed 31 = .ok (.getfield 270, 3) := by decide +kernel
theorem dX12_feed_34 : decode cX12_feed 34 = .ok (.iload_n 1, 1) := by decide +kernel
theorem dX12_feed_35 : decode cX12_feed 35 = .ok (.iastore, 1) := by decide +kernel
theorem dX12_feed_36 : decode cX12_feed 36 = .ok (.aload_n 0, 1) := by decide +kernel
theorem dX12_feed_37 : decode cX12_feed 37 = .ok (.dup, 1) := by decide +kernel
theorem dX12_feed_38 : decode cX12_feed 38 = .ok (.getfield 270, 3) := by decide +kernel
theorem dX12_feed_41 : decode cX12_feed 41 = .ok (.iconst 1, 1) := by decide +kernel
theorem dX12_feed_42 : decode cX12_feed 42 = .ok (.iadd, 1) := by decide +kernel
theorem dX12_feed_43 : decode cX12_feed 43 = .ok (.putfield 270, 3) := by decide +kernel
theorem dX12_feed_46 : decode cX12_feed 46 = .ok (.aload_n 0, 1) := by decide +kernel
theorem dX12_feed_47 : decode cX12_feed 47 = .ok (.getfield 270, 3) := by decide +kernel
theorem dX12_feed_50 : decode cX12_feed 50 = .ok (.ireturn, 1) := by decide +kernel
theorem dX12_wipe_0 : decode cX12_wipe 0 = .ok (.aload_n 0, 1) := by decide +kernel
theorem dX12_wipe_1 : decode cX12_wipe 1 = .ok (.getfield 270, 3) := by decide +kernel
theorem dX12_wipe_4 : decode cX12_wipe 4 = .ok (.istore_n 1, 1) := by decide +kernel
theorem dX12_wipe_5 : decode cX12_wipe 5 = .ok (.aload_n 0, 1) := by decide +kernel
theorem dX12_wipe_6 : decode cX12_wipe 6 = .ok (.iconst 0, 1) := by decide +kernel
theorem dX12_wipe_7 : decode cX12_wipe 7 = .ok (.putfield 270, 3) := by decide +kernel
theorem dX12_wipe_10 : decode cX12_wipe 10 = .ok (.iload_n 1, 1) := by decide +kernel
theorem dX12_wipe_11 : decode cX12_wipe 11 = .ok (.ireturn, 1) := by decide +kernel
set_option maxRecDepth 20000 in
theorem ggX12_isAt_X12_isIn : GoodIn wsX12_isAt wsX12_isIn := goodIn_r _ [7] (by decide +kernel) (by decide +kernel)
set_option maxRecDepth 20000 in
theorem gX12_isAt_X12_isIn : GoodIn wsX12_isAt (va_wsS RX12 121 yX12_isIn wsX12_isIn) := goodIn_app (goodIn_of _ (by decide +kernel)) ggX12_isAt_X12_isIn
theorem dX12_isAt_0 : decode cX12_isAt 0 = .ok (.aload_n 0, 1) := by decide +kernel
theorem dX12_isAt_1 : decode cX12_isAt 1 = .ok (.getfield 273, 3) := by decide +kernel
theorem dX12_isAt_4 : decode cX12_isAt 4 = .ok (.aload_n 0, 1) := by decide +kernel
theorem dX12_isAt_5 : decode cX12_isAt 5 = .ok (.getfield 276, 3) := by decide +kernel
theorem dX12_isAt_8 : decode cX12_isAt 8 = .ok (.if_icmp .ge 24, 3) := by decide +kernel
theorem dX12_isAt_11 : decode cX12_isAt 11 = .ok (.aload_n 0, 1) := by decide +kernel
theorem dX12_isAt_12 : decode cX12_isAt 12 = .ok (.getfield 79, 3) := by decide +kernel
theorem dX12_isAt_15 : decode cX12_isAt 15 = .ok (.aload_n 0, 1) := by decide +kernel
theorem dX12_isAt_16 : decode cX12_isAt 16 = .ok (.getfield 273, 3) := by decide +kernel
theorem dX12_isAt_19 : decode cX12_isAt 19 = .ok (.iaload, 1) := by decide +kernel
theorem dX12_isAt_20 : decode cX12_isAt 20 = .ok (.iload_n 1, 1) := by decide +kernel
theorem dX12_isAt_21 : decode cX12_isAt 21 = .ok (.iload_n 2, 1) := by decide +kernel
theorem dX12_isAt_22 : decode cX12_isAt 22 = .ok (.invokestatic 121, 3) := by decide +kernel
theorem dX12_isAt_25 : decode cX12_isAt 25 = .ok (.ifCond .eq 7, 3) := by decide +kernel
theorem dX12_isAt_28 : decode cX12_isAt 28 = .ok (.iconst 1, 1) := by decide +kernel
theorem dX12_isAt_29 : decode cX12_isAt 29 = .ok (.goto 4, 3) := by decide +kernel
theorem dX12_isAt_32 : decode cX12_isAt 32 = .ok (.iconst 0, 1) := by decide +kernel
theorem dX12_isAt_33 : decode cX12_isAt 33 = .ok (.ireturn, 1) := by decide +kernel
set_option maxRecDepth 20000 in
theorem ggX12_isTerm_X12_isAt : GoodIn wsX12_isTerm wsX12_isAt := goodIn_r _ [8, 1, 9, 2, 10, 11, 7, 12, 20, 21, 22, 23, 24, 25, 26, 27, 28, 29, 30, 31, 32, 33, 34, 35, 36, 37, 38, 39, 40, 41, 42, 43, 44, 45, 46, 47, 48, 49, 50, 51, 52, 53, 54, 55, 56, 57, 58, 59, 60, 61, 62, 63, 64] (by decide +kernel) (by decide +kernel)
set_option maxRecDepth 20000 in
theorem gX12_isTerm_X12_isAt : GoodIn wsX12_isTerm (wsV RX12 279 RX12 yX12_isAt wsX12_isAt) := goodIn_app (goodIn_of _ (by decide +kernel)) ggX12_isTerm_X12_isAt
set_option maxRecDepth 20000 in
theorem ggX12_isTerm_X12_modulo : GoodIn wsX12_isTerm wsX12_modulo := goodIn_r _ [15, 16, 17, 18, 19] (by decide +kernel) (by decide +kernel)
set_option maxRecDepth 20000 in
theorem gX12_isTerm_X12_modulo : GoodIn wsX12_isTerm (va_wsS RX12 125 yX12_modulo wsX12_modulo) := goodIn_app (goodIn_of _ (by decide +kernel)) ggX12_isTerm_X12_modulo
theorem dX12_isTerm_0 : decode cX12_isTerm 0 = .ok (.iconst 0, 1) := by decide +kernel
theorem dX12_isTerm_1 : decode cX12_isTerm 1 = .ok (.istore_n 2, 1) := by decide +kernel
theorem dX12_isTerm_2 : decode cX12_isTerm 2 = .ok (.aload_n 0, 1) := by decide +kernel
theorem dX12_isTerm_3 : decode cX12_isTerm 3 = .ok (.getfield 273, 3) := by decide +kernel
theorem dX12_isTerm_6 : decode cX12_isTerm 6 = .ok (.istore_n 3, 1) := by decide +kernel
theorem dX12_isTerm_7 : decode cX12_isTerm 7 = .ok (.aload_n 0, 1) := by decide +kernel
theorem dX12_isTerm_8 : decode cX12_isTerm 8 = .ok (.bipush 48, 2) := by decide +kernel
theorem dX12_isTerm_10 : decode cX12_isTerm 10 = .ok (.bipush 57, 2) := by decide +kernel
theorem dX12_isTerm_12 : decode cX12_isTerm 12 = .ok (.invokevirtual 279, 3) := by decide +kernel
theorem dX12_isTerm_15 : decode cX12_isTerm 15 = .ok (.ifCond .eq 44, 3) := by decide +kernel
theorem dX12_isTerm_18 : decode cX12_isTerm 18 = .ok (.aload_n 0, 1) := by decide +kernel
theorem dX12_isTerm_19 : decode cX12_isTerm 19 = .ok (.getfield 273, 3) := by decide +kernel
theorem dX12_isTerm_22 : decode cX12_isTerm 22 = .ok (.iload_n 3, 1) := by decide +kernel
theorem dX12_isTerm_23 : decode cX12_isTerm 23 = .ok (.isub, 1) := by decide +kernel
theorem dX12_isTerm_24 : decode cX12_isTerm 24 = .ok (.iconst 3, 1) := by decide +kernel
theorem dX12_isTerm_25 : decode cX12_isTerm 25 = .ok (.if_icmp .ge 34, 3) := by decide +kernel
theorem dX12_isTerm_28 : decode cX12_isTerm 28 = .ok (.bipush 10, 2) := by decide +kernel
theorem dX12_isTerm_30 : decode cX12_isTerm 30 = .ok (.iload_n 2, 1) := by decide +kernel
theorem dX12_isTerm_31 : decode cX12_isTerm 31 = .ok (.imul, 1) := by decide +kernel
theorem dX12_isTerm_32 : decode cX12_isTerm 32 = .ok (.aload_n 0, 1) := by decide +kernel
theorem dX12_isTerm_33 : decode cX12_isTerm 33 = .ok (.getfield 79, 3) := by decide +kernel
theorem dX12_isTerm_36 : decode cX12_isTerm 36 = .ok (.aload_n 0, 1) := by decide +kernel
theorem dX12_isTerm_37 : decode cX12_isTerm 37 = .ok (.getfield 273, 3) := by decide +kernel
theorem dX12_isTerm_40 : decode cX12_isTerm 40 = .ok (.iaload, 1) := by decide +kernel
theorem dX12_isTerm_41 : decode cX12_isTerm 41 = .ok (.iadd, 1) := by decide +kernel
theorem dX12_isTerm_42 : decode cX12_isTerm 42 = .ok (.bipush 48, 2) := by decide +kernel
theorem dX12_isTerm_44 : decode cX12_isTerm 44 = .ok (.isub, 1) := by decide +kernel
theorem dX12_isTerm_45 : decode cX12_isTerm 45 = .ok (.istore_n 2, 1) := by decide +kernel
theorem dX12_isTerm_46 : decode cX12_isTerm 46 = .ok (.aload_n 0, 1) := by decide +kernel
theorem dX12_isTerm_47 : decode cX12_isTerm 47 = .ok (.dup, 1) := by decide +kernel
theorem dX12_isTerm_48 : decode cX12_isTerm 48 = .ok (.getfield 273, 3) := by decide +kernel
theorem dX12_isTerm_51 : decode cX12_isTerm 51 = .ok (.iconst 1, 1) := by decide +kernel
theorem dX12_isTerm_52 : decode cX12_isTerm 52 = .ok (.iadd, 1) := by decide +kernel
theorem dX12_isTerm_53 : decode cX12_isTerm 53 = .ok (.putfield 273, 3) := by decide +kernel
theorem dX12_isTerm_56 : decode cX12_isTerm 56 = .ok (.goto (-49), 3) := by decide +kernel
theorem dX12_isTerm_59 : decode cX12_isTerm 59 = .ok (.aload_n 0, 1) := by decide +kernel
theorem dX12_isTerm_60 : decode cX12_isTerm 60 = .ok (.getfield 273, 3) := by decide +kernel
theorem dX12_isTerm_63 : decode cX12_isTerm 63 = .ok (.iload_n 3, 1) := by decide +kernel
theorem dX12_isTerm_64 : decode cX12_isTerm 64 = .ok (.if_icmp .le 7, 3) := by decide +kernel
theorem dX12_isTerm_67 : decode cX12_isTerm 67 = .ok (.iconst 1, 1) := by decide +kernel
theorem dX12_isTerm_68 : decode cX12_isTerm 68 = .ok (.goto 4, 3) := by decide +kernel
theorem dX12_isTerm_71 : decode cX12_isTerm 71 = .ok (.iconst 0, 1) := by decide +kernel
theorem dX12_isTerm_72 : decode cX12_isTerm 72 = .ok (.istore 4, 2) := by decide +kernel
theorem dX12_isTerm_74 : decode cX12_isTerm 74 = .ok (.iconst 0, 1) := by decide +kernel
theorem dX12_isTerm_75 : decode cX12_isTerm 75 = .ok (.istore 5, 2) := by decide +kernel
theorem dX12_isTerm_77 : decode cX12_isTerm 77 = .ok (.aload_n 0, 1) := by decide +kernel
theorem dX12_isTerm_78 : decode cX12_isTerm 78 = .ok (.bipush 120, 2) := by decide +kernel
theorem dX12_isTerm_80 : decode cX12_isTerm 80 = .ok (.bipush 120, 2) := by decide +kernel
theorem dX12_isTerm_82 : decode cX12_isTerm 82 = .ok (.invokevirtual 279, 3) := by decide +kernel
theorem dX12_isTerm_85 : decode cX12_isTerm 85 = .ok (.ifCond .eq 88, 3) := by decide +kernel
theorem dX12_isTerm_88 : decode cX12_isTerm 88 = .ok (.iload 4, 2) := by decide +kernel
theorem dX12_isTerm_90 : decode cX12_isTerm 90 = .ok (.ifCond .eq 7, 3) := by decide +kernel
theorem dX12_isTerm_93 : decode cX12_isTerm 93 = .ok (.iload_n 2, 1) := by decide +kernel
theorem dX12_isTerm_94 : decode cX12_isTerm 94 = .ok (.goto 4, 3) := by decide +kernel
theorem dX12_isTerm_97 : decode cX12_isTerm 97 = .ok (.iconst 1, 1) := by decide +kernel
theorem dX12_isTerm_98 : decode cX12_isTerm 98 = .ok (.istore_n 2, 1) := by decide +kernel
theorem dX12_isTerm_99 : decode cX12_isTerm 99 = .ok (.iconst 1, 1) := by decide +kernel
theorem dX12_isTerm_100 : decode cX12_isTerm 100 = .ok (.istore 5, 2) := by decide +kernel
theorem dX12_isTerm_102 : decode cX12_isTerm 102 = .ok (.aload_n 0, 1) := by decide +kernel
theorem dX12_isTerm_103 : decode cX12_isTerm 103 = .ok (.dup, 1) := by decide +kernel
theorem dX12_isTerm_104 : decode cX12_isTerm 104 = .ok (.getfield 273, 3) := by decide +kernel
theorem dX12_isTerm_107 : decode cX12_isTerm 107 = .ok (.iconst 1, 1) := by decide +kernel
theorem dX12_isTerm_108 : decode cX12_isTerm 108 = .ok (.iadd, 1) := by decide +kernel
theorem dX12_isTerm_109 : decode cX12_isTerm 109 = .ok (.putfield 273, 3) := by decide +kernel
theorem dX12_isTerm_112 : decode cX12_isTerm 112 = .ok (.aload_n 0, 1) := by decide +kernel
theorem dX12_isTerm_113 : decode cX12_isTerm 113 = .ok (.bipush 94, 2) := by decide +kernel
theorem dX12_isTerm_115 : decode cX12_isTerm 115 = .ok (.bipush 94, 2) := by decide +kernel
theorem dX12_isTerm_117 : decode cX12_isTerm 117 = .ok (.invokevirtual 279, 3) := by decide +kernel
theorem dX12_isTerm_120 : decode cX12_isTerm 120 = .ok (.ifCond .eq 60, 3) := by decide +kernel
theorem dX12_isTerm_123 : decode cX12_isTerm 123 = .ok (.aload_n 0, 1) := by decide +kernel
theorem dX12_isTerm_124 : decode cX12_isTerm 124 = .ok (.dup, 1) := by decide +kernel
theorem dX12_isTerm_125 : decode cX12_isTerm 125 = .ok (.getfield 273, 3) := by decide +kernel
theorem dX12_isTerm_128 : decode cX12_isTerm 128 = .ok (.iconst 1, 1) := by decide +kernel
theorem dX12_isTerm_129 : decode cX12_isTerm 129 = .ok (.iadd, 1) := by decide +kernel
theorem dX12_isTerm_130 : decode cX12_isTerm 130 = .ok (.putfield 273, 3) := by decide +kernel
theorem dX12_isTerm_133 : decode cX12_isTerm 133 = .ok (.aload_n 0, 1) := by decide +kernel
theorem dX12_isTerm_134 : decode cX12_isTerm 134 = .ok (.bipush 48, 2) := by decide +kernel
theorem dX12_isTerm_136 : decode cX12_isTerm 136 = .ok (.bipush 52, 2) := by decide +kernel
theorem dX12_isTerm_138 : decode cX12_isTerm 138 = .ok (.invokevirtual 279, 3) := by decide +kernel
theorem dX12_isTerm_141 : decode cX12_isTerm 141 = .ok (.ifCond .ne 5, 3) := by decide +kernel
theorem dX12_isTerm_144 : decode cX12_isTerm 144 = .ok (.iconst 0, 1) := by decide +kernel
theorem dX12_isTerm_145 : decode cX12_isTerm 145 = .ok (.ireturn, 1) := by decide +kernel
theorem dX12_isTerm_146 : decode cX12_isTerm 146 = .ok (.aload_n 0, 1) := by decide +kernel
theorem dX12_isTerm_147 : decode cX12_isTerm 147 = .ok (.getfield 79, 3) := by decide +kernel
theorem dX12_isTerm_150 : decode cX12_isTerm 150 = .ok (.aload_n 0, 1) := by decide +kernel
theorem dX12_isTerm_151 : decode cX12_isTerm 151 = .ok (.getfield 273, 3) := by decide +kernel
theorem dX12_isTerm_154 : decode cX12_isTerm 154 = .ok (.iaload, 1) := by decide +kernel
theorem dX12_isTerm_155 : decode cX12_isTerm 155 = .ok (.bipush 48, 2) := by decide +kernel
theorem dX12_isTerm_157 : decode cX12_isTerm 157 = .ok (.isub, 1) := by decide +kernel
theorem dX12_isTerm_158 : decode cX12_isTerm 158 = .ok (.istore 5, 2) := by decide +kernel
theorem dX12_isTerm_160 : decode cX12_isTerm 160 = .ok (.aload_n 0, 1) := by decide +kernel
theorem dX12_isTerm_161 : decode cX12_isTerm 161 = .ok (.dup, 1) := by decide +kernel
theorem dX12_isTerm_162 : decode cX12_isTerm 162 = .ok (.getfield 273, 3) := by decide +kernel
theorem dX12_isTerm_165 : decode cX12_isTerm 165 = .ok (.iconst 1, 1) := by decide +kernel
theorem dX12_isTerm_166 : decode cX12_isTerm 166 = .ok (.iadd, 1) := by decide +kernel
theorem dX12_isTerm_167 : decode cX12_isTerm 167 = .ok (.putfield 273, 3) := by decide +kernel
theorem dX12_isTerm_170 : decode cX12_isTerm 170 = .ok (.goto 10, 3) := by decide +kernel
theorem dX12_isTerm_173 : decode cX12_isTerm 173 = .ok (.iload 4, 2) := by decide +kernel
theorem dX12_isTerm_175 : decode cX12_isTerm 175 = .ok (.ifCond .ne 5, 3) := by decide +kernel
theorem dX12_isTerm_178 : decode cX12_isTerm 178 = .ok (.iconst 0, 1) := by decide +kernel
theorem dX12_isTerm_179 : decode cX12_isTerm 179 = .ok (.ireturn, 1) := by decide +kernel
theorem dX12_isTerm_180 : decode cX12_isTerm 180 = .ok (.aload_n 0, 1) := by decide +kernel
theorem dX12_isTerm_181 : decode cX12_isTerm 181 = .ok (.getfield 82, 3) := by decide +kernel
theorem dX12_isTerm_184 : decode cX12_isTerm 184 = .ok (.iload 5, 2) := by decide +kernel
theorem dX12_isTerm_186 : decode cX12_isTerm 186 = .ok (.aload_n 0, 1) := by decide +kernel
theorem dX12_isTerm_187 : decode cX12_isTerm 187 = .ok (.getfield 82, 3) := by decide +kernel
theorem dX12_isTerm_190 : decode cX12_isTerm 190 = .ok (.iload 5, 2) := by decide +kernel
theorem dX12_isTerm_192 : decode cX12_isTerm 192 = .ok (.iaload, 1) := by decide +kernel
theorem dX12_isTerm_193 : decode cX12_isTerm 193 = .ok (.iload_n 1, 1) := by decide +kernel
theorem dX12_isTerm_194 : decode cX12_isTerm 194 = .ok (.iload_n 2, 1) := by decide +kernel
theorem dX12_isTerm_195 : decode cX12_isTerm 195 = .ok (.imul, 1) := by decide +kernel
theorem dX12_isTerm_196 : decode cX12_isTerm 196 = .ok (.iadd, 1) := by decide +kernel
theorem dX12_isTerm_197 : decode cX12_isTerm 197 = .ok (.invokestatic 125, 3) := by decide +kernel
theorem dX12_isTerm_200 : decode cX12_isTerm 200 = .ok (.iastore, 1) := by decide +kernel
theorem dX12_isTerm_201 : decode cX12_isTerm 201 = .ok (.iconst 1, 1) := by decide +kernel
theorem dX12_isTerm_202 : decode cX12_isTerm 202 = .ok (.ireturn, 1) := by decide +kernel
set_option maxRecDepth 20000 in
theorem ggX12_isText_X12_isAt : GoodIn wsX12_isText wsX12_isAt := goodIn_r _ [8, 2, 3, 9, 10, 11, 7, 12, 24, 25, 26, 27, 28, 29, 30, 31, 32, 33, 34, 35, 36, 37, 38, 39, 40, 41, 42, 43, 44, 45, 46, 47, 48, 49, 50, 51, 52, 53, 54, 55, 56, 57, 58, 59, 60, 61, 62, 63, 64, 65, 66, 67, 68] (by decide +kernel) (by decide +kernel)
set_option maxRecDepth 20000 in
theorem gX12_isText_X12_isAt : GoodIn wsX12_isText (wsV RX12 279 RX12 yX12_isAt wsX12_isAt) := goodIn_app (goodIn_of _ (by decide +kernel)) ggX12_isText_X12_isAt
set_option maxRecDepth 20000 in
theorem ggX12_isText_X12_isTerm : GoodIn wsX12_isText wsX12_isTerm := goodIn_r _ [16, 2, 9, 1, 4, 5, 6, 7, 8, 3, 10, 11, 12, 17, 18, 19, 20, 21, 22, 23, 24, 25, 26, 27, 28, 29, 30, 31, 32, 33, 34, 35, 36, 37, 38, 39, 40, 41, 42, 43, 44, 45, 46, 47, 48, 49, 50, 51, 52, 53, 54, 55, 56, 57, 58, 59, 60, 61, 62, 63, 64, 65, 66, 67, 68] (by decide +kernel) (by decide +kernel)
set_option maxRecDepth 20000 in
theorem gX12_isText_X12_isTerm : GoodIn wsX12_isText (wsV RX12 283 RX12 yX12_isTerm wsX12_isTerm) := goodIn_app (goodIn_of _ (by decide +kernel)) ggX12_isText_X12_isTerm
theorem dX12_isText_0 : decode cX12_isText 0 = .ok (.iconst 0, 1) := by decide +kernel
theorem dX12_isText_1 : decode cX12_isText 1 = .ok (.istore_n 1, 1) := by decide +kernel
theorem dX12_isText_2 : decode cX12_isText 2 = .ok (.iload_n 1, 1) := by decide +kernel
theorem dX12_isText_3 : decode cX12_isText 3 = .ok (.iconst 5, 1) := by decide +kernel
theorem dX12_isText_4 : decode cX12_isText 4 = .ok (.if_icmp .ge 16, 3) := by decide +kernel
theorem dX12_isText_7 : decode cX12_isText 7 = .ok (.aload_n 0, 1) := by decide +kernel
theorem dX12_isText_8 : decode cX12_isText 8 = .ok (.getfield 82, 3) := by decide +kernel
theorem dX12_isText_11 : decode cX12_isText 11 = .ok (.iload_n 1, 1) := by decide +kernel
theorem dX12_isText_12 : decode cX12_isText 12 = .ok (.iconst 0, 1) := by decide +kernel
theorem dX12_isText_13 : decode cX12_isText 13 = .ok (.iastore, 1) := by decide +kernel
theorem dX12_isText_14 : decode cX12_isText 14 = .ok (.iinc 1 1, 3) := by decide +kernel
theorem dX12_isText_17 : decode cX12_isText 17 = .ok (.goto (-15), 3) := by decide +kernel
theorem dX12_isText_20 : decode cX12_isText 20 = .ok (.aload_n 0, 1) := by decide +kernel
theorem dX12_isText_21 : decode cX12_isText 21 = .ok (.aload_n 0, 1) := by decide +kernel
theorem dX12_isText_22 : decode cX12_isText 22 = .ok (.bipush 45, 2) := by decide +kernel
theorem dX12_isText_24 : decode cX12_isText 24 = .ok (.bipush 45, 2) := by decide +kernel
theorem dX12_isText_26 : decode cX12_isText 26 = .ok (.invokevirtual 279, 3) := by decide +kernel
theorem dX12_isText_29 : decode cX12_isText 29 = .ok (.ifCond .eq 7, 3) := by decide +kernel
theorem dX12_isText_32 : decode cX12_isText 32 = .ok (.iconst 1, 1) := by decide +kernel
theorem dX12_isText_33 : decode cX12_isText 33 = .ok (.goto 4, 3) := by decide +kernel
theorem dX12_isText_36 : decode cX12_isText 36 = .ok (.iconst 0, 1) := by decide +kernel
theorem dX12_isText_37 : decode cX12_isText 37 = .ok (.putfield 273, 3) := by decide +kernel
theorem dX12_isText_40 : decode cX12_isText 40 = .ok (.aload_n 0, 1) := by decide +kernel
theorem dX12_isText_41 : decode cX12_isText 41 = .ok (.aload_n 0, 1) := by decide +kernel
theorem dX12_isText_42 : decode cX12_isText 42 = .ok (.getfield 273, 3) := by decide +kernel
theorem dX12_isText_45 : decode cX12_isText 45 = .ok (.iconst 1, 1) := by decide +kernel
theorem dX12_isText_46 : decode cX12_isText 46 = .ok (.if_icmp .ne 7, 3) := by decide +kernel
theorem dX12_isText_49 : decode cX12_isText 49 = .ok (.iconst (-1), 1) := by decide +kernel
theorem dX12_isText_50 : decode cX12_isText 50 = .ok (.goto 4, 3) := by decide +kernel
theorem dX12_isText_53 : decode cX12_isText 53 = .ok (.iconst 1, 1) := by decide +kernel
theorem dX12_isText_54 : decode cX12_isText 54 = .ok (.invokevirtual 283, 3) := by decide +kernel
theorem dX12_isText_57 : decode cX12_isText 57 = .ok (.istore_n 1, 1) := by decide +kernel
theorem dX12_isText_58 : decode cX12_isText 58 = .ok (.iload_n 1, 1) := by decide +kernel
theorem dX12_isText_59 : decode cX12_isText 59 = .ok (.ifCond .eq 61, 3) := by decide +kernel
theorem dX12_isText_62 : decode cX12_isText 62 = .ok (.aload_n 0, 1) := by decide +kernel
theorem dX12_isText_63 : decode cX12_isText 63 = .ok (.bipush 43, 2) := by decide +kernel
theorem dX12_isText_65 : decode cX12_isText 65 = .ok (.bipush 43, 2) := by decide +kernel
theorem dX12_isText_67 : decode cX12_isText 67 = .ok (.invokevirtual 279, 3) := by decide +kernel
theorem dX12_isText_70 : decode cX12_isText 70 = .ok (.ifCond .ne 14, 3) := by decide +kernel
theorem dX12_isText_73 : decode cX12_isText 73 = .ok (.aload_n 0, 1) := by decide +kernel
theorem dX12_isText_74 : decode cX12_isText 74 = .ok (.bipush 45, 2) := by decide +kernel
theorem dX12_isText_76 : decode cX12_isText 76 = .ok (.bipush 45, 2) := by decide +kernel
theorem dX12_isText_78 : decode cX12_isText 78 = .ok (.invokevirtual 279, 3) := by decide +kernel
theorem dX12_isText_81 : decode cX12_isText 81 = .ok (.ifCond .eq 39, 3) := by decide +kernel
theorem dX12_isText_84 : decode cX12_isText 84 = .ok (.aload_n 0, 1) := by decide +kernel
theorem dX12_isText_85 : decode cX12_isText 85 = .ok (.bipush 43, 2) := by decide +kernel
theorem dX12_isText_87 : decode cX12_isText 87 = .ok (.bipush 43, 2) := by decide +kernel
theorem dX12_isText_89 : decode cX12_isText 89 = .ok (.invokevirtual 279, 3) := by decide +kernel
theorem dX12_isText_92 : decode cX12_isText 92 = .ok (.ifCond .eq 7, 3) := by decide +kernel
theorem dX12_isText_95 : decode cX12_isText 95 = .ok (.iconst 1, 1) := by decide +kernel
theorem dX12_isText_96 : decode cX12_isText 96 = .ok (.goto 4, 3) := by decide +kernel
theorem dX12_isText_99 : decode cX12_isText 99 = .ok (.iconst (-1), 1) := by decide +kernel
theorem dX12_isText_100 : decode cX12_isText 100 = .ok (.istore_n 2, 1) := by decide +kernel
theorem dX12_isText_101 : decode cX12_isText 101 = .ok (.aload_n 0, 1) := by decide +kernel
theorem dX12_isText_102 : decode cX12_isText 102 = .ok (.dup, 1) := by decide +kernel
theorem dX12_isText_103 : decode cX12_isText 103 = .ok (.getfield 273, 3) := by decide +kernel
theorem dX12_isText_106 : decode cX12_isText 106 = .ok (.iconst 1, 1) := by decide +kernel
theorem dX12_isText_107 : decode cX12_isText 107 = .ok (.iadd, 1) := by decide +kernel
theorem dX12_isText_108 : decode cX12_isText 108 = .ok (.putfield 273, 3) := by decide +kernel
theorem dX12_isText_111 : decode cX12_isText 111 = .ok (.aload_n 0, 1) := by decide +kernel
theorem dX12_isText_112 : decode cX12_isText 112 = .ok (.iload_n 2, 1) := by decide +kernel
theorem dX12_isText_113 : decode cX12_isText 113 = .ok (.invokevirtual 283, 3) := by decide +kernel
theorem dX12_isText_116 : decode cX12_isText 116 = .ok (.istore_n 1, 1) := by decide +kernel
theorem dX12_isText_117 : decode cX12_isText 117 = .ok (.goto (-59), 3) := by decide +kernel
theorem dX12_isText_120 : decode cX12_isText 120 = .ok (.iload_n 1, 1) := by decide +kernel
theorem dX12_isText_121 : decode cX12_isText 121 = .ok (.ifCond .eq 18, 3) := by decide +kernel
theorem dX12_isText_124 : decode cX12_isText 124 = .ok (.aload_n 0, 1) := by decide +kernel
theorem dX12_isText_125 : decode cX12_isText 125 = .ok (.getfield 273, 3) := by decide +kernel
theorem dX12_isText_128 : decode cX12_isText 128 = .ok (.aload_n 0, 1) := by decide +kernel
theorem dX12_isText_129 : decode cX12_isText 129 = .ok (.getfield 276, 3) := by decide +kernel
theorem dX12_isText_132 : decode cX12_isText 132 = .ok (.if_icmp .ne 7, 3) := by decide +kernel
theorem dX12_isText_135 : decode cX12_isText 135 = .ok (.iconst 1, 1) := by decide +kernel
theorem dX12_isText_136 : decode cX12_isText 136 = .ok (.goto 4, 3) := by decide +kernel
theorem dX12_isText_139 : decode cX12_isText 139 = .ok (.iconst 0, 1) := by decide +kernel
theorem dX12_isText_140 : decode cX12_isText 140 = .ok (.ireturn, 1) := by decide +kernel
set_option maxRecDepth 20000 in
theorem ggX12_read_X12_isText : GoodIn wsX12_read wsX12_isText := goodIn_r _ [10, 5, 3, 2, 11, 12, 13, 9, 14, 15, 16, 17, 18, 19, 20, 21, 22, 23, 24, 25, 26, 27, 28, 29, 34, 35, 36, 37, 38, 39, 40, 41, 42, 43, 44, 45, 46, 47, 48, 49, 50, 51, 52, 53, 54, 55, 56, 57, 58, 59, 60, 61, 62, 63, 64, 65, 66, 67, 68, 69, 70, 71, 72, 73, 74, 75, 76, 77, 78] (by decide +kernel) (by decide +kernel)
set_option maxRecDepth 20000 in
theorem gX12_read_X12_isText : GoodIn wsX12_read (wsV RX12 286 RX12 yX12_isText wsX12_isText) := goodIn_app (goodIn_of _ (by decide +kernel)) ggX12_read_X12_isText
set_option maxRecDepth 20000 in
theorem ggX12_read_X12_degreeOf : GoodIn wsX12_read wsX12_degreeOf := goodIn_r _ [33, 4, 34, 35, 36, 37, 38, 39, 40, 41, 42, 43, 44, 45, 46, 47, 48, 49, 50, 51, 52, 53, 54, 55, 56, 57, 58, 59, 60, 61, 62, 63, 64, 65, 66, 67, 68, 69, 70, 71, 72, 73, 74, 75, 76, 77, 78] (by decide +kernel) (by decide +kernel)
set_option maxRecDepth 20000 in
theorem gX12_read_X12_degreeOf : GoodIn wsX12_read (wsV RX12 131 RX12 yX12_degreeOf wsX12_degreeOf) := goodIn_app (goodIn_of _ (by decide +kernel)) ggX12_read_X12_degreeOf
theorem dX12_read_0 : decode cX12_read 0 = .ok (.aload_n 0, 1) := by decide +kernel
theorem dX12_read_1 : decode cX12_read 1 = .ok (.aload_n 0, 1) := by decide +kernel
theorem dX12_read_2 : decode cX12_read 2 = .ok (.getfield 270, 3) := by decide +kernel
theorem dX12_read_5 : decode cX12_read 5 = .ok (.putfield 276, 3) := by decide +kernel
theorem dX12_read_8 : decode cX12_read 8 = .ok (.aload_n 0, 1) := by decide +kernel
theorem dX12_read_9 : decode cX12_read 9 = .ok (.iconst 0, 1) := by decide +kernel
theorem dX12_read_10 : decode cX12_read 10 = .ok (.putfield 270, 3) := by decide +kernel
theorem dX12_read_13 : decode cX12_read 13 = .ok (.aload_n 0, 1) := by decide +kernel
theorem dX12_read_14 : decode cX12_read 14 = .ok (.iconst 0, 1) := by decide +kernel
theorem dX12_read_15 : decode cX12_read 15 = .ok (.putfield 273, 3) := by decide +kernel
theorem dX12_read_18 : decode cX12_read 18 = .ok (.aload_n 0, 1) := by decide +kernel
theorem dX12_read_19 : decode cX12_read 19 = .ok (.invokevirtual 286, 3) := by decide +kernel
theorem dX12_read_22 : decode cX12_read 22 = .ok (.ifCond .ne 11, 3) := by decide +kernel
theorem dX12_read_25 : decode cX12_read 25 = .ok (.bipush (-100), 2) := by decide +kernel
theorem dX12_read_27 : decode cX12_read 27 = .ok (.aload_n 0, 1) := by decide +kernel
theorem dX12_read_28 : decode cX12_read 28 = .ok (.getfield 273, 3) := by decide +kernel
theorem dX12_read_31 : decode cX12_read 31 = .ok (.isub, 1) := by decide +kernel
theorem dX12_read_32 : decode cX12_read 32 = .ok (.ireturn, 1) := by decide +kernel
theorem dX12_read_33 : decode cX12_read 33 = .ok (.iconst 0, 1) := by decide +kernel
theorem dX12_read_34 : decode cX12_read 34 = .ok (.istore_n 1, 1) := by decide +kernel
theorem dX12_read_35 : decode cX12_read 35 = .ok (.iload_n 1, 1) := by decide +kernel
theorem dX12_read_36 : decode cX12_read 36 = .ok (.iconst 5, 1) := by decide +kernel
theorem dX12_read_37 : decode cX12_read 37 = .ok (.if_icmp .ge 21, 3) := by decide +kernel
theorem dX12_read_40 : decode cX12_read 40 = .ok (.aload_n 0, 1) := by decide +kernel
theorem dX12_read_41 : decode cX12_read 41 = .ok (.getfield 9, 3) := by decide +kernel
theorem dX12_read_44 : decode cX12_read 44 = .ok (.iload_n 1, 1) := by decide +kernel
theorem dX12_read_45 : decode cX12_read 45 = .ok (.aload_n 0, 1) := by decide +kernel
theorem dX12_read_46 : decode cX12_read 46 = .ok (.getfield 82, 3) := by decide +kernel
theorem dX12_read_49 : decode cX12_read 49 = .ok (.iload_n 1, 1) := by decide +kernel
theorem dX12_read_50 : decode cX12_read 50 = .ok (.iaload, 1) := by decide +kernel
theorem dX12_read_51 : decode cX12_read 51 = .ok (.iastore, 1) := by decide +kernel
theorem dX12_read_52 : decode cX12_read 52 = .ok (.iinc 1 1, 3) := by decide +kernel
theorem dX12_read_55 : decode cX12_read 55 = .ok (.goto (-20), 3) := by decide +kernel
theorem dX12_read_58 : decode cX12_read 58 = .ok (.aload_n 0, 1) := by decide +kernel
theorem dX12_read_59 : decode cX12_read 59 = .ok (.invokevirtual 131, 3) := by decide +kernel
theorem dX12_read_62 : decode cX12_read 62 = .ok (.bipush 10, 2) := by decide +kernel
theorem dX12_read_64 : decode cX12_read 64 = .ok (.iadd, 1) := by decide +kernel
theorem dX12_read_65 : decode cX12_read 65 = .ok (.ireturn, 1) := by decide +kernel
theorem dX12_writes_0 : decode cX12_writes 0 = .ok (.aload_n 0, 1) := by decide +kernel
theorem dX12_writes_1 : decode cX12_writes 1 = .ok (.aload_n 0, 1) := by decide +kernel
theorem dX12_writes_2 : decode cX12_writes 2 = .ok (.getfield 289, 3) := by decide +kernel
theorem dX12_writes_5 : decode cX12_writes 5 = .ok (.aload_n 0, 1) := by decide +kernel
theorem dX12_writes_6 : decode cX12_writes 6 = .ok (.getfield 292, 3) := by decide +kernel
theorem dX12_writes_9 : decode cX12_writes 9 = .ok (.if_icmp .ne 7, 3) := by decide +kernel
theorem dX12_writes_12 : decode cX12_writes 12 = .ok (.iload_n 1, 1) := by decide +kernel
theorem dX12_writes_13 : decode cX12_writes 13 = .ok (.goto 7, 3) := by decide +kernel
theorem dX12_writes_16 : decode cX12_writes 16 = .ok (.aload_n 0, 1) := by decide +kernel
theorem dX12_writes_17 : decode cX12_writes 17 = .ok (.getfield 295, 3) := by decide +kernel
theorem dX12_writes_20 : decode cX12_writes 20 = .ok (.putfield 295, 3) := by decide +kernel
theorem dX12_writes_23 : decode cX12_writes 23 = .ok (.aload_n 0, 1) := by decide +kernel
theorem dX12_writes_24 : decode cX12_writes 24 = .ok (.dup, 1) := by decide +kernel
theorem dX12_writes_25 : decode cX12_writes 25 = .ok (.getfield 289, 3) := by decide +kernel
theorem dX12_writes_28 : decode cX12_writes 28 = .ok (.iconst 1, 1) := by decide +kernel
theorem dX12_writes_29 : decode cX12_writes 29 = .ok (.iadd, 1) := by decide +kernel
theorem dX12_writes_30 : decode cX12_writes 30 = .ok (.putfield 289, 3) := by decide +kernel
theorem dX12_writes_33 : decode cX12_writes 33 = .ok (.return_, 1) := by decide +kernel
set_option maxRecDepth 20000 in
theorem ggX12_writesNumber_X12_writes : GoodIn wsX12_writesNumber wsX12_writes := goodIn_r _ [5, 6, 7, 8, 9, 10, 11, 12, 13, 14, 15, 16, 17, 18, 19, 20, 21, 22, 23, 24, 25, 26, 27, 28, 29, 30, 31, 32, 33, 34, 35, 36, 37, 38, 39, 40, 41, 42, 43, 44, 45, 46, 47, 48, 49, 50, 51, 52, 53] (by decide +kernel) (by decide +kernel)
set_option maxRecDepth 20000 in
theorem gX12_writesNumber_X12_writes : GoodIn wsX12_writesNumber (wsV RX12 298 RX12 yX12_writes wsX12_writes) := goodIn_app (goodIn_of _ (by decide +kernel)) ggX12_writesNumber_X12_writes
theorem dX12_writesNumber_0 : decode cX12_writesNumber 0 = .ok (.iconst 1, 1) := by decide +kernel
theorem dX12_writesNumber_1 : decode cX12_writesNumber 1 = .ok (.istore_n 2, 1) := by decide +kernel
theorem dX12_writesNumber_2 : decode cX12_writesNumber 2 = .ok (.iload_n 1, 1) := by decide +kernel
theorem dX12_writesNumber_3 : decode cX12_writesNumber 3 = .ok (.iload_n 2, 1) := by decide +kernel
theorem dX12_writesNumber_4 : decode cX12_writesNumber 4 = .ok (.idiv, 1) := by decide +kernel
theorem dX12_writesNumber_5 : decode cX12_writesNumber 5 = .ok (.bipush 9, 2) := by decide +kernel
theorem dX12_writesNumber_7 : decode cX12_writesNumber 7 = .ok (.if_icmp .le 11, 3) := by decide +kernel
theorem dX12_writesNumber_10 : decode cX12_writesNumber 10 = .ok (.iload_n 2, 1) := by decide +kernel
theorem dX12_writesNumber_11 : decode cX12_writesNumber 11 = .ok (.bipush 10, 2) := by decide +kernel
theorem dX12_writesNumber_13 : decode cX12_writesNumber 13 = .ok (.imul, 1) := by decide +kernel
theorem dX12_writesNumber_14 : decode cX12_writesNumber 14 = .ok (.istore_n 2, 1) := by decide +kernel
theorem dX12_writesNumber_15 : decode cX12_writesNumber 15 = .ok (.goto (-13), 3) := by decide +kernel
theorem dX12_writesNumber_18 : decode cX12_writesNumber 18 = .ok (.iload_n 2, 1) := by decide +kernel
theorem dX12_writesNumber_19 : decode cX12_writesNumber 19 = .ok (.ifCond .le 24, 3) := by decide +kernel
theorem dX12_writesNumber_22 : decode cX12_writesNumber 22 = .ok (.aload_n 0, 1) := by decide +kernel
theorem dX12_writesNumber_23 : decode cX12_writesNumber 23 = .ok (.bipush 48, 2) := by decide +kernel
theorem dX12_writesNumber_25 : decode cX12_writesNumber 25 = .ok (.iload_n 1, 1) := by decide +kernel
theorem dX12_writesNumber_26 : decode cX12_writesNumber 26 = .ok (.iload_n 2, 1) := by decide +kernel
theorem dX12_writesNumber_27 : decode cX12_writesNumber 27 = .ok (.idiv, 1) := by decide +kernel
theorem dX12_writesNumber_28 : decode cX12_writesNumber 28 = .ok (.bipush 10, 2) := by decide +kernel
theorem dX12_writesNumber_30 : decode cX12_writesNumber 30 = .ok (.irem, 1) := by decide +kernel
theorem dX12_writesNumber_31 : decode cX12_writesNumber 31 = .ok (.iadd, 1) := by decide +kernel
theorem dX12_writesNumber_32 : decode cX12_writesNumber 32 = .ok (.invokevirtual 298, 3) := by decide +kernel
theorem dX12_writesNumber_35 : decode cX12_writesNumber 35 = .ok (.iload_n 2, 1) := by decide +kernel
theorem dX12_writesNumber_36 : decode cX12_writesNumber 36 = .ok (.bipush 10, 2) := by decide +kernel
theorem dX12_writesNumber_38 : decode cX12_writesNumber 38 = .ok (.idiv, 1) := by decide +kernel
theorem dX12_writesNumber_39 : decode cX12_writesNumber 39 = .ok (.istore_n 2, 1) := by decide +kernel
theorem dX12_writesNumber_40 : decode cX12_writesNumber 40 = .ok (.goto (-22), 3) := by decide +kernel
theorem dX12_writesNumber_43 : decode cX12_writesNumber 43 = .ok (.return_, 1) := by decide +kernel
set_option maxRecDepth 20000 in
theorem ggX12_writesTerm_X12_signed : GoodIn wsX12_writesTerm wsX12_signed := goodIn_r _ [10] (by decide +kernel) (by decide +kernel)
set_option maxRecDepth 20000 in
theorem gX12_writesTerm_X12_signed : GoodIn wsX12_writesTerm (va_wsS RX12 117 yX12_signed wsX12_signed) := goodIn_app (goodIn_of _ (by decide +kernel)) ggX12_writesTerm_X12_signed
set_option maxRecDepth 20000 in
theorem ggX12_writesTerm_X12_writes : GoodIn wsX12_writesTerm wsX12_writes := goodIn_r _ [14, 2, 15, 16, 21, 22, 23, 24, 25, 26, 27, 28, 29, 30, 31, 32, 33, 34, 35, 36, 37, 38, 39, 40, 41, 42, 43, 44, 45, 46, 47, 48, 49, 50, 51, 52, 53, 54, 55, 56, 57, 58, 59, 60, 61, 62, 63, 64, 65] (by decide +kernel) (by decide +kernel)
set_option maxRecDepth 20000 in
theorem gX12_writesTerm_X12_writes : GoodIn wsX12_writesTerm (wsV RX12 298 RX12 yX12_writes wsX12_writes) := goodIn_app (goodIn_of _ (by decide +kernel)) ggX12_writesTerm_X12_writes
set_option maxRecDepth 20000 in
theorem ggX12_writesTerm_X12_writesNumber : GoodIn wsX12_writesTerm wsX12_writesNumber := goodIn_r _ [20, 11, 12, 13, 9, 14, 2, 15, 16, 21, 22, 23, 24, 25, 26, 27, 28, 29, 30, 31, 32, 33, 34, 35, 36, 37, 38, 39, 40, 41, 42, 43, 44, 45, 46, 47, 48, 49, 50, 51, 52, 53, 54, 55, 56, 57, 58, 59, 60, 61, 62, 63, 64, 65] (by decide +kernel) (by decide +kernel)
set_option maxRecDepth 20000 in
theorem gX12_writesTerm_X12_writesNumber : GoodIn wsX12_writesTerm (wsV RX12 304 RX12 yX12_writesNumber wsX12_writesNumber) := goodIn_app (goodIn_of _ (by decide +kernel)) ggX12_writesTerm_X12_writesNumber
theorem dX12_writesTerm_0 : decode cX12_writesTerm 0 = .ok (.aload_n 0, 1) := by decide +kernel
theorem dX12_writesTerm_1 : decode cX12_writesTerm 1 = .ok (.getfield 9, 3) := by decide +kernel
theorem dX12_writesTerm_4 : decode cX12_writesTerm 4 = .ok (.iload_n 1, 1) := by decide +kernel
theorem dX12_writesTerm_5 : decode cX12_writesTerm 5 = .ok (.iaload, 1) := by decide +kernel
theorem dX12_writesTerm_6 : decode cX12_writesTerm 6 = .ok (.invokestatic 117, 3) := by decide +kernel
theorem dX12_writesTerm_9 : decode cX12_writesTerm 9 = .ok (.istore_n 2, 1) := by decide +kernel
theorem dX12_writesTerm_10 : decode cX12_writesTerm 10 = .ok (.iload_n 2, 1) := by decide +kernel
theorem dX12_writesTerm_11 : decode cX12_writesTerm 11 = .ok (.ifCond .lt 10, 3) := by decide +kernel
theorem dX12_writesTerm_14 : decode cX12_writesTerm 14 = .ok (.aload_n 0, 1) := by decide +kernel
theorem dX12_writesTerm_15 : decode cX12_writesTerm 15 = .ok (.getfield 289, 3) := by decide +kernel
theorem dX12_writesTerm_18 : decode cX12_writesTerm 18 = .ok (.ifCond .le 18, 3) := by decide +kernel
theorem dX12_writesTerm_21 : decode cX12_writesTerm 21 = .ok (.aload_n 0, 1) := by decide +kernel
theorem dX12_writesTerm_22 : decode cX12_writesTerm 22 = .ok (.iload_n 2, 1) := by decide +kernel
theorem dX12_writesTerm_23 : decode cX12_writesTerm 23 = .ok (.ifCond .ge 8, 3) := by decide +kernel
theorem dX12_writesTerm_26 : decode cX12_writesTerm 26 = .ok (.bipush 45, 2) := by decide +kernel
theorem dX12_writesTerm_28 : decode cX12_writesTerm 28 = .ok (.goto 5, 3) := by decide +kernel
theorem dX12_writesTerm_31 : decode cX12_writesTerm 31 = .ok (.bipush 43, 2) := by decide +kernel
theorem dX12_writesTerm_33 : decode cX12_writesTerm 33 = .ok (.invokevirtual 298, 3) := by decide +kernel
theorem dX12_writesTerm_36 : decode cX12_writesTerm 36 = .ok (.iload_n 1, 1) := by decide +kernel
theorem dX12_writesTerm_37 : decode cX12_writesTerm 37 = .ok (.ifCond .eq 11, 3) := by decide +kernel
theorem dX12_writesTerm_40 : decode cX12_writesTerm 40 = .ok (.iload_n 2, 1) := by decide +kernel
theorem dX12_writesTerm_41 : decode cX12_writesTerm 41 = .ok (.invokestatic 301, 3) := by decide +kernel
theorem dX12_writesTerm_44 : decode cX12_writesTerm 44 = .ok (.iconst 1, 1) := by decide +kernel
theorem dX12_writesTerm_45 : decode cX12_writesTerm 45 = .ok (.if_icmp .le 11, 3) := by decide +kernel
theorem dX12_writesTerm_48 : decode cX12_writesTerm 48 = .ok (.aload_n 0, 1) := by decide +kernel
theorem dX12_writesTerm_49 : decode cX12_writesTerm 49 = .ok (.iload_n 2, 1) := by decide +kernel
theorem dX12_writesTerm_50 : decode cX12_writesTerm 50 = .ok (.invokestatic 301, 3) := by decide +kernel
theorem dX12_writesTerm_53 : decode cX12_writesTerm 53 = .ok (.invokevirtual 304, 3) := by decide +kernel
theorem dX12_writesTerm_56 : decode cX12_writesTerm 56 = .ok (.iload_n 1, 1) := by decide +kernel
theorem dX12_writesTerm_57 : decode cX12_writesTerm 57 = .ok (.ifCond .le 9, 3) := by decide +kernel
theorem dX12_writesTerm_60 : decode cX12_writesTerm 60 = .ok (.aload_n 0, 1) := by decide +kernel
theorem dX12_writesTerm_61 : decode cX12_writesTerm 61 = .ok (.bipush 120, 2) := by decide +kernel
theorem dX12_writesTerm_63 : decode cX12_writesTerm 63 = .ok (.invokevirtual 298, 3) := by decide +kernel
theorem dX12_writesTerm_66 : decode cX12_writesTerm 66 = .ok (.iload_n 1, 1) := by decide +kernel
theorem dX12_writesTerm_67 : decode cX12_writesTerm 67 = .ok (.iconst 1, 1) := by decide +kernel
theorem dX12_writesTerm_68 : decode cX12_writesTerm 68 = .ok (.if_icmp .le 17, 3) := by decide +kernel
theorem dX12_writesTerm_71 : decode cX12_writesTerm 71 = .ok (.aload_n 0, 1) := by decide +kernel
theorem dX12_writesTerm_72 : decode cX12_writesTerm 72 = .ok (.bipush 94, 2) := by decide +kernel
theorem dX12_writesTerm_74 : decode cX12_writesTerm 74 = .ok (.invokevirtual 298, 3) := by decide +kernel
theorem dX12_writesTerm_77 : decode cX12_writesTerm 77 = .ok (.aload_n 0, 1) := by decide +kernel
theorem dX12_writesTerm_78 : decode cX12_writesTerm 78 = .ok (.bipush 48, 2) := by decide +kernel
theorem dX12_writesTerm_80 : decode cX12_writesTerm 80 = .ok (.iload_n 1, 1) := by decide +kernel
theorem dX12_writesTerm_81 : decode cX12_writesTerm 81 = .ok (.iadd, 1) := by decide +kernel
theorem dX12_writesTerm_82 : decode cX12_writesTerm 82 = .ok (.invokevirtual 298, 3) := by decide +kernel
theorem dX12_writesTerm_85 : decode cX12_writesTerm 85 = .ok (.return_, 1) := by decide +kernel
set_option maxRecDepth 20000 in
theorem ggX12_written_X12_writesTerm : GoodIn wsX12_written wsX12_writesTerm := goodIn_r _ [9, 4, 1, 10, 11, 12, 13, 14, 15, 8, 16, 17, 18, 19, 20, 2, 3, 21, 22, 23, 24, 25, 26, 27, 28, 29, 30, 31, 32, 33, 34, 35, 36, 37, 38, 39, 40, 41, 42, 43, 44, 45, 46, 47, 48, 49, 50, 51, 52, 53, 54, 55, 56, 57, 58, 59, 60, 61, 62, 63, 64, 65, 66, 67, 68, 69] (by decide +kernel) (by decide +kernel)
set_option maxRecDepth 20000 in
theorem gX12_written_X12_writesTerm : GoodIn wsX12_written (wsV RX12 307 RX12 yX12_writesTerm wsX12_writesTerm) := goodIn_app (goodIn_of _ (by decide +kernel)) ggX12_written_X12_writesTerm
set_option maxRecDepth 20000 in
theorem ggX12_written_X12_writes : GoodIn wsX12_written wsX12_writes := goodIn_r _ [20, 1, 2, 3, 25, 26, 27, 28, 29, 30, 31, 32, 33, 34, 35, 36, 37, 38, 39, 40, 41, 42, 43, 44, 45, 46, 47, 48, 49, 50, 51, 52, 53, 54, 55, 56, 57, 58, 59, 60, 61, 62, 63, 64, 65, 66, 67, 68, 69] (by decide +kernel) (by decide +kernel)
set_option maxRecDepth 20000 in
theorem gX12_written_X12_writes : GoodIn wsX12_written (wsV RX12 298 RX12 yX12_writes wsX12_writes) := goodIn_app (goodIn_of _ (by decide +kernel)) ggX12_written_X12_writes
theorem dX12_written_0 : decode cX12_written 0 = .ok (.iload_n 1, 1) := by decide +kernel
theorem dX12_written_1 : decode cX12_written 1 = .ok (.iconst (-1), 1) := by decide +kernel
theorem dX12_written_2 : decode cX12_written 2 = .ok (.if_icmp .ge 5, 3) := by decide +kernel
theorem dX12_written_5 : decode cX12_written 5 = .ok (.iconst (-1), 1) := by decide +kernel
theorem dX12_written_6 : decode cX12_written 6 = .ok (.ireturn, 1) := by decide +kernel
theorem dX12_written_7 : decode cX12_written 7 = .ok (.aload_n 0, 1) := by decide +kernel
theorem dX12_written_8 : decode cX12_written 8 = .ok (.iconst 0, 1) := by decide +kernel
theorem dX12_written_9 : decode cX12_written 9 = .ok (.putfield 289, 3) := by decide +kernel
theorem dX12_written_12 : decode cX12_written 12 = .ok (.aload_n 0, 1) := by decide +kernel
theorem dX12_written_13 : decode cX12_written 13 = .ok (.iload_n 1, 1) := by decide +kernel
theorem dX12_written_14 : decode cX12_written 14 = .ok (.putfield 292, 3) := by decide +kernel
theorem dX12_written_17 : decode cX12_written 17 = .ok (.aload_n 0, 1) := by decide +kernel
theorem dX12_written_18 : decode cX12_written 18 = .ok (.iconst (-1), 1) := by decide +kernel
theorem dX12_written_19 : decode cX12_written 19 = .ok (.putfield 295, 3) := by decide +kernel
theorem dX12_written_22 : decode cX12_written 22 = .ok (.iconst 4, 1) := by decide +kernel
theorem dX12_written_23 : decode cX12_written 23 = .ok (.istore_n 2, 1) := by decide +kernel
theorem dX12_written_24 : decode cX12_written 24 = .ok (.iload_n 2, 1) := by decide +kernel
theorem dX12_written_25 : decode cX12_written 25 = .ok (.ifCond .lt 23, 3) := by decide +kernel
theorem dX12_written_28 : decode cX12_written 28 = .ok (.aload_n 0, 1) := by decide +kernel
theorem dX12_written_29 : decode cX12_written 29 = .ok (.getfield 9, 3) := by decide +kernel
theorem dX12_written_32 : decode cX12_written 32 = .ok (.iload_n 2, 1) := by decide +kernel
theorem dX12_written_33 : decode cX12_written 33 = .ok (.iaload, 1) := by decide +kernel
theorem dX12_written_34 : decode cX12_written 34 = .ok (.ifCond .eq 8, 3) := by decide +kernel
theorem dX12_written_37 : decode cX12_written 37 = .ok (.aload_n 0, 1) := by decide +kernel
theorem dX12_written_38 : decode cX12_written 38 = .ok (.iload_n 2, 1) := by decide +kernel
theorem dX12_written_39 : decode cX12_written 39 = .ok (.invokevirtual 307, 3) := by decide +kernel
theorem dX12_written_42 : decode cX12_written 42 = .ok (.iinc 2 (-1), 3) := by decide +kernel
theorem dX12_written_45 : decode cX12_written 45 = .ok (.goto (-21), 3) := by decide +kernel
theorem dX12_written_48 : decode cX12_written 48 = .ok (.aload_n 0, 1) := by decide +kernel
theorem dX12_written_49 : decode cX12_written 49 = .ok (.getfield 289, 3) := by decide +kernel
theorem dX12_written_52 : decode cX12_written 52 = .ok (.ifCond .ne 9, 3) := by decide +kernel
theorem dX12_written_55 : decode cX12_written 55 = .ok (.aload_n 0, 1) := by decide +kernel
theorem dX12_written_56 : decode cX12_written 56 = .ok (.bipush 48, 2) := by decide +kernel
theorem dX12_written_58 : decode cX12_written 58 = .ok (.invokevirtual 298, 3) := by decide +kernel
theorem dX12_written_61 : decode cX12_written 61 = .ok (.iload_n 1, 1) := by decide +kernel
theorem dX12_written_62 : decode cX12_written 62 = .ok (.iconst (-1), 1) := by decide +kernel
theorem dX12_written_63 : decode cX12_written 63 = .ok (.if_icmp .ne 10, 3) := by decide +kernel
theorem dX12_written_66 : decode cX12_written 66 = .ok (.aload_n 0, 1) := by decide +kernel
theorem dX12_written_67 : decode cX12_written 67 = .ok (.getfield 289, 3) := by decide +kernel
theorem dX12_written_70 : decode cX12_written 70 = .ok (.goto 7, 3) := by decide +kernel
theorem dX12_written_73 : decode cX12_written 73 = .ok (.aload_n 0, 1) := by decide +kernel
theorem dX12_written_74 : decode cX12_written 74 = .ok (.getfield 295, 3) := by decide +kernel
theorem dX12_written_77 : decode cX12_written 77 = .ok (.ireturn, 1) := by decide +kernel
set_option maxRecDepth 20000 in
theorem ggX12_isList_X12_isIn : GoodIn wsX12_isList wsX12_isIn := goodIn_r _ [4] (by decide +kernel) (by decide +kernel)
set_option maxRecDepth 20000 in
theorem gX12_isList_X12_isIn : GoodIn wsX12_isList (va_wsS RX12 121 yX12_isIn wsX12_isIn) := goodIn_app (goodIn_of _ (by decide +kernel)) ggX12_isList_X12_isIn
theorem dX12_isList_0 : decode cX12_isList 0 = .ok (.iload_n 0, 1) := by decide +kernel
theorem dX12_isList_1 : decode cX12_isList 1 = .ok (.iconst 0, 1) := by decide +kernel
theorem dX12_isList_2 : decode cX12_isList 2 = .ok (.iconst 2, 1) := by decide +kernel
theorem dX12_isList_3 : decode cX12_isList 3 = .ok (.invokestatic 121, 3) := by decide +kernel
theorem dX12_isList_6 : decode cX12_isList 6 = .ok (.ireturn, 1) := by decide +kernel
set_option maxRecDepth 20000 in
theorem ggX12_list_X12_isList : GoodIn wsX12_list wsX12_isList := goodIn_r _ [6, 7, 8, 5, 9] (by decide +kernel) (by decide +kernel)
set_option maxRecDepth 20000 in
theorem gX12_list_X12_isList : GoodIn wsX12_list (va_wsS RX12 310 yX12_isList wsX12_isList) := goodIn_app (goodIn_of _ (by decide +kernel)) ggX12_list_X12_isList
theorem dX12_list_0 : decode cX12_list 0 = .ok (.iload_n 1, 1) := by decide +kernel
theorem dX12_list_1 : decode cX12_list 1 = .ok (.invokestatic 310, 3) := by decide +kernel
theorem dX12_list_4 : decode cX12_list 4 = .ok (.ifCond .ne 5, 3) := by decide +kernel
theorem dX12_list_7 : decode cX12_list 7 = .ok (.iconst (-1), 1) := by decide +kernel
theorem dX12_list_8 : decode cX12_list 8 = .ok (.ireturn, 1) := by decide +kernel
theorem dX12_list_9 : decode cX12_list 9 = .ok (.iload_n 2, 1) := by decide +kernel
theorem dX12_list_10 : decode cX12_list 10 = .ok (.bipush 12, 2) := by decide +kernel
theorem dX12_list_12 : decode cX12_list 12 = .ok (.if_icmp .le 6, 3) := by decide +kernel
theorem dX12_list_15 : decode cX12_list 15 = .ok (.bipush (-2), 2) := by decide +kernel
theorem dX12_list_17 : decode cX12_list 17 = .ok (.ireturn, 1) := by decide +kernel
theorem dX12_list_18 : decode cX12_list 18 = .ok (.iload_n 2, 1) := by decide +kernel
theorem dX12_list_19 : decode cX12_list 19 = .ok (.iconst (-1), 1) := by decide +kernel
theorem dX12_list_20 : decode cX12_list 20 = .ok (.if_icmp .ge 6, 3) := by decide +kernel
theorem dX12_list_23 : decode cX12_list 23 = .ok (.bipush (-14), 2) := by decide +kernel
theorem dX12_list_25 : decode cX12_list 25 = .ok (.ireturn, 1) := by decide +kernel
theorem dX12_list_26 : decode cX12_list 26 = .ok (.aload_n 0, 1) := by decide +kernel
theorem dX12_list_27 : decode cX12_list 27 = .ok (.getfield 85, 3) := by decide +kernel
theorem dX12_list_30 : decode cX12_list 30 = .ok (.iload_n 1, 1) := by decide +kernel
theorem dX12_list_31 : decode cX12_list 31 = .ok (.iload_n 2, 1) := by decide +kernel
theorem dX12_list_32 : decode cX12_list 32 = .ok (.iastore, 1) := by decide +kernel
theorem dX12_list_33 : decode cX12_list 33 = .ok (.iconst 0, 1) := by decide +kernel
theorem dX12_list_34 : decode cX12_list 34 = .ok (.istore_n 3, 1) := by decide +kernel
theorem dX12_list_35 : decode cX12_list 35 = .ok (.iload_n 3, 1) := by decide +kernel
theorem dX12_list_36 : decode cX12_list 36 = .ok (.bipush 12, 2) := by decide +kernel
theorem dX12_list_38 : decode cX12_list 38 = .ok (.if_icmp .ge 21, 3) := by decide +kernel
theorem dX12_list_41 : decode cX12_list 41 = .ok (.aload_n 0, 1) := by decide +kernel
theorem dX12_list_42 : decode cX12_list 42 = .ok (.getfield 88, 3) := by decide +kernel
theorem dX12_list_45 : decode cX12_list 45 = .ok (.bipush 12, 2) := by decide +kernel
theorem dX12_list_47 : decode cX12_list 47 = .ok (.iload_n 1, 1) := by decide +kernel
theorem dX12_list_48 : decode cX12_list 48 = .ok (.imul, 1) := by decide +kernel
theorem dX12_list_49 : decode cX12_list 49 = .ok (.iload_n 3, 1) := by decide +kernel
theorem dX12_list_50 : decode cX12_list 50 = .ok (.iadd, 1) := by decide +kernel
theorem dX12_list_51 : decode cX12_list 51 = .ok (.lconst 0, 1) := by decide +kernel
theorem dX12_list_52 : decode cX12_list 52 = .ok (.lastore, 1) := by decide +kernel
theorem dX12_list_53 : decode cX12_list 53 = .ok (.iinc 3 1, 3) := by decide +kernel
theorem dX12_list_56 : decode cX12_list 56 = .ok (.goto (-21), 3) := by decide +kernel
theorem dX12_list_59 : decode cX12_list 59 = .ok (.iconst 1, 1) := by decide +kernel
theorem dX12_list_60 : decode cX12_list 60 = .ok (.ireturn, 1) := by decide +kernel
set_option maxRecDepth 20000 in
theorem ggX12_lay_X12_isList : GoodIn wsX12_lay wsX12_isList := goodIn_r _ [6, 7, 8, 5, 9] (by decide +kernel) (by decide +kernel)
set_option maxRecDepth 20000 in
theorem gX12_lay_X12_isList : GoodIn wsX12_lay (va_wsS RX12 310 yX12_isList wsX12_isList) := goodIn_app (goodIn_of _ (by decide +kernel)) ggX12_lay_X12_isList
set_option maxRecDepth 20000 in
theorem ggX12_lay_X12_isIn : GoodIn wsX12_lay wsX12_isIn := goodIn_r _ [9] (by decide +kernel) (by decide +kernel)
set_option maxRecDepth 20000 in
theorem gX12_lay_X12_isIn : GoodIn wsX12_lay (va_wsS RX12 121 yX12_isIn wsX12_isIn) := goodIn_app (goodIn_of _ (by decide +kernel)) ggX12_lay_X12_isIn
theorem dX12_lay_0 : decode cX12_lay 0 = .ok (.iload_n 1, 1) := by decide +kernel
theorem dX12_lay_1 : decode cX12_lay 1 = .ok (.invokestatic 310, 3) := by decide +kernel
theorem dX12_lay_4 : decode cX12_lay 4 = .ok (.ifCond .ne 5, 3) := by decide +kernel
theorem dX12_lay_7 : decode cX12_lay 7 = .ok (.iconst (-1), 1) := by decide +kernel
theorem dX12_lay_8 : decode cX12_lay 8 = .ok (.ireturn, 1) := by decide +kernel
theorem dX12_lay_9 : decode cX12_lay 9 = .ok (.aload_n 0, 1) := by decide +kernel
theorem dX12_lay_10 : decode cX12_lay 10 = .ok (.getfield 85, 3) := by decide +kernel
theorem dX12_lay_13 : decode cX12_lay 13 = .ok (.iload_n 1, 1) := by decide +kernel
theorem dX12_lay_14 : decode cX12_lay 14 = .ok (.iaload, 1) := by decide +kernel
theorem dX12_lay_15 : decode cX12_lay 15 = .ok (.ifCond .ge 6, 3) := by decide +kernel
theorem dX12_lay_18 : decode cX12_lay 18 = .ok (.bipush (-11), 2) := by decide +kernel
theorem dX12_lay_20 : decode cX12_lay 20 = .ok (.ireturn, 1) := by decide +kernel
theorem dX12_lay_21 : decode cX12_lay 21 = .ok (.iload_n 2, 1) := by decide +kernel
theorem dX12_lay_22 : decode cX12_lay 22 = .ok (.iconst 0, 1) := by decide +kernel
theorem dX12_lay_23 : decode cX12_lay 23 = .ok (.aload_n 0, 1) := by decide +kernel
theorem dX12_lay_24 : decode cX12_lay 24 = .ok (.getfield 85, 3) := by decide +kernel
theorem dX12_lay_27 : decode cX12_lay 27 = .ok (.iload_n 1, 1) := by decide +kernel
theorem dX12_lay_28 : decode cX12_lay 28 = .ok (.iaload, 1) := by decide +kernel
theorem dX12_lay_29 : decode cX12_lay 29 = .ok (.iconst 1, 1) := by decide +kernel
theorem dX12_lay_30 : decode cX12_lay 30 = .ok (.isub, 1) := by decide +kernel
theorem dX12_lay_31 : decode cX12_lay 31 = .ok (.invokestatic 121, 3) := by decide +kernel
theorem dX12_lay_34 : decode cX12_lay 34 = .ok (.ifCond .ne 6, 3) := by decide +kernel
theorem dX12_lay_37 : decode cX12_lay 37 = .ok (.bipush (-13), 2) := by decide +kernel
theorem dX12_lay_39 : decode cX12_lay 39 = .ok (.ireturn, 1) := by decide +kernel
theorem dX12_lay_40 : decode cX12_lay 40 = .ok (.aload_n 0, 1) := by decide +kernel
theorem dX12_lay_41 : decode cX12_lay 41 = .ok (.getfield 88, 3) := by decide +kernel
theorem dX12_lay_44 : decode cX12_lay 44 = .ok (.bipush 12, 2) := by decide +kernel
theorem dX12_lay_46 : decode cX12_lay 46 = .ok (.iload_n 1, 1) := by decide +kernel
theorem dX12_lay_47 : decode cX12_lay 47 = .ok (.imul, 1) := by decide +kernel
theorem dX12_lay_48 : decode cX12_lay 48 = .ok (.iload_n 2, 1) := by decide +kernel
theorem dX12_lay_49 : decode cX12_lay 49 = .ok (.iadd, 1) := by decide +kernel
theorem dX12_lay_50 : decode cX12_lay 50 = .ok (.lload_n 3, 1) := by decide +kernel
theorem dX12_lay_51 : decode cX12_lay 51 = .ok (.lastore, 1) := by decide +kernel
theorem dX12_lay_52 : decode cX12_lay 52 = .ok (.iconst 1, 1) := by decide +kernel
theorem dX12_lay_53 : decode cX12_lay 53 = .ok (.ireturn, 1) := by decide +kernel
set_option maxRecDepth 20000 in
theorem ggX12_look_X12_isList : GoodIn wsX12_look wsX12_isList := goodIn_r _ [7, 8, 9, 6, 10] (by decide +kernel) (by decide +kernel)
set_option maxRecDepth 20000 in
theorem gX12_look_X12_isList : GoodIn wsX12_look (va_wsS RX12 310 yX12_isList wsX12_isList) := goodIn_app (goodIn_of _ (by decide +kernel)) ggX12_look_X12_isList
set_option maxRecDepth 20000 in
theorem ggX12_look_X12_isIn : GoodIn wsX12_look wsX12_isIn := goodIn_r _ [10] (by decide +kernel) (by decide +kernel)
set_option maxRecDepth 20000 in
theorem gX12_look_X12_isIn : GoodIn wsX12_look (va_wsS RX12 121 yX12_isIn wsX12_isIn) := goodIn_app (goodIn_of _ (by decide +kernel)) ggX12_look_X12_isIn
theorem dX12_look_0 : decode cX12_look 0 = .ok (.iload_n 1, 1) := by decide +kernel
theorem dX12_look_1 : decode cX12_look 1 = .ok (.invokestatic 310, 3) := by decide +kernel
theorem dX12_look_4 : decode cX12_look 4 = .ok (.ifCond .eq 33, 3) := by decide +kernel
theorem dX12_look_7 : decode cX12_look 7 = .ok (.iload_n 2, 1) := by decide +kernel
theorem dX12_look_8 : decode cX12_look 8 = .ok (.iconst 0, 1) := by decide +kernel
theorem dX12_look_9 : decode cX12_look 9 = .ok (.aload_n 0, 1) := by decide +kernel
theorem dX12_look_10 : decode cX12_look 10 = .ok (.getfield 85, 3) := by decide +kernel
theorem dX12_look_13 : decode cX12_look 13 = .ok (.iload_n 1, 1) := by decide +kernel
theorem dX12_look_14 : decode cX12_look 14 = .ok (.iaload, 1) := by decide +kernel
theorem dX12_look_15 : decode cX12_look 15 = .ok (.iconst 1, 1) := by decide +kernel
theorem dX12_look_16 : decode cX12_look 16 = .ok (.isub, 1) := by decide +kernel
theorem dX12_look_17 : decode cX12_look 17 = .ok (.invokestatic 121, 3) := by decide +kernel
theorem dX12_look_20 : decode cX12_look 20 = .ok (.ifCond .eq 17, 3) := by decide +kernel
theorem dX12_look_23 : decode cX12_look 23 = .ok (.aload_n 0, 1) := by decide +kernel
theorem dX12_look_24 : decode cX12_look 24 = .ok (.getfield 88, 3) := by decide +kernel
theorem dX12_look_27 : decode cX12_look 27 = .ok (.bipush 12, 2) := by decide +kernel
theorem dX12_look_29 : decode cX12_look 29 = .ok (.iload_n 1, 1) := by decide +kernel
theorem dX12_look_30 : decode cX12_look 30 = .ok (.imul, 1) := by decide +kernel
theorem dX12_look_31 : decode cX12_look 31 = .ok (.iload_n 2, 1) := by decide +kernel
theorem dX12_look_32 : decode cX12_look 32 = .ok (.iadd, 1) := by decide +kernel
theorem dX12_look_33 : decode cX12_look 33 = .ok (.laload, 1) := by decide +kernel
theorem dX12_look_34 : decode cX12_look 34 = .ok (.goto 6, 3) := by decide +kernel
theorem dX12_look_37 : decode cX12_look 37 = .ok (.ldc2_w 268, 3) := by decide +kernel
theorem dX12_look_40 : decode cX12_look 40 = .ok (.lreturn, 1) := by decide +kernel
set_option maxRecDepth 20000 in
theorem ggX12_judge_X12_isList : GoodIn wsX12_judge wsX12_isList := goodIn_r _ [9, 10, 11, 8, 12] (by decide +kernel) (by decide +kernel)
set_option maxRecDepth 20000 in
theorem gX12_judge_X12_isList : GoodIn wsX12_judge (va_wsS RX12 310 yX12_isList wsX12_isList) := goodIn_app (goodIn_of _ (by decide +kernel)) ggX12_judge_X12_isList
set_option maxRecDepth 20000 in
theorem ggX12_judge_X12_signed : GoodIn wsX12_judge wsX12_signed := goodIn_r _ [15] (by decide +kernel) (by decide +kernel)
set_option maxRecDepth 20000 in
theorem gX12_judge_X12_signed : GoodIn wsX12_judge (va_wsS RX12 117 yX12_signed wsX12_signed) := goodIn_app (goodIn_of _ (by decide +kernel)) ggX12_judge_X12_signed
theorem dX12_judge_0 : decode cX12_judge 0 = .ok (.iload_n 1, 1) := by decide +kernel
theorem dX12_judge_1 : decode cX12_judge 1 = .ok (.invokestatic 310, 3) := by decide +kernel
theorem dX12_judge_4 : decode cX12_judge 4 = .ok (.ifCond .ne 5, 3) := by decide +kernel
theorem dX12_judge_7 : decode cX12_judge 7 = .ok (.iconst (-1), 1) := by decide +kernel
theorem dX12_judge_8 : decode cX12_judge 8 = .ok (.ireturn, 1) := by decide +kernel
theorem dX12_judge_9 : decode cX12_judge 9 = .ok (.aload_n 0, 1) := by decide +kernel
theorem dX12_judge_10 : decode cX12_judge 10 = .ok (.getfield 85, 3) := by decide +kernel
theorem dX12_judge_13 : decode cX12_judge 13 = .ok (.iload_n 1, 1) := by decide +kernel
theorem dX12_judge_14 : decode cX12_judge 14 = .ok (.iaload, 1) := by decide +kernel
theorem dX12_judge_15 : decode cX12_judge 15 = .ok (.ifCond .ge 6, 3) := by decide +kernel
theorem dX12_judge_18 : decode cX12_judge 18 = .ok (.bipush (-11), 2) := by decide +kernel
theorem dX12_judge_20 : decode cX12_judge 20 = .ok (.ireturn, 1) := by decide +kernel
theorem dX12_judge_21 : decode cX12_judge 21 = .ok (.aload_n 0, 1) := by decide +kernel
theorem dX12_judge_22 : decode cX12_judge 22 = .ok (.getfield 183, 3) := by decide +kernel
theorem dX12_judge_25 : decode cX12_judge 25 = .ok (.ifCond .ne 6, 3) := by decide +kernel
theorem dX12_judge_28 : decode cX12_judge 28 = .ok (.bipush (-3), 2) := by decide +kernel
theorem dX12_judge_30 : decode cX12_judge 30 = .ok (.ireturn, 1) := by decide +kernel
theorem dX12_judge_31 : decode cX12_judge 31 = .ok (.iconst 0, 1) := by decide +kernel
theorem dX12_judge_32 : decode cX12_judge 32 = .ok (.istore_n 2, 1) := by decide +kernel
theorem dX12_judge_33 : decode cX12_judge 33 = .ok (.iload_n 2, 1) := by decide +kernel
theorem dX12_judge_34 : decode cX12_judge 34 = .ok (.aload_n 0, 1) := by decide +kernel
theorem dX12_judge_35 : decode cX12_judge 35 = .ok (.getfield 85, 3) := by decide +kernel
theorem dX12_judge_38 : decode cX12_judge 38 = .ok (.iload_n 1, 1) := by decide +kernel
theorem dX12_judge_39 : decode cX12_judge 39 = .ok (.iaload, 1) := by decide +kernel
theorem dX12_judge_40 : decode cX12_judge 40 = .ok (.if_icmp .ge 44, 3) := by decide +kernel
theorem dX12_judge_43 : decode cX12_judge 43 = .ok (.iload_n 2, 1) := by decide +kernel
theorem dX12_judge_44 : decode cX12_judge 44 = .ok (.aload_n 0, 1) := by decide +kernel
theorem dX12_judge_45 : decode cX12_judge 45 = .ok (.getfield 187, 3) := by decide +kernel
theorem dX12_judge_48 : decode cX12_judge 48 = .ok (.if_icmp .gt 28, 3) := by decide +kernel
theorem dX12_judge_51 : decode cX12_judge 51 = .ok (.aload_n 0, 1) := by decide +kernel
theorem dX12_judge_52 : decode cX12_judge 52 = .ok (.getfield 88, 3) := by decide +kernel
theorem dX12_judge_55 : decode cX12_judge 55 = .ok (.bipush 12, 2) := by decide +kernel
theorem dX12_judge_57 : decode cX12_judge 57 = .ok (.iload_n 1, 1) := by decide +kernel
theorem dX12_judge_58 : decode cX12_judge 58 = .ok (.imul, 1) := by decide +kernel
theorem dX12_judge_59 : decode cX12_judge 59 = .ok (.iload_n 2, 1) := by decide +kernel
theorem dX12_judge_60 : decode cX12_judge 60 = .ok (.iadd, 1) := by decide +kernel
theorem dX12_judge_61 : decode cX12_judge 61 = .ok (.laload, 1) := by decide +kernel
theorem dX12_judge_62 : decode cX12_judge 62 = .ok (.aload_n 0, 1) := by decide +kernel
theorem dX12_judge_63 : decode cX12_judge 63 = .ok (.getfield 21, 3) := by decide +kernel
theorem dX12_judge_66 : decode cX12_judge 66 = .ok (.iload_n 2, 1) := by decide +kernel
theorem dX12_judge_67 : decode cX12_judge 67 = .ok (.iaload, 1) := by decide +kernel
theorem dX12_judge_68 : decode cX12_judge 68 = .ok (.invokestatic 117, 3) := by decide +kernel
theorem dX12_judge_71 : decode cX12_judge 71 = .ok (.i2l, 1) := by decide +kernel
theorem dX12_judge_72 : decode cX12_judge 72 = .ok (.lcmp, 1) := by decide +kernel
theorem dX12_judge_73 : decode cX12_judge 73 = .ok (.ifCond .eq 5, 3) := by decide +kernel
theorem dX12_judge_76 : decode cX12_judge 76 = .ok (.iload_n 2, 1) := by decide +kernel
theorem dX12_judge_77 : decode cX12_judge 77 = .ok (.ireturn, 1) := by decide +kernel
theorem dX12_judge_78 : decode cX12_judge 78 = .ok (.iinc 2 1, 3) := by decide +kernel
theorem dX12_judge_81 : decode cX12_judge 81 = .ok (.goto (-48), 3) := by decide +kernel
theorem dX12_judge_84 : decode cX12_judge 84 = .ok (.aload_n 0, 1) := by decide +kernel
theorem dX12_judge_85 : decode cX12_judge 85 = .ok (.getfield 85, 3) := by decide +kernel
theorem dX12_judge_88 : decode cX12_judge 88 = .ok (.iload_n 1, 1) := by decide +kernel
theorem dX12_judge_89 : decode cX12_judge 89 = .ok (.iaload, 1) := by decide +kernel
theorem dX12_judge_90 : decode cX12_judge 90 = .ok (.aload_n 0, 1) := by decide +kernel
theorem dX12_judge_91 : decode cX12_judge 91 = .ok (.getfield 187, 3) := by decide +kernel
theorem dX12_judge_94 : decode cX12_judge 94 = .ok (.if_icmp .gt 15, 3) := by decide +kernel
theorem dX12_judge_97 : decode cX12_judge 97 = .ok (.bipush 100, 2) := by decide +kernel
theorem dX12_judge_99 : decode cX12_judge 99 = .ok (.aload_n 0, 1) := by decide +kernel
theorem dX12_judge_100 : decode cX12_judge 100 = .ok (.getfield 85, 3) := by decide +kernel
theorem dX12_judge_103 : decode cX12_judge 103 = .ok (.iload_n 1, 1) := by decide +kernel
theorem dX12_judge_104 : decode cX12_judge 104 = .ok (.iaload, 1) := by decide +kernel
theorem dX12_judge_105 : decode cX12_judge 105 = .ok (.iadd, 1) := by decide +kernel
theorem dX12_judge_106 : decode cX12_judge 106 = .ok (.goto 5, 3) := by decide +kernel
theorem dX12_judge_109 : decode cX12_judge 109 = .ok (.bipush (-5), 2) := by decide +kernel
theorem dX12_judge_111 : decode cX12_judge 111 = .ok (.ireturn, 1) := by decide +kernel
set_option maxRecDepth 20000 in
theorem ggX12_image_X12_degreeOf : GoodIn wsX12_image wsX12_degreeOf := goodIn_r _ [24, 3, 25, 26, 27, 28, 29, 30, 31, 32, 33, 34, 35, 36, 37, 38, 39, 40, 41, 42, 43, 44, 45, 46, 47, 48, 49, 50, 51, 52, 53, 54, 55, 56, 57, 58, 59, 60, 61, 62, 63, 64, 65, 66, 67, 68, 69] (by decide +kernel) (by decide +kernel)
set_option maxRecDepth 20000 in
theorem gX12_image_X12_degreeOf : GoodIn wsX12_image (wsV RX12 131 RX12 yX12_degreeOf wsX12_degreeOf) := goodIn_app (goodIn_of _ (by decide +kernel)) ggX12_image_X12_degreeOf
theorem dX12_image_0 : decode cX12_image 0 = .ok (.aload_n 0, 1) := by decide +kernel
theorem dX12_image_1 : decode cX12_image 1 = .ok (.iconst 1, 1) := by decide +kernel
theorem dX12_image_2 : decode cX12_image 2 = .ok (.putfield 313, 3) := by decide +kernel
theorem dX12_image_5 : decode cX12_image 5 = .ok (.iconst 0, 1) := by decide +kernel
theorem dX12_image_6 : decode cX12_image 6 = .ok (.istore_n 1, 1) := by decide +kernel
theorem dX12_image_7 : decode cX12_image 7 = .ok (.iload_n 1, 1) := by decide +kernel
theorem dX12_image_8 : decode cX12_image 8 = .ok (.iconst 5, 1) := by decide +kernel
theorem dX12_image_9 : decode cX12_image 9 = .ok (.if_icmp .ge 21, 3) := by decide +kernel
theorem dX12_image_12 : decode cX12_image 12 = .ok (.aload_n 0, 1) := by decide +kernel
theorem dX12_image_13 : decode cX12_image 13 = .ok (.getfield 92, 3) := by decide +kernel
theorem dX12_image_16 : decode cX12_image 16 = .ok (.iload_n 1, 1) := by decide +kernel
theorem dX12_image_17 : decode cX12_image 17 = .ok (.aload_n 0, 1) := by decide +kernel
theorem dX12_image_18 : decode cX12_image 18 = .ok (.getfield 9, 3) := by decide +kernel
theorem dX12_image_21 : decode cX12_image 21 = .ok (.iload_n 1, 1) := by decide +kernel
theorem dX12_image_22 : decode cX12_image 22 = .ok (.iaload, 1) := by decide +kernel
theorem dX12_image_23 : decode cX12_image 23 = .ok (.iastore, 1) := by decide +kernel
theorem dX12_image_24 : decode cX12_image 24 = .ok (.iinc 1 1, 3) := by decide +kernel
theorem dX12_image_27 : decode cX12_image 27 = .ok (.goto (-20), 3) := by decide +kernel
theorem dX12_image_30 : decode cX12_image 30 = .ok (.iconst 0, 1) := by decide +kernel
theorem dX12_image_31 : decode cX12_image 31 = .ok (.istore_n 1, 1) := by decide +kernel
theorem dX12_image_32 : decode cX12_image 32 = .ok (.iload_n 1, 1) := by decide +kernel
theorem dX12_image_33 : decode cX12_image 33 = .ok (.bipush 75, 2) := by decide +kernel
theorem dX12_image_35 : decode cX12_image 35 = .ok (.if_icmp .ge 33, 3) := by decide +kernel
theorem dX12_image_38 : decode cX12_image 38 = .ok (.aload_n 0, 1) := by decide +kernel
theorem dX12_image_39 : decode cX12_image 39 = .ok (.getfield 95, 3) := by decide +kernel
theorem dX12_image_42 : decode cX12_image 42 = .ok (.iload_n 1, 1) := by decide +kernel
theorem dX12_image_43 : decode cX12_image 43 = .ok (.aload_n 0, 1) := by decide +kernel
theorem dX12_image_44 : decode cX12_image 44 = .ok (.getfield 15, 3) := by decide +kernel
theorem dX12_image_47 : decode cX12_image 47 = .ok (.iload_n 1, 1) := by decide +kernel
theorem dX12_image_48 : decode cX12_image 48 = .ok (.iaload, 1) := by decide +kernel
theorem dX12_image_49 : decode cX12_image 49 = .ok (.iastore, 1) := by decide +kernel
theorem dX12_image_50 : decode cX12_image 50 = .ok (.aload_n 0, 1) := by decide +kernel
theorem dX12_image_51 : decode cX12_image 51 = .ok (.getfield 98, 3) := by decide +kernel
theorem dX12_image_54 : decode cX12_image 54 = .ok (.iload_n 1, 1) := by decide +kernel
theorem dX12_image_55 : decode cX12_image 55 = .ok (.aload_n 0, 1) := by decide +kernel
theorem dX12_image_56 : decode cX12_image 56 = .ok (.getfield 18, 3) := by decide +kernel
theorem dX12_image_59 : decode cX12_image 59 = .ok (.iload_n 1, 1) := by decide +kernel
theorem dX12_image_60 : decode cX12_image 60 = .ok (.iaload, 1) := by decide +kernel
theorem dX12_image_61 : decode cX12_image 61 = .ok (.iastore, 1) := by decide +kernel
theorem dX12_image_62 : decode cX12_image 62 = .ok (.iinc 1 1, 3) := by decide +kernel
theorem dX12_image_65 : decode cX12_image 65 = .ok (.goto (-33), 3) := by decide +kernel
theorem dX12_image_68 : decode cX12_image 68 = .ok (.aload_n 0, 1) := by decide +kernel
theorem dX12_image_69 : decode cX12_image 69 = .ok (.aload_n 0, 1) := by decide +kernel
theorem dX12_image_70 : decode cX12_image 70 = .ok (.getfield 183, 3) := by decide +kernel
theorem dX12_image_73 : decode cX12_image 73 = .ok (.putfield 316, 3) := by decide +kernel
theorem dX12_image_76 : decode cX12_image 76 = .ok (.aload_n 0, 1) := by decide +kernel
theorem dX12_image_77 : decode cX12_image 77 = .ok (.aload_n 0, 1) := by decide +kernel
theorem dX12_image_78 : decode cX12_image 78 = .ok (.getfield 187, 3) := by decide +kernel
theorem dX12_image_81 : decode cX12_image 81 = .ok (.putfield 319, 3) := by decide +kernel
theorem dX12_image_84 : decode cX12_image 84 = .ok (.iconst 0, 1) := by decide +kernel
theorem dX12_image_85 : decode cX12_image 85 = .ok (.istore_n 1, 1) := by decide +kernel
theorem dX12_image_86 : decode cX12_image 86 = .ok (.iload_n 1, 1) := by decide +kernel
theorem dX12_image_87 : decode cX12_image 87 = .ok (.bipush 9, 2) := by decide +kernel
theorem dX12_image_89 : decode cX12_image 89 = .ok (.if_icmp .ge 21, 3) := by decide +kernel
theorem dX12_image_92 : decode cX12_image 92 = .ok (.aload_n 0, 1) := by decide +kernel
theorem dX12_image_93 : decode cX12_image 93 = .ok (.getfield 101, 3) := by decide +kernel
theorem dX12_image_96 : decode cX12_image 96 = .ok (.iload_n 1, 1) := by decide +kernel
theorem dX12_image_97 : decode cX12_image 97 = .ok (.aload_n 0, 1) := by decide +kernel
theorem dX12_image_98 : decode cX12_image 98 = .ok (.getfield 21, 3) := by decide +kernel
theorem dX12_image_101 : decode cX12_image 101 = .ok (.iload_n 1, 1) := by decide +kernel
theorem dX12_image_102 : decode cX12_image 102 = .ok (.iaload, 1) := by decide +kernel
theorem dX12_image_103 : decode cX12_image 103 = .ok (.iastore, 1) := by decide +kernel
theorem dX12_image_104 : decode cX12_image 104 = .ok (.iinc 1 1, 3) := by decide +kernel
theorem dX12_image_107 : decode cX12_image 107 = .ok (.goto (-21), 3) := by decide +kernel
theorem dX12_image_110 : decode cX12_image 110 = .ok (.aload_n 0, 1) := by decide +kernel
theorem dX12_image_111 : decode cX12_image 111 = .ok (.aload_n 0, 1) := by decide +kernel
theorem dX12_image_112 : decode cX12_image 112 = .ok (.getfield 252, 3) := by decide +kernel
theorem dX12_image_115 : decode cX12_image 115 = .ok (.putfield 322, 3) := by decide +kernel
theorem dX12_image_118 : decode cX12_image 118 = .ok (.iconst 0, 1) := by decide +kernel
theorem dX12_image_119 : decode cX12_image 119 = .ok (.istore_n 1, 1) := by decide +kernel
theorem dX12_image_120 : decode cX12_image 120 = .ok (.iload_n 1, 1) := by decide +kernel
theorem dX12_image_121 : decode cX12_image 121 = .ok (.bipush 8, 2) := by decide +kernel
theorem dX12_image_123 : decode cX12_image 123 = .ok (.if_icmp .ge 33, 3) := by decide +kernel
theorem dX12_image_126 : decode cX12_image 126 = .ok (.aload_n 0, 1) := by decide +kernel
theorem dX12_image_127 : decode cX12_image 127 = .ok (.getfield 104, 3) := by decide +kernel
theorem dX12_image_130 : decode cX12_image 130 = .ok (.iload_n 1, 1) := by decide +kernel
theorem dX12_image_131 : decode cX12_image 131 = .ok (.aload_n 0, 1) := by decide +kernel
theorem dX12_image_132 : decode cX12_image 132 = .ok (.getfield 54, 3) := by decide +kernel
theorem dX12_image_135 : decode cX12_image 135 = .ok (.iload_n 1, 1) := by decide +kernel
theorem dX12_image_136 : decode cX12_image 136 = .ok (.iaload, 1) := by decide +kernel
theorem dX12_image_137 : decode cX12_image 137 = .ok (.iastore, 1) := by decide +kernel
theorem dX12_image_138 : decode cX12_image 138 = .ok (.aload_n 0, 1) := by decide +kernel
theorem dX12_image_139 : decode cX12_image 139 = .ok (.getfield 107, 3) := by decide +kernel
theorem dX12_image_142 : decode cX12_image 142 = .ok (.iload_n 1, 1) := by decide +kernel
theorem dX12_image_143 : decode cX12_image 143 = .ok (.aload_n 0, 1) := by decide +kernel
theorem dX12_image_144 : decode cX12_image 144 = .ok (.getfield 57, 3) := by decide +kernel
theorem dX12_image_147 : decode cX12_image 147 = .ok (.iload_n 1, 1) := by decide +kernel
theorem dX12_image_148 : decode cX12_image 148 = .ok (.iaload, 1) := by decide +kernel
theorem dX12_image_149 : decode cX12_image 149 = .ok (.iastore, 1) := by decide +kernel
theorem dX12_image_150 : decode cX12_image 150 = .ok (.iinc 1 1, 3) := by decide +kernel
theorem dX12_image_153 : decode cX12_image 153 = .ok (.goto (-33), 3) := by decide +kernel
theorem dX12_image_156 : decode cX12_image 156 = .ok (.aload_n 0, 1) := by decide +kernel
theorem dX12_image_157 : decode cX12_image 157 = .ok (.invokevirtual 131, 3) := by decide +kernel
theorem dX12_image_160 : decode cX12_image 160 = .ok (.ireturn, 1) := by decide +kernel
set_option maxRecDepth 20000 in
theorem ggX12_undo_X12_degreeOf : GoodIn wsX12_undo wsX12_degreeOf := goodIn_r _ [24, 2, 25, 26, 27, 28, 29, 30, 31, 32, 33, 34, 35, 36, 37, 38, 39, 40, 41, 42, 43, 44, 45, 46, 47, 48, 49, 50, 51, 52, 53, 54, 55, 56, 57, 58, 59, 60, 61, 62, 63, 64, 65, 66, 67, 68, 69] (by decide +kernel) (by decide +kernel)
set_option maxRecDepth 20000 in
theorem gX12_undo_X12_degreeOf : GoodIn wsX12_undo (wsV RX12 131 RX12 yX12_degreeOf wsX12_degreeOf) := goodIn_app (goodIn_of _ (by decide +kernel)) ggX12_undo_X12_degreeOf
theorem dX12_undo_0 : decode cX12_undo 0 = .ok (.aload_n 0, 1) := by decide +kernel
theorem dX12_undo_1 : decode cX12_undo 1 = .ok (.getfield 313, 3) := by decide +kernel
theorem dX12_undo_4 : decode cX12_undo 4 = .ok (.ifCond .ne 6, 3) := by decide +kernel
theorem dX12_undo_7 : decode cX12_undo 7 = .ok (.bipush (-3), 2) := by decide +kernel
theorem dX12_undo_9 : decode cX12_undo 9 = .ok (.ireturn, 1) := by decide +kernel
theorem dX12_undo_10 : decode cX12_undo 10 = .ok (.iconst 0, 1) := by decide +kernel
theorem dX12_undo_11 : decode cX12_undo 11 = .ok (.istore_n 1, 1) := by decide +kernel
theorem dX12_undo_12 : decode cX12_undo 12 = .ok (.iload_n 1, 1) := by decide +kernel
theorem dX12_undo_13 : decode cX12_undo 13 = .ok (.iconst 5, 1) := by decide +kernel
theorem dX12_undo_14 : decode cX12_undo 14 = .ok (.if_icmp .ge 21, 3) := by decide +kernel
theorem dX12_undo_17 : decode cX12_undo 17 = .ok (.aload_n 0, 1) := by decide +kernel
theorem dX12_undo_18 : decode cX12_undo 18 = .ok (.getfield 9, 3) := by decide +kernel
theorem dX12_undo_21 : decode cX12_undo 21 = .ok (.iload_n 1, 1) := by decide +kernel
theorem dX12_undo_22 : decode cX12_undo 22 = .ok (.aload_n 0, 1) := by decide +kernel
theorem dX12_undo_23 : decode cX12_undo 23 = .ok (.getfield 92, 3) := by decide +kernel
theorem dX12_undo_26 : decode cX12_undo 26 = .ok (.iload_n 1, 1) := by decide +kernel
theorem dX12_undo_27 : decode cX12_undo 27 = .ok (.iaload, 1) := by decide +kernel
theorem dX12_undo_28 : decode cX12_undo 28 = .ok (.iastore, 1) := by decide +kernel
theorem dX12_undo_29 : decode cX12_undo 29 = .ok (.iinc 1 1, 3) := by decide +kernel
theorem dX12_undo_32 : decode cX12_undo 32 = .ok (.goto (-20), 3) := by decide +kernel
theorem dX12_undo_35 : decode cX12_undo 35 = .ok (.iconst 0, 1) := by decide +kernel
theorem dX12_undo_36 : decode cX12_undo 36 = .ok (.istore_n 1, 1) := by decide +kernel
theorem dX12_undo_37 : decode cX12_undo 37 = .ok (.iload_n 1, 1) := by decide +kernel
theorem dX12_undo_38 : decode cX12_undo 38 = .ok (.bipush 75, 2) := by decide +kernel
theorem dX12_undo_40 : decode cX12_undo 40 = .ok (.if_icmp .ge 33, 3) := by decide +kernel
theorem dX12_undo_43 : decode cX12_undo 43 = .ok (.aload_n 0, 1) := by decide +kernel
theorem dX12_undo_44 : decode cX12_undo 44 = .ok (.getfield 15, 3) := by decide +kernel
theorem dX12_undo_47 : decode cX12_undo 47 = .ok (.iload_n 1, 1) := by decide +kernel
theorem dX12_undo_48 : decode cX12_undo 48 = .ok (.aload_n 0, 1) := by decide +kernel
theorem dX12_undo_49 : decode cX12_undo 49 = .ok (.getfield 95, 3) := by decide +kernel
theorem dX12_undo_52 : decode cX12_undo 52 = .ok (.iload_n 1, 1) := by decide +kernel
theorem dX12_undo_53 : decode cX12_undo 53 = .ok (.iaload, 1) := by decide +kernel
theorem dX12_undo_54 : decode cX12_undo 54 = .ok (.iastore, 1) := by decide +kernel
theorem dX12_undo_55 : decode cX12_undo 55 = .ok (.aload_n 0, 1) := by decide +kernel
theorem dX12_undo_56 : decode cX12_undo 56 = .ok (.getfield 18, 3) := by decide +kernel
theorem dX12_undo_59 : decode cX12_undo 59 = .ok (.iload_n 1, 1) := by decide +kernel
theorem dX12_undo_60 : decode cX12_undo 60 = .ok (.aload_n 0, 1) := by decide +kernel
theorem dX12_undo_61 : decode cX12_undo 61 = .ok (.getfield 98, 3) := by decide +kernel
theorem dX12_undo_64 : decode cX12_undo 64 = .ok (.iload_n 1, 1) := by decide +kernel
theorem dX12_undo_65 : decode cX12_undo 65 = .ok (.iaload, 1) := by decide +kernel
theorem dX12_undo_66 : decode cX12_undo 66 = .ok (.iastore, 1) := by decide +kernel
theorem dX12_undo_67 : decode cX12_undo 67 = .ok (.iinc 1 1, 3) := by decide +kernel
theorem dX12_undo_70 : decode cX12_undo 70 = .ok (.goto (-33), 3) := by decide +kernel
theorem dX12_undo_73 : decode cX12_undo 73 = .ok (.aload_n 0, 1) := by decide +kernel
theorem dX12_undo_74 : decode cX12_undo 74 = .ok (.aload_n 0, 1) := by decide +kernel
theorem dX12_undo_75 : decode cX12_undo 75 = .ok (.getfield 316, 3) := by decide +kernel
theorem dX12_undo_78 : decode cX12_undo 78 = .ok (.putfield 183, 3) := by decide +kernel
theorem dX12_undo_81 : decode cX12_undo 81 = .ok (.aload_n 0, 1) := by decide +kernel
theorem dX12_undo_82 : decode cX12_undo 82 = .ok (.aload_n 0, 1) := by decide +kernel
theorem dX12_undo_83 : decode cX12_undo 83 = .ok (.getfield 319, 3) := by decide +kernel
theorem dX12_undo_86 : decode cX12_undo 86 = .ok (.putfield 187, 3) := by decide +kernel
theorem dX12_undo_89 : decode cX12_undo 89 = .ok (.iconst 0, 1) := by decide +kernel
theorem dX12_undo_90 : decode cX12_undo 90 = .ok (.istore_n 1, 1) := by decide +kernel
theorem dX12_undo_91 : decode cX12_undo 91 = .ok (.iload_n 1, 1) := by decide +kernel
theorem dX12_undo_92 : decode cX12_undo 92 = .ok (.bipush 9, 2) := by decide +kernel
theorem dX12_undo_94 : decode cX12_undo 94 = .ok (.if_icmp .ge 21, 3) := by decide +kernel
theorem dX12_undo_97 : decode cX12_undo 97 = .ok (.aload_n 0, 1) := by decide +kernel
theorem dX12_undo_98 : decode cX12_undo 98 = .ok (.getfield 21, 3) := by decide +kernel
theorem dX12_undo_101 : decode cX12_undo 101 = .ok (.iload_n 1, 1) := by decide +kernel
theorem dX12_undo_102 : decode cX12_undo 102 = .ok (.aload_n 0, 1) := by decide +kernel
theorem dX12_undo_103 : decode cX12_undo 103 = .ok (.getfield 101, 3) := by decide +kernel
theorem dX12_undo_106 : decode cX12_undo 106 = .ok (.iload_n 1, 1) := by decide +kernel
theorem dX12_undo_107 : decode cX12_undo 107 = .ok (.iaload, 1) := by decide +kernel
theorem dX12_undo_108 : decode cX12_undo 108 = .ok (.iastore, 1) := by decide +kernel
theorem dX12_undo_109 : decode cX12_undo 109 = .ok (.iinc 1 1, 3) := by decide +kernel
theorem dX12_undo_112 : decode cX12_undo 112 = .ok (.goto (-21), 3) := by decide +kernel
theorem dX12_undo_115 : decode cX12_undo 115 = .ok (.aload_n 0, 1) := by decide +kernel
theorem dX12_undo_116 : decode cX12_undo 116 = .ok (.aload_n 0, 1) := by decide +kernel
theorem dX12_undo_117 : decode cX12_undo 117 = .ok (.getfield 322, 3) := by decide +kernel
theorem dX12_undo_120 : decode cX12_undo 120 = .ok (.putfield 252, 3) := by decide +kernel
theorem dX12_undo_123 : decode cX12_undo 123 = .ok (.iconst 0, 1) := by decide +kernel
theorem dX12_undo_124 : decode cX12_undo 124 = .ok (.istore_n 1, 1) := by decide +kernel
theorem dX12_undo_125 : decode cX12_undo 125 = .ok (.iload_n 1, 1) := by decide +kernel
theorem dX12_undo_126 : decode cX12_undo 126 = .ok (.bipush 8, 2) := by decide +kernel
theorem dX12_undo_128 : decode cX12_undo 128 = .ok (.if_icmp .ge 33, 3) := by decide +kernel
theorem dX12_undo_131 : decode cX12_undo 131 = .ok (.aload_n 0, 1) := by decide +kernel
theorem dX12_undo_132 : decode cX12_undo 132 = .ok (.getfield 54, 3) := by decide +kernel
theorem dX12_undo_135 : decode cX12_undo 135 = .ok (.iload_n 1, 1) := by decide +kernel
theorem dX12_undo_136 : decode cX12_undo 136 = .ok (.aload_n 0, 1) := by decide +kernel
theorem dX12_undo_137 : decode cX12_undo 137 = .ok (.getfield 104, 3) := by decide +kernel
theorem dX12_undo_140 : decode cX12_undo 140 = .ok (.iload_n 1, 1) := by decide +kernel
theorem dX12_undo_141 : decode cX12_undo 141 = .ok (.iaload, 1) := by decide +kernel
theorem dX12_undo_142 : decode cX12_undo 142 = .ok (.iastore, 1) := by decide +kernel
theorem dX12_undo_143 : decode cX12_undo 143 = .ok (.aload_n 0, 1) := by decide +kernel
theorem dX12_undo_144 : decode cX12_undo 144 = .ok (.getfield 57, 3) := by decide +kernel
theorem dX12_undo_147 : decode cX12_undo 147 = .ok (.iload_n 1, 1) := by decide +kernel
theorem dX12_undo_148 : decode cX12_undo 148 = .ok (.aload_n 0, 1) := by decide +kernel
theorem dX12_undo_149 : decode cX12_undo 149 = .ok (.getfield 107, 3) := by decide +kernel
theorem dX12_undo_152 : decode cX12_undo 152 = .ok (.iload_n 1, 1) := by decide +kernel
theorem dX12_undo_153 : decode cX12_undo 153 = .ok (.iaload, 1) := by decide +kernel
theorem dX12_undo_154 : decode cX12_undo 154 = .ok (.iastore, 1) := by decide +kernel
theorem dX12_undo_155 : decode cX12_undo 155 = .ok (.iinc 1 1, 3) := by decide +kernel
theorem dX12_undo_158 : decode cX12_undo 158 = .ok (.goto (-33), 3) := by decide +kernel
theorem dX12_undo_161 : decode cX12_undo 161 = .ok (.aload_n 0, 1) := by decide +kernel
theorem dX12_undo_162 : decode cX12_undo 162 = .ok (.invokevirtual 131, 3) := by decide +kernel
theorem dX12_undo_165 : decode cX12_undo 165 = .ok (.ireturn, 1) := by decide +kernel
set_option maxRecDepth 20000 in
theorem ggX12_count_X12_numbers : GoodIn wsX12_count wsX12_numbers := goodIn_r _ [11, 12, 13, 14, 15, 16, 17, 18, 19, 20, 21, 22, 23, 24, 25, 26, 27, 28, 29, 30, 31, 32, 33, 34, 35, 36, 37, 38, 39, 40, 41, 42, 43, 44, 45, 46, 47, 48, 49, 50, 51, 52, 53, 54, 55, 56, 57] (by decide +kernel) (by decide +kernel)
set_option maxRecDepth 20000 in
theorem gX12_count_X12_numbers : GoodIn wsX12_count (wsV RX12 142 RX12 yX12_numbers wsX12_numbers) := goodIn_app (goodIn_of _ (by decide +kernel)) ggX12_count_X12_numbers
theorem dX12_count_0 : decode cX12_count 0 = .ok (.iconst 0, 1) := by decide +kernel
theorem dX12_count_1 : decode cX12_count 1 = .ok (.istore_n 2, 1) := by decide +kernel
theorem dX12_count_2 : decode cX12_count 2 = .ok (.iload_n 1, 1) := by decide +kernel
theorem dX12_count_3 : decode cX12_count 3 = .ok (.tableswitch 165 0 6 #[41, 73, 78, 83, 88, 120, 152], 41) := by decide +kernel
theorem dX12_count_44 : decode cX12_count 44 = .ok (.iconst 0, 1) := by decide +kernel
theorem dX12_count_45 : decode cX12_count 45 = .ok (.istore_n 3, 1) := by decide +kernel
theorem dX12_count_46 : decode cX12_count 46 = .ok (.iload_n 3, 1) := by decide +kernel
theorem dX12_count_47 : decode cX12_count 47 = .ok (.iconst 5, 1) := by decide +kernel
theorem dX12_count_48 : decode cX12_count 48 = .ok (.if_icmp .ge 26, 3) := by decide +kernel
theorem dX12_count_51 : decode cX12_count 51 = .ok (.iload_n 2, 1) := by decide +kernel
theorem dX12_count_52 : decode cX12_count 52 = .ok (.aload_n 0, 1) := by decide +kernel
theorem dX12_count_53 : decode cX12_count 53 = .ok (.getfield 9, 3) := by decide +kernel
theorem dX12_count_56 : decode cX12_count 56 = .ok (.iload_n 3, 1) := by decide +kernel
theorem dX12_count_57 : decode cX12_count 57 = .ok (.iaload, 1) := by decide +kernel
theorem dX12_count_58 : decode cX12_count 58 = .ok (.ifCond .ne 7, 3) := by decide +kernel
theorem dX12_count_61 : decode cX12_count 61 = .ok (.iconst 0, 1) := by decide +kernel
theorem dX12_count_62 : decode cX12_count 62 = .ok (.goto 4, 3) := by decide +kernel
theorem dX12_count_65 : decode cX12_count 65 = .ok (.iconst 1, 1) := by decide +kernel
theorem dX12_count_66 : decode cX12_count 66 = .ok (.iadd, 1) := by decide +kernel
theorem dX12_count_67 : decode cX12_count 67 = .ok (.istore_n 2, 1) := by decide +kernel
theorem dX12_count_68 : decode cX12_count 68 = .ok (.iinc 3 1, 3) := by decide +kernel
theorem dX12_count_71 : decode cX12_count 71 = .ok (.goto (-25), 3) := by decide +kernel
theorem dX12_count_74 : decode cX12_count 74 = .ok (.iload_n 2, 1) := by decide +kernel
theorem dX12_count_75 : decode cX12_count 75 = .ok (.ireturn, 1) := by decide +kernel
theorem dX12_count_76 : decode cX12_count 76 = .ok (.aload_n 0, 1) := by decide +kernel
theorem dX12_count_77 : decode cX12_count 77 = .ok (.invokevirtual 142, 3) := by decide +kernel
theorem dX12_count_80 : decode cX12_count 80 = .ok (.ireturn, 1) := by decide +kernel
theorem dX12_count_81 : decode cX12_count 81 = .ok (.aload_n 0, 1) := by decide +kernel
theorem dX12_count_82 : decode cX12_count 82 = .ok (.getfield 252, 3) := by decide +kernel
theorem dX12_count_85 : decode cX12_count 85 = .ok (.ireturn, 1) := by decide +kernel
theorem dX12_count_86 : decode cX12_count 86 = .ok (.aload_n 0, 1) := by decide +kernel
theorem dX12_count_87 : decode cX12_count 87 = .ok (.getfield 270, 3) := by decide +kernel
theorem dX12_count_90 : decode cX12_count 90 = .ok (.ireturn, 1) := by decide +kernel
theorem dX12_count_91 : decode cX12_count 91 = .ok (.iconst 0, 1) := by decide +kernel
theorem dX12_count_92 : decode cX12_count 92 = .ok (.istore_n 3, 1) := by decide +kernel
theorem dX12_count_93 : decode cX12_count 93 = .ok (.iload_n 3, 1) := by decide +kernel
theorem dX12_count_94 : decode cX12_count 94 = .ok (.iconst 3, 1) := by decide +kernel
theorem dX12_count_95 : decode cX12_count 95 = .ok (.if_icmp .ge 26, 3) := by decide +kernel
theorem dX12_count_98 : decode cX12_count 98 = .ok (.iload_n 2, 1) := by decide +kernel
theorem dX12_count_99 : decode cX12_count 99 = .ok (.aload_n 0, 1) := by decide +kernel
theorem dX12_count_100 : decode cX12_count 100 = .ok (.getfield 66, 3) := by decide +kernel
theorem dX12_count_103 : decode cX12_count 103 = .ok (.iload_n 3, 1) := by decide +kernel
theorem dX12_count_104 : decode cX12_count 104 = .ok (.iaload, 1) := by decide +kernel
theorem dX12_count_105 : decode cX12_count 105 = .ok (.ifCond .ge 7, 3) := by decide +kernel
theorem dX12_count_108 : decode cX12_count 108 = .ok (.iconst 0, 1) := by decide +kernel
theorem dX12_count_109 : decode cX12_count 109 = .ok (.goto 4, 3) := by decide +kernel
theorem dX12_count_112 : decode cX12_count 112 = .ok (.iconst 1, 1) := by decide +kernel
theorem dX12_count_113 : decode cX12_count 113 = .ok (.iadd, 1) := by decide +kernel
theorem dX12_count_114 : decode cX12_count 114 = .ok (.istore_n 2, 1) := by decide +kernel
theorem dX12_count_115 : decode cX12_count 115 = .ok (.iinc 3 1, 3) := by decide +kernel
theorem dX12_count_118 : decode cX12_count 118 = .ok (.goto (-25), 3) := by decide +kernel
theorem dX12_count_121 : decode cX12_count 121 = .ok (.iload_n 2, 1) := by decide +kernel
theorem dX12_count_122 : decode cX12_count 122 = .ok (.ireturn, 1) := by decide +kernel
theorem dX12_count_123 : decode cX12_count 123 = .ok (.iconst 0, 1) := by decide +kernel
theorem dX12_count_124 : decode cX12_count 124 = .ok (.istore_n 3, 1) := by decide +kernel
theorem dX12_count_125 : decode cX12_count 125 = .ok (.iload_n 3, 1) := by decide +kernel
theorem dX12_count_126 : decode cX12_count 126 = .ok (.iconst 3, 1) := by decide +kernel
theorem dX12_count_127 : decode cX12_count 127 = .ok (.if_icmp .ge 26, 3) := by decide +kernel
theorem dX12_count_130 : decode cX12_count 130 = .ok (.iload_n 2, 1) := by decide +kernel
theorem dX12_count_131 : decode cX12_count 131 = .ok (.aload_n 0, 1) := by decide +kernel
theorem dX12_count_132 : decode cX12_count 132 = .ok (.getfield 85, 3) := by decide +kernel
theorem dX12_count_135 : decode cX12_count 135 = .ok (.iload_n 3, 1) := by decide +kernel
theorem dX12_count_136 : decode cX12_count 136 = .ok (.iaload, 1) := by decide +kernel
theorem dX12_count_137 : decode cX12_count 137 = .ok (.ifCond .ge 7, 3) := by decide +kernel
theorem dX12_count_140 : decode cX12_count 140 = .ok (.iconst 0, 1) := by decide +kernel
theorem dX12_count_141 : decode cX12_count 141 = .ok (.goto 4, 3) := by decide +kernel
theorem dX12_count_144 : decode cX12_count 144 = .ok (.iconst 1, 1) := by decide +kernel
theorem dX12_count_145 : decode cX12_count 145 = .ok (.iadd, 1) := by decide +kernel
theorem dX12_count_146 : decode cX12_count 146 = .ok (.istore_n 2, 1) := by decide +kernel
theorem dX12_count_147 : decode cX12_count 147 = .ok (.iinc 3 1, 3) := by decide +kernel
theorem dX12_count_150 : decode cX12_count 150 = .ok (.goto (-25), 3) := by decide +kernel
theorem dX12_count_153 : decode cX12_count 153 = .ok (.iload_n 2, 1) := by decide +kernel
theorem dX12_count_154 : decode cX12_count 154 = .ok (.ireturn, 1) := by decide +kernel
theorem dX12_count_155 : decode cX12_count 155 = .ok (.aload_n 0, 1) := by decide +kernel
theorem dX12_count_156 : decode cX12_count 156 = .ok (.getfield 183, 3) := by decide +kernel
theorem dX12_count_159 : decode cX12_count 159 = .ok (.ifCond .eq 7, 3) := by decide +kernel
theorem dX12_count_162 : decode cX12_count 162 = .ok (.iconst 1, 1) := by decide +kernel
theorem dX12_count_163 : decode cX12_count 163 = .ok (.goto 4, 3) := by decide +kernel
theorem dX12_count_166 : decode cX12_count 166 = .ok (.iconst 0, 1) := by decide +kernel
theorem dX12_count_167 : decode cX12_count 167 = .ok (.ireturn, 1) := by decide +kernel
theorem dX12_count_168 : decode cX12_count 168 = .ok (.iconst (-1), 1) := by decide +kernel
theorem dX12_count_169 : decode cX12_count 169 = .ok (.ireturn, 1) := by decide +kernel
theorem dJxe99ae_isNaN_b9ae7_0 : decode cJxe99ae_isNaN_b9ae7 0 = .ok (.dload_n 0, 1) := by decide +kernel
theorem dJxe99ae_isNaN_b9ae7_1 : decode cJxe99ae_isNaN_b9ae7 1 = .ok (.dload_n 0, 1) := by decide +kernel
theorem dJxe99ae_isNaN_b9ae7_2 : decode cJxe99ae_isNaN_b9ae7 2 = .ok (.dcmp .l, 1) := by decide +kernel
theorem dJxe99ae_isNaN_b9ae7_3 : decode cJxe99ae_isNaN_b9ae7 3 = .ok (.ifCond .eq 7, 3) := by decide +kernel
theorem dJxe99ae_isNaN_b9ae7_6 : decode cJxe99ae_isNaN_b9ae7 6 = .ok (.iconst 1, 1) := by decide +kernel
theorem dJxe99ae_isNaN_b9ae7_7 : decode cJxe99ae_isNaN_b9ae7 7 = .ok (.goto 4, 3) := by decide +kernel
theorem dJxe99ae_isNaN_b9ae7_10 : decode cJxe99ae_isNaN_b9ae7 10 = .ok (.iconst 0, 1) := by decide +kernel
theorem dJxe99ae_isNaN_b9ae7_11 : decode cJxe99ae_isNaN_b9ae7 11 = .ok (.ireturn, 1) := by decide +kernel
set_option maxRecDepth 20000 in
theorem ggJxe99ae_doubleToLongBits_ccdee_Jxe99ae_isNaN_b9ae7 : GoodIn wsJxe99ae_doubleToLongBits_ccdee wsJxe99ae_isNaN_b9ae7 := goodIn_r _ [9] (by decide +kernel) (by decide +kernel)
set_option maxRecDepth 20000 in
theorem gJxe99ae_doubleToLongBits_ccdee_Jxe99ae_isNaN_b9ae7 : GoodIn wsJxe99ae_doubleToLongBits_ccdee (va_wsS RJxe99ae 122 yJxe99ae_isNaN_b9ae7 wsJxe99ae_isNaN_b9ae7) := goodIn_app (goodIn_of _ (by decide +kernel)) ggJxe99ae_doubleToLongBits_ccdee_Jxe99ae_isNaN_b9ae7
theorem dJxe99ae_doubleToLongBits_ccdee_0 : decode cJxe99ae_doubleToLongBits_ccdee 0 = .ok (.dload_n 0, 1) := by decide +kernel
theorem dJxe99ae_doubleToLongBits_ccdee_1 : decode cJxe99ae_doubleToLongBits_ccdee 1 = .ok (.invokestatic 122, 3) := by decide +kernel
theorem dJxe99ae_doubleToLongBits_ccdee_4 : decode cJxe99ae_doubleToLongBits_ccdee 4 = .ok (.ifCond .ne 8, 3) := by decide +kernel
theorem dJxe99ae_doubleToLongBits_ccdee_7 : decode cJxe99ae_doubleToLongBits_ccdee 7 = .ok (.dload_n 0, 1) := by decide +kernel
theorem dJxe99ae_doubleToLongBits_ccdee_8 : decode cJxe99ae_doubleToLongBits_ccdee 8 = .ok (.invokestatic 134, 3) := by decide +kernel
theorem dJxe99ae_doubleToLongBits_ccdee_11 : decode cJxe99ae_doubleToLongBits_ccdee 11 = .ok (.lreturn, 1) := by decide +kernel
theorem dJxe99ae_doubleToLongBits_ccdee_12 : decode cJxe99ae_doubleToLongBits_ccdee 12 = .ok (.ldc2_w 137, 3) := by decide +kernel
theorem dJxe99ae_doubleToLongBits_ccdee_15 : decode cJxe99ae_doubleToLongBits_ccdee 15 = .ok (.lreturn, 1) := by decide +kernel
theorem dJxf58ca_isNaN_12338_0 : decode cJxf58ca_isNaN_12338 0 = .ok (.fload_n 0, 1) := by decide +kernel
theorem dJxf58ca_isNaN_12338_1 : decode cJxf58ca_isNaN_12338 1 = .ok (.fload_n 0, 1) := by decide +kernel
theorem dJxf58ca_isNaN_12338_2 : decode cJxf58ca_isNaN_12338 2 = .ok (.fcmp .l, 1) := by decide +kernel
theorem dJxf58ca_isNaN_12338_3 : decode cJxf58ca_isNaN_12338 3 = .ok (.ifCond .eq 7, 3) := by decide +kernel
theorem dJxf58ca_isNaN_12338_6 : decode cJxf58ca_isNaN_12338 6 = .ok (.iconst 1, 1) := by decide +kernel
theorem dJxf58ca_isNaN_12338_7 : decode cJxf58ca_isNaN_12338 7 = .ok (.goto 4, 3) := by decide +kernel
theorem dJxf58ca_isNaN_12338_10 : decode cJxf58ca_isNaN_12338 10 = .ok (.iconst 0, 1) := by decide +kernel
theorem dJxf58ca_isNaN_12338_11 : decode cJxf58ca_isNaN_12338 11 = .ok (.ireturn, 1) := by decide +kernel
set_option maxRecDepth 20000 in
theorem ggJxf58ca_floatToIntBits_5c35a_Jxf58ca_isNaN_12338 : GoodIn wsJxf58ca_floatToIntBits_5c35a wsJxf58ca_isNaN_12338 := goodIn_r _ [9] (by decide +kernel) (by decide +kernel)
set_option maxRecDepth 20000 in
theorem gJxf58ca_floatToIntBits_5c35a_Jxf58ca_isNaN_12338 : GoodIn wsJxf58ca_floatToIntBits_5c35a (va_wsS RJxf58ca 59 yJxf58ca_isNaN_12338 wsJxf58ca_isNaN_12338) := goodIn_app (goodIn_of _ (by decide +kernel)) ggJxf58ca_floatToIntBits_5c35a_Jxf58ca_isNaN_12338
theorem dJxf58ca_floatToIntBits_5c35a_0 : decode cJxf58ca_floatToIntBits_5c35a 0 = .ok (.fload_n 0, 1) := by decide +kernel
theorem dJxf58ca_floatToIntBits_5c35a_1 : decode cJxf58ca_floatToIntBits_5c35a 1 = .ok (.invokestatic 59, 3) := by decide +kernel
theorem dJxf58ca_floatToIntBits_5c35a_4 : decode cJxf58ca_floatToIntBits_5c35a 4 = .ok (.ifCond .ne 8, 3) := by decide +kernel
theorem dJxf58ca_floatToIntBits_5c35a_7 : decode cJxf58ca_floatToIntBits_5c35a 7 = .ok (.fload_n 0, 1) := by decide +kernel
theorem dJxf58ca_floatToIntBits_5c35a_8 : decode cJxf58ca_floatToIntBits_5c35a 8 = .ok (.invokestatic 74, 3) := by decide +kernel
theorem dJxf58ca_floatToIntBits_5c35a_11 : decode cJxf58ca_floatToIntBits_5c35a 11 = .ok (.ireturn, 1) := by decide +kernel
theorem dJxf58ca_floatToIntBits_5c35a_12 : decode cJxf58ca_floatToIntBits_5c35a 12 = .ok (.ldc 77, 2) := by decide +kernel
theorem dJxf58ca_floatToIntBits_5c35a_14 : decode cJxf58ca_floatToIntBits_5c35a 14 = .ok (.ireturn, 1) := by decide +kernel
theorem dJ9_floorMod_7cf53_0 : decode cJ9_floorMod_7cf53 0 = .ok (.iload_n 0, 1) := by decide +kernel
theorem dJ9_floorMod_7cf53_1 : decode cJ9_floorMod_7cf53 1 = .ok (.iload_n 1, 1) := by decide +kernel
theorem dJ9_floorMod_7cf53_2 : decode cJ9_floorMod_7cf53 2 = .ok (.irem, 1) := by decide +kernel
theorem dJ9_floorMod_7cf53_3 : decode cJ9_floorMod_7cf53 3 = .ok (.istore_n 2, 1) := by decide +kernel
theorem dJ9_floorMod_7cf53_4 : decode cJ9_floorMod_7cf53 4 = .ok (.iload_n 0, 1) := by decide +kernel
theorem dJ9_floorMod_7cf53_5 : decode cJ9_floorMod_7cf53 5 = .ok (.iload_n 1, 1) := by decide +kernel
theorem dJ9_floorMod_7cf53_6 : decode cJ9_floorMod_7cf53 6 = .ok (.ixor, 1) := by decide +kernel
theorem dJ9_floorMod_7cf53_7 : decode cJ9_floorMod_7cf53 7 = .ok (.ifCond .ge 11, 3) := by decide +kernel
theorem dJ9_floorMod_7cf53_10 : decode cJ9_floorMod_7cf53 10 = .ok (.iload_n 2, 1) := by decide +kernel
theorem dJ9_floorMod_7cf53_11 : decode cJ9_floorMod_7cf53 11 = .ok (.ifCond .eq 7, 3) := by decide +kernel
theorem dJ9_floorMod_7cf53_14 : decode cJ9_floorMod_7cf53 14 = .ok (.iload_n 2, 1) := by decide +kernel
theorem dJ9_floorMod_7cf53_15 : decode cJ9_floorMod_7cf53 15 = .ok (.iload_n 1, 1) := by decide +kernel
theorem dJ9_floorMod_7cf53_16 : decode cJ9_floorMod_7cf53 16 = .ok (.iadd, 1) := by decide +kernel
theorem dJ9_floorMod_7cf53_17 : decode cJ9_floorMod_7cf53 17 = .ok (.ireturn, 1) := by decide +kernel
theorem dJ9_floorMod_7cf53_18 : decode cJ9_floorMod_7cf53 18 = .ok (.iload_n 2, 1) := by decide +kernel
theorem dJ9_floorMod_7cf53_19 : decode cJ9_floorMod_7cf53 19 = .ok (.ireturn, 1) := by decide +kernel
theorem dJ9_abs_0f7a4_0 : decode cJ9_abs_0f7a4 0 = .ok (.iload_n 0, 1) := by decide +kernel
theorem dJ9_abs_0f7a4_1 : decode cJ9_abs_0f7a4 1 = .ok (.ifCond .ge 8, 3) := by decide +kernel
theorem dJ9_abs_0f7a4_4 : decode cJ9_abs_0f7a4 4 = .ok (.iload_n 0, 1) := by decide +kernel
theorem dJ9_abs_0f7a4_5 : decode cJ9_abs_0f7a4 5 = .ok (.ineg, 1) := by decide +kernel
theorem dJ9_abs_0f7a4_6 : decode cJ9_abs_0f7a4 6 = .ok (.goto 4, 3) := by decide +kernel
theorem dJ9_abs_0f7a4_9 : decode cJ9_abs_0f7a4 9 = .ok (.iload_n 0, 1) := by decide +kernel
theorem dJ9_abs_0f7a4_10 : decode cJ9_abs_0f7a4 10 = .ok (.ireturn, 1) := by decide +kernel
theorem dJ7_fill_53178_0 : decode cJ7_fill_53178 0 = .ok (.iconst 0, 1) := by decide +kernel
theorem dJ7_fill_53178_1 : decode cJ7_fill_53178 1 = .ok (.istore_n 2, 1) := by decide +kernel
theorem dJ7_fill_53178_2 : decode cJ7_fill_53178 2 = .ok (.aload_n 0, 1) := by decide +kernel
theorem dJ7_fill_53178_3 : decode cJ7_fill_53178 3 = .ok (.arraylength, 1) := by decide +kernel
theorem dJ7_fill_53178_4 : decode cJ7_fill_53178 4 = .ok (.istore_n 3, 1) := by decide +kernel
theorem dJ7_fill_53178_5 : decode cJ7_fill_53178 5 = .ok (.iload_n 2, 1) := by decide +kernel
theorem dJ7_fill_53178_6 : decode cJ7_fill_53178 6 = .ok (.iload_n 3, 1) := by decide +kernel
theorem dJ7_fill_53178_7 : decode cJ7_fill_53178 7 = .ok (.if_icmp .ge 13, 3) := by decide +kernel
theorem dJ7_fill_53178_10 : decode cJ7_fill_53178 10 = .ok (.aload_n 0, 1) := by decide +kernel
theorem dJ7_fill_53178_11 : decode cJ7_fill_53178 11 = .ok (.iload_n 2, 1) := by decide +kernel
theorem dJ7_fill_53178_12 : decode cJ7_fill_53178 12 = .ok (.iload_n 1, 1) := by decide +kernel
theorem dJ7_fill_53178_13 : decode cJ7_fill_53178 13 = .ok (.iastore, 1) := by decide +kernel
theorem dJ7_fill_53178_14 : decode cJ7_fill_53178 14 = .ok (.iinc 2 1, 3) := by decide +kernel
theorem dJ7_fill_53178_17 : decode cJ7_fill_53178 17 = .ok (.goto (-12), 3) := by decide +kernel
theorem dJ7_fill_53178_20 : decode cJ7_fill_53178 20 = .ok (.return_, 1) := by decide +kernel
set_option maxRecDepth 20000 in
theorem ggL_law_X11_init : GoodIn wsL_law wsX11_init := goodIn_r _ [9, 10, 11, 12, 13, 14, 15, 16, 17, 18, 19, 20, 21, 22, 23, 24, 25, 26, 27, 28, 29, 30, 31, 32, 33, 34, 35, 36, 37, 38, 39, 40, 41, 42, 43, 44, 45, 46, 47, 48, 49, 50, 51, 52, 53, 54, 55, 56, 57, 58, 59, 60, 61, 62, 63, 64, 65, 66, 67, 68, 69, 70, 71, 72, 73, 74, 75, 76, 77, 78, 79, 80, 81, 82, 83, 84, 85, 86, 87, 88, 89, 90, 91, 92, 93, 94, 95, 96, 97, 98, 99, 100, 101, 102, 103, 104, 105, 106, 107, 108, 109, 110, 111, 112, 113, 114, 115, 116, 117, 118, 119, 120, 121, 122, 123, 124, 125, 126, 127, 128, 129, 130, 131, 132, 133, 134, 135, 136, 137, 138, 139, 140, 141, 142, 143, 144, 145, 146, 147, 148, 149, 1213, 1214, 1215, 1216, 1156, 1157, 1158, 1159, 1160, 1161, 1162, 1163, 1164, 1165, 1166, 1167, 1217, 1218, 1219, 1220, 1221, 1222, 1223, 1224, 1225, 1226, 1227, 1228, 1229, 1230, 1231, 1232, 1233, 1234, 1235, 1236, 1237, 1238, 1239, 1240, 1241, 1242, 1243, 1244, 1245, 1246, 1247, 1248, 1249, 1250, 1251, 1252, 1253, 1254, 1255, 1256, 1257, 1258, 1259, 1260, 1261, 1262, 1263, 1264] (by decide +kernel) (by decide +kernel)
set_option maxRecDepth 20000 in
theorem gL_law_X11_init : GoodIn wsL_law (wsX11_init) := ggL_law_X11_init
set_option maxRecDepth 20000 in
theorem ggL_law_X12_init : GoodIn wsL_law wsX12_init := goodIn_r _ [152, 153, 11, 12, 44, 154, 155, 156, 157, 158, 159, 160, 161, 162, 163, 164, 165, 166, 167, 168, 169, 170, 171, 172, 173, 174, 124, 175, 176, 177, 178, 147, 179, 180, 181, 182, 183, 184, 185, 1168, 1169, 1170, 1171, 1172, 1173, 1174, 1175, 1176, 1177, 1178, 1179, 1180, 1181, 1182, 1183, 1184, 1185, 1186, 1187, 1188, 1189, 1190, 1191, 1192, 1193, 1194, 1195, 1196, 1197, 1198, 1199, 1200, 1201, 1202, 1203, 1204, 1205, 1206, 1207, 1208, 1209, 1210, 1211, 1212] (by decide +kernel) (by decide +kernel)
set_option maxRecDepth 20000 in
theorem gL_law_X12_init : GoodIn wsL_law (wsX12_init) := ggL_law_X12_init
set_option maxRecDepth 20000 in
theorem ggL_law_X11_set : GoodIn wsL_law wsX11_set := goodIn_r _ [189, 16, 190, 191, 192, 193, 2, 194, 1156, 1157, 1158, 1159, 1160, 1161, 1162, 1163, 1164, 1165, 1166, 1167, 1213, 1214, 1215, 1216] (by decide +kernel) (by decide +kernel)
set_option maxRecDepth 20000 in
theorem gL_law_X11_set : GoodIn wsL_law (wsV RL 13 RX11 yX11_set wsX11_set) := goodIn_app (goodIn_of _ (by decide +kernel)) ggL_law_X11_set
set_option maxRecDepth 20000 in
theorem ggL_law_X12_set : GoodIn wsL_law wsX12_set := goodIn_r _ [198, 154, 199, 200, 5, 201, 202, 203, 204, 205, 206, 207, 208, 209, 210, 211, 212, 213, 214, 215, 1168, 1169, 1170, 1171, 1172, 1173, 1174, 1175, 1176, 1177, 1178, 1179, 1180, 1181, 1182, 1183, 1184, 1185, 1186, 1187, 1188, 1189, 1190, 1191, 1192, 1193, 1194, 1195, 1196, 1197, 1198, 1199, 1200, 1201, 1202, 1203, 1204, 1205, 1206, 1207, 1208, 1209, 1210, 1211, 1212] (by decide +kernel) (by decide +kernel)
