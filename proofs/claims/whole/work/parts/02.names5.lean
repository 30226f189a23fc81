theorem dX12_work_37 : decode cX12_work 37 = .ok (.invokestatic 128, 3) := by decide +kernel
theorem dX12_work_40 : decode cX12_work 40 = .ok (.ireturn, 1) := by decide +kernel
set_option maxRecDepth 20000 in
theorem ggX12_isRight_X12_orderOf : GoodIn wsX12_isRight wsX12_orderOf := goodIn_r _ [8, 9, 54, 55, 56, 57, 58, 59, 60, 61, 62, 63, 64, 65, 66, 67, 68, 69, 70, 71, 72, 73, 74, 75, 76, 77, 78, 79, 80, 81, 82, 83, 84, 85, 86, 87, 88, 89, 90, 91, 92, 93, 94, 95, 96, 97, 98] (by decide +kernel) (by decide +kernel)
set_option maxRecDepth 20000 in
theorem gX12_isRight_X12_orderOf : GoodIn wsX12_isRight (wsV RX12 145 RX12 yX12_orderOf wsX12_orderOf) := goodIn_app (goodIn_of _ (by decide +kernel)) ggX12_isRight_X12_orderOf
set_option maxRecDepth 20000 in
theorem ggX12_isRight_X12_works : GoodIn wsX12_isRight wsX12_works := goodIn_r _ [13, 9, 14, 15, 16, 7, 17, 18, 19, 20, 21, 22, 1, 23, 24, 25, 26, 27, 28, 29, 30, 31, 32, 33, 34, 35, 36, 37, 38, 39, 40, 41, 42, 3, 4, 5, 6, 8, 43, 44, 45, 46, 54, 55, 56, 57, 58, 59, 60, 61, 62, 63, 64, 65, 66, 67, 68, 69, 70, 71, 72, 73, 74, 75, 76, 77, 78, 79, 80, 81, 82, 83, 84, 85, 86, 87, 88, 89, 90, 91, 92, 93, 94, 95, 96, 97, 98] (by decide +kernel) (by decide +kernel)
set_option maxRecDepth 20000 in
theorem gX12_isRight_X12_works : GoodIn wsX12_isRight (wsV RX12 169 RX12 yX12_works wsX12_works) := goodIn_app (goodIn_of _ (by decide +kernel)) ggX12_isRight_X12_works
set_option maxRecDepth 20000 in
theorem ggX12_isRight_X12_degreeOf : GoodIn wsX12_isRight wsX12_degreeOf := goodIn_r _ [50, 23, 54, 55, 56, 57, 58, 59, 60, 61, 62, 63, 64, 65, 66, 67, 68, 69, 70, 71, 72, 73, 74, 75, 76, 77, 78, 79, 80, 81, 82, 83, 84, 85, 86, 87, 88, 89, 90, 91, 92, 93, 94, 95, 96, 97, 98] (by decide +kernel) (by decide +kernel)
set_option maxRecDepth 20000 in
theorem gX12_isRight_X12_degreeOf : GoodIn wsX12_isRight (wsV RX12 131 RX12 yX12_degreeOf wsX12_degreeOf) := goodIn_app (goodIn_of _ (by decide +kernel)) ggX12_isRight_X12_degreeOf
set_option maxRecDepth 20000 in
theorem ggX12_isRight_X12_inverse : GoodIn wsX12_isRight wsX12_inverse := goodIn_r _ [53] (by decide +kernel) (by decide +kernel)
set_option maxRecDepth 20000 in
theorem gX12_isRight_X12_inverse : GoodIn wsX12_isRight (va_wsS RX12 172 yX12_inverse wsX12_inverse) := goodIn_app (goodIn_of _ (by decide +kernel)) ggX12_isRight_X12_inverse
theorem dX12_isRight_0 : decode cX12_isRight 0 = .ok (.aload_n 0, 1) := by decide +kernel
theorem dX12_isRight_1 : decode cX12_isRight 1 = .ok (.invokevirtual 145, 3) := by decide +kernel
theorem dX12_isRight_4 : decode cX12_isRight 4 = .ok (.istore_n 1, 1) := by decide +kernel
theorem dX12_isRight_5 : decode cX12_isRight 5 = .ok (.aload_n 0, 1) := by decide +kernel
theorem dX12_isRight_6 : decode cX12_isRight 6 = .ok (.invokevirtual 169, 3) := by decide +kernel
theorem dX12_isRight_9 : decode cX12_isRight 9 = .ok (.iload_n 1, 1) := by decide +kernel
theorem dX12_isRight_10 : decode cX12_isRight 10 = .ok (.ifCond .ne 7, 3) := by decide +kernel
theorem dX12_isRight_13 : decode cX12_isRight 13 = .ok (.iconst 0, 1) := by decide +kernel
theorem dX12_isRight_14 : decode cX12_isRight 14 = .ok (.goto 6, 3) := by decide +kernel
theorem dX12_isRight_17 : decode cX12_isRight 17 = .ok (.iload_n 1, 1) := by decide +kernel
theorem dX12_isRight_18 : decode cX12_isRight 18 = .ok (.iconst 1, 1) := by decide +kernel
theorem dX12_isRight_19 : decode cX12_isRight 19 = .ok (.isub, 1) := by decide +kernel
theorem dX12_isRight_20 : decode cX12_isRight 20 = .ok (.istore_n 2, 1) := by decide +kernel
theorem dX12_isRight_21 : decode cX12_isRight 21 = .ok (.aload_n 0, 1) := by decide +kernel
theorem dX12_isRight_22 : decode cX12_isRight 22 = .ok (.invokevirtual 131, 3) := by decide +kernel
theorem dX12_isRight_25 : decode cX12_isRight 25 = .ok (.iload_n 2, 1) := by decide +kernel
theorem dX12_isRight_26 : decode cX12_isRight 26 = .ok (.imul, 1) := by decide +kernel
theorem dX12_isRight_27 : decode cX12_isRight 27 = .ok (.istore_n 3, 1) := by decide +kernel
theorem dX12_isRight_28 : decode cX12_isRight 28 = .ok (.aload_n 0, 1) := by decide +kernel
theorem dX12_isRight_29 : decode cX12_isRight 29 = .ok (.getfield 24, 3) := by decide +kernel
theorem dX12_isRight_32 : decode cX12_isRight 32 = .ok (.bipush 25, 2) := by decide +kernel
theorem dX12_isRight_34 : decode cX12_isRight 34 = .ok (.iload_n 2, 1) := by decide +kernel
theorem dX12_isRight_35 : decode cX12_isRight 35 = .ok (.imul, 1) := by decide +kernel
theorem dX12_isRight_36 : decode cX12_isRight 36 = .ok (.iload_n 3, 1) := by decide +kernel
theorem dX12_isRight_37 : decode cX12_isRight 37 = .ok (.iadd, 1) := by decide +kernel
theorem dX12_isRight_38 : decode cX12_isRight 38 = .ok (.iaload, 1) := by decide +kernel
theorem dX12_isRight_39 : decode cX12_isRight 39 = .ok (.invokestatic 172, 3) := by decide +kernel
theorem dX12_isRight_42 : decode cX12_isRight 42 = .ok (.istore 4, 2) := by decide +kernel
theorem dX12_isRight_44 : decode cX12_isRight 44 = .ok (.iconst 1, 1) := by decide +kernel
theorem dX12_isRight_45 : decode cX12_isRight 45 = .ok (.istore 5, 2) := by decide +kernel
theorem dX12_isRight_47 : decode cX12_isRight 47 = .ok (.iconst 0, 1) := by decide +kernel
theorem dX12_isRight_48 : decode cX12_isRight 48 = .ok (.istore 6, 2) := by decide +kernel
theorem dX12_isRight_50 : decode cX12_isRight 50 = .ok (.iload 6, 2) := by decide +kernel
theorem dX12_isRight_52 : decode cX12_isRight 52 = .ok (.bipush 9, 2) := by decide +kernel
theorem dX12_isRight_54 : decode cX12_isRight 54 = .ok (.if_icmp .ge 111, 3) := by decide +kernel
theorem dX12_isRight_57 : decode cX12_isRight 57 = .ok (.aload_n 0, 1) := by decide +kernel
theorem dX12_isRight_58 : decode cX12_isRight 58 = .ok (.getfield 33, 3) := by decide +kernel
theorem dX12_isRight_61 : decode cX12_isRight 61 = .ok (.iload 6, 2) := by decide +kernel
theorem dX12_isRight_63 : decode cX12_isRight 63 = .ok (.iload_n 1, 1) := by decide +kernel
theorem dX12_isRight_64 : decode cX12_isRight 64 = .ok (.ifCond .ne 7, 3) := by decide +kernel
theorem dX12_isRight_67 : decode cX12_isRight 67 = .ok (.iconst 0, 1) := by decide +kernel
theorem dX12_isRight_68 : decode cX12_isRight 68 = .ok (.goto 22, 3) := by decide +kernel
theorem dX12_isRight_71 : decode cX12_isRight 71 = .ok (.aload_n 0, 1) := by decide +kernel
theorem dX12_isRight_72 : decode cX12_isRight 72 = .ok (.getfield 30, 3) := by decide +kernel
theorem dX12_isRight_75 : decode cX12_isRight 75 = .ok (.bipush 9, 2) := by decide +kernel
theorem dX12_isRight_77 : decode cX12_isRight 77 = .ok (.iload_n 3, 1) := by decide +kernel
theorem dX12_isRight_78 : decode cX12_isRight 78 = .ok (.imul, 1) := by decide +kernel
theorem dX12_isRight_79 : decode cX12_isRight 79 = .ok (.iload 6, 2) := by decide +kernel
theorem dX12_isRight_81 : decode cX12_isRight 81 = .ok (.iadd, 1) := by decide +kernel
theorem dX12_isRight_82 : decode cX12_isRight 82 = .ok (.iaload, 1) := by decide +kernel
theorem dX12_isRight_83 : decode cX12_isRight 83 = .ok (.iload 4, 2) := by decide +kernel
theorem dX12_isRight_85 : decode cX12_isRight 85 = .ok (.imul, 1) := by decide +kernel
theorem dX12_isRight_86 : decode cX12_isRight 86 = .ok (.sipush 10007, 3) := by decide +kernel
theorem dX12_isRight_89 : decode cX12_isRight 89 = .ok (.irem, 1) := by decide +kernel
theorem dX12_isRight_90 : decode cX12_isRight 90 = .ok (.iastore, 1) := by decide +kernel
theorem dX12_isRight_91 : decode cX12_isRight 91 = .ok (.iconst 0, 1) := by decide +kernel
theorem dX12_isRight_92 : decode cX12_isRight 92 = .ok (.istore 7, 2) := by decide +kernel
theorem dX12_isRight_94 : decode cX12_isRight 94 = .ok (.iload 7, 2) := by decide +kernel
theorem dX12_isRight_96 : decode cX12_isRight 96 = .ok (.bipush 25, 2) := by decide +kernel
theorem dX12_isRight_98 : decode cX12_isRight 98 = .ok (.if_icmp .ge 61, 3) := by decide +kernel
theorem dX12_isRight_101 : decode cX12_isRight 101 = .ok (.iload 5, 2) := by decide +kernel
theorem dX12_isRight_103 : decode cX12_isRight 103 = .ok (.ifCond .eq 47, 3) := by decide +kernel
theorem dX12_isRight_106 : decode cX12_isRight 106 = .ok (.aload_n 0, 1) := by decide +kernel
theorem dX12_isRight_107 : decode cX12_isRight 107 = .ok (.getfield 30, 3) := by decide +kernel
theorem dX12_isRight_110 : decode cX12_isRight 110 = .ok (.bipush 9, 2) := by decide +kernel
theorem dX12_isRight_112 : decode cX12_isRight 112 = .ok (.iload 7, 2) := by decide +kernel
theorem dX12_isRight_114 : decode cX12_isRight 114 = .ok (.imul, 1) := by decide +kernel
theorem dX12_isRight_115 : decode cX12_isRight 115 = .ok (.iload 6, 2) := by decide +kernel
theorem dX12_isRight_117 : decode cX12_isRight 117 = .ok (.iadd, 1) := by decide +kernel
theorem dX12_isRight_118 : decode cX12_isRight 118 = .ok (.iaload, 1) := by decide +kernel
theorem dX12_isRight_119 : decode cX12_isRight 119 = .ok (.aload_n 0, 1) := by decide +kernel
theorem dX12_isRight_120 : decode cX12_isRight 120 = .ok (.getfield 33, 3) := by decide +kernel
theorem dX12_isRight_123 : decode cX12_isRight 123 = .ok (.iload 6, 2) := by decide +kernel
theorem dX12_isRight_125 : decode cX12_isRight 125 = .ok (.iaload, 1) := by decide +kernel
theorem dX12_isRight_126 : decode cX12_isRight 126 = .ok (.aload_n 0, 1) := by decide +kernel
theorem dX12_isRight_127 : decode cX12_isRight 127 = .ok (.getfield 24, 3) := by decide +kernel
theorem dX12_isRight_130 : decode cX12_isRight 130 = .ok (.bipush 25, 2) := by decide +kernel
theorem dX12_isRight_132 : decode cX12_isRight 132 = .ok (.iload_n 2, 1) := by decide +kernel
theorem dX12_isRight_133 : decode cX12_isRight 133 = .ok (.imul, 1) := by decide +kernel
theorem dX12_isRight_134 : decode cX12_isRight 134 = .ok (.iload 7, 2) := by decide +kernel
theorem dX12_isRight_136 : decode cX12_isRight 136 = .ok (.iadd, 1) := by decide +kernel
theorem dX12_isRight_137 : decode cX12_isRight 137 = .ok (.iaload, 1) := by decide +kernel
theorem dX12_isRight_138 : decode cX12_isRight 138 = .ok (.imul, 1) := by decide +kernel
theorem dX12_isRight_139 : decode cX12_isRight 139 = .ok (.sipush 10007, 3) := by decide +kernel
theorem dX12_isRight_142 : decode cX12_isRight 142 = .ok (.irem, 1) := by decide +kernel
theorem dX12_isRight_143 : decode cX12_isRight 143 = .ok (.if_icmp .ne 7, 3) := by decide +kernel
theorem dX12_isRight_146 : decode cX12_isRight 146 = .ok (.iconst 1, 1) := by decide +kernel
theorem dX12_isRight_147 : decode cX12_isRight 147 = .ok (.goto 4, 3) := by decide +kernel
theorem dX12_isRight_150 : decode cX12_isRight 150 = .ok (.iconst 0, 1) := by decide +kernel
theorem dX12_isRight_151 : decode cX12_isRight 151 = .ok (.istore 5, 2) := by decide +kernel
theorem dX12_isRight_153 : decode cX12_isRight 153 = .ok (.iinc 7 1, 3) := by decide +kernel
theorem dX12_isRight_156 : decode cX12_isRight 156 = .ok (.goto (-62), 3) := by decide +kernel
theorem dX12_isRight_159 : decode cX12_isRight 159 = .ok (.iinc 6 1, 3) := by decide +kernel
theorem dX12_isRight_162 : decode cX12_isRight 162 = .ok (.goto (-112), 3) := by decide +kernel
theorem dX12_isRight_165 : decode cX12_isRight 165 = .ok (.iload 5, 2) := by decide +kernel
theorem dX12_isRight_167 : decode cX12_isRight 167 = .ok (.ireturn, 1) := by decide +kernel
set_option maxRecDepth 20000 in
theorem ggX12_right_X12_isIn : GoodIn wsX12_right wsX12_isIn := goodIn_r _ [5] (by decide +kernel) (by decide +kernel)
set_option maxRecDepth 20000 in
theorem gX12_right_X12_isIn : GoodIn wsX12_right (va_wsS RX12 121 yX12_isIn wsX12_isIn) := goodIn_app (goodIn_of _ (by decide +kernel)) ggX12_right_X12_isIn
set_option maxRecDepth 20000 in
theorem ggX12_right_X12_degreeOf : GoodIn wsX12_right wsX12_degreeOf := goodIn_r _ [9, 10, 68, 69, 70, 71, 72, 73, 74, 75, 76, 77, 78, 79, 80, 81, 82, 83, 84, 85, 86, 87, 88, 89, 90, 91, 92, 93, 94, 95, 96, 97, 98, 99, 100, 101, 102, 103, 104, 105, 106, 107, 108, 109, 110, 111, 112] (by decide +kernel) (by decide +kernel)
set_option maxRecDepth 20000 in
theorem gX12_right_X12_degreeOf : GoodIn wsX12_right (wsV RX12 131 RX12 yX12_degreeOf wsX12_degreeOf) := goodIn_app (goodIn_of _ (by decide +kernel)) ggX12_right_X12_degreeOf
set_option maxRecDepth 20000 in
theorem ggX12_right_X12_isRight : GoodIn wsX12_right wsX12_isRight := goodIn_r _ [14, 15, 1, 16, 17, 18, 19, 4, 20, 21, 22, 23, 24, 25, 26, 27, 28, 29, 30, 31, 32, 33, 34, 10, 35, 36, 37, 38, 39, 40, 41, 42, 43, 44, 45, 46, 47, 48, 49, 50, 51, 52, 53, 54, 55, 56, 57, 6, 7, 8, 9, 58, 59, 60, 68, 69, 70, 71, 72, 73, 74, 75, 76, 77, 78, 79, 80, 81, 82, 83, 84, 85, 86, 87, 88, 89, 90, 91, 92, 93, 94, 95, 96, 97, 98, 99, 100, 101, 102, 103, 104, 105, 106, 107, 108, 109, 110, 111, 112] (by decide +kernel) (by decide +kernel)
set_option maxRecDepth 20000 in
theorem gX12_right_X12_isRight : GoodIn wsX12_right (wsV RX12 175 RX12 yX12_isRight wsX12_isRight) := goodIn_app (goodIn_of _ (by decide +kernel)) ggX12_right_X12_isRight
set_option maxRecDepth 20000 in
theorem ggX12_right_X12_told : GoodIn wsX12_right wsX12_told := goodIn_r _ [63, 64, 65, 66, 4, 67] (by decide +kernel) (by decide +kernel)
set_option maxRecDepth 20000 in
theorem gX12_right_X12_told : GoodIn wsX12_right (va_wsS RX12 128 yX12_told wsX12_told) := goodIn_app (goodIn_of _ (by decide +kernel)) ggX12_right_X12_told
theorem dX12_right_0 : decode cX12_right 0 = .ok (.iload_n 1, 1) := by decide +kernel
theorem dX12_right_1 : decode cX12_right 1 = .ok (.iconst (-1), 1) := by decide +kernel
theorem dX12_right_2 : decode cX12_right 2 = .ok (.bipush 8, 2) := by decide +kernel
theorem dX12_right_4 : decode cX12_right 4 = .ok (.invokestatic 121, 3) := by decide +kernel
theorem dX12_right_7 : decode cX12_right 7 = .ok (.ifCond .ne 5, 3) := by decide +kernel
theorem dX12_right_10 : decode cX12_right 10 = .ok (.iconst (-1), 1) := by decide +kernel
theorem dX12_right_11 : decode cX12_right 11 = .ok (.ireturn, 1) := by decide +kernel
theorem dX12_right_12 : decode cX12_right 12 = .ok (.aload_n 0, 1) := by decide +kernel
theorem dX12_right_13 : decode cX12_right 13 = .ok (.invokevirtual 131, 3) := by decide +kernel
theorem dX12_right_16 : decode cX12_right 16 = .ok (.iconst 1, 1) := by decide +kernel
theorem dX12_right_17 : decode cX12_right 17 = .ok (.if_icmp .ge 6, 3) := by decide +kernel
theorem dX12_right_20 : decode cX12_right 20 = .ok (.bipush (-3), 2) := by decide +kernel
theorem dX12_right_22 : decode cX12_right 22 = .ok (.ireturn, 1) := by decide +kernel
theorem dX12_right_23 : decode cX12_right 23 = .ok (.aload_n 0, 1) := by decide +kernel
theorem dX12_right_24 : decode cX12_right 24 = .ok (.invokevirtual 175, 3) := by decide +kernel
theorem dX12_right_27 : decode cX12_right 27 = .ok (.ifCond .ne 6, 3) := by decide +kernel
theorem dX12_right_30 : decode cX12_right 30 = .ok (.bipush (-5), 2) := by decide +kernel
theorem dX12_right_32 : decode cX12_right 32 = .ok (.ireturn, 1) := by decide +kernel
theorem dX12_right_33 : decode cX12_right 33 = .ok (.iload_n 1, 1) := by decide +kernel
theorem dX12_right_34 : decode cX12_right 34 = .ok (.ifCond .lt 13, 3) := by decide +kernel
theorem dX12_right_37 : decode cX12_right 37 = .ok (.aload_n 0, 1) := by decide +kernel
theorem dX12_right_38 : decode cX12_right 38 = .ok (.getfield 33, 3) := by decide +kernel
theorem dX12_right_41 : decode cX12_right 41 = .ok (.iload_n 1, 1) := by decide +kernel
theorem dX12_right_42 : decode cX12_right 42 = .ok (.iaload, 1) := by decide +kernel
theorem dX12_right_43 : decode cX12_right 43 = .ok (.invokestatic 128, 3) := by decide +kernel
theorem dX12_right_46 : decode cX12_right 46 = .ok (.ireturn, 1) := by decide +kernel
theorem dX12_right_47 : decode cX12_right 47 = .ok (.bipush 8, 2) := by decide +kernel
theorem dX12_right_49 : decode cX12_right 49 = .ok (.istore_n 2, 1) := by decide +kernel
theorem dX12_right_50 : decode cX12_right 50 = .ok (.iload_n 2, 1) := by decide +kernel
theorem dX12_right_51 : decode cX12_right 51 = .ok (.ifCond .lt 18, 3) := by decide +kernel
theorem dX12_right_54 : decode cX12_right 54 = .ok (.aload_n 0, 1) := by decide +kernel
theorem dX12_right_55 : decode cX12_right 55 = .ok (.getfield 33, 3) := by decide +kernel
theorem dX12_right_58 : decode cX12_right 58 = .ok (.iload_n 2, 1) := by decide +kernel
theorem dX12_right_59 : decode cX12_right 59 = .ok (.iaload, 1) := by decide +kernel
theorem dX12_right_60 : decode cX12_right 60 = .ok (.ifCond .ne 9, 3) := by decide +kernel
theorem dX12_right_63 : decode cX12_right 63 = .ok (.iinc 2 (-1), 3) := by decide +kernel
theorem dX12_right_66 : decode cX12_right 66 = .ok (.goto (-16), 3) := by decide +kernel
theorem dX12_right_69 : decode cX12_right 69 = .ok (.iload_n 2, 1) := by decide +kernel
theorem dX12_right_70 : decode cX12_right 70 = .ok (.ireturn, 1) := by decide +kernel
theorem dX12_lays_0 : decode cX12_lays 0 = .ok (.iconst 0, 1) := by decide +kernel
theorem dX12_lays_1 : decode cX12_lays 1 = .ok (.istore_n 2, 1) := by decide +kernel
theorem dX12_lays_2 : decode cX12_lays 2 = .ok (.iload_n 2, 1) := by decide +kernel
theorem dX12_lays_3 : decode cX12_lays 3 = .ok (.sipush 225, 3) := by decide +kernel
theorem dX12_lays_6 : decode cX12_lays 6 = .ok (.if_icmp .ge 26, 3) := by decide +kernel
theorem dX12_lays_9 : decode cX12_lays 9 = .ok (.aload_n 0, 1) := by decide +kernel
theorem dX12_lays_10 : decode cX12_lays 10 = .ok (.getfield 36, 3) := by decide +kernel
theorem dX12_lays_13 : decode cX12_lays 13 = .ok (.bipush 84, 2) := by decide +kernel
theorem dX12_lays_15 : decode cX12_lays 15 = .ok (.iload_n 2, 1) := by decide +kernel
theorem dX12_lays_16 : decode cX12_lays 16 = .ok (.imul, 1) := by decide +kernel
theorem dX12_lays_17 : decode cX12_lays 17 = .ok (.iload_n 1, 1) := by decide +kernel
theorem dX12_lays_18 : decode cX12_lays 18 = .ok (.iadd, 1) := by decide +kernel
theorem dX12_lays_19 : decode cX12_lays 19 = .ok (.aload_n 0, 1) := by decide +kernel
theorem dX12_lays_20 : decode cX12_lays 20 = .ok (.getfield 30, 3) := by decide +kernel
theorem dX12_lays_23 : decode cX12_lays 23 = .ok (.iload_n 2, 1) := by decide +kernel
theorem dX12_lays_24 : decode cX12_lays 24 = .ok (.iaload, 1) := by decide +kernel
theorem dX12_lays_25 : decode cX12_lays 25 = .ok (.iastore, 1) := by decide +kernel
theorem dX12_lays_26 : decode cX12_lays 26 = .ok (.iinc 2 1, 3) := by decide +kernel
theorem dX12_lays_29 : decode cX12_lays 29 = .ok (.goto (-27), 3) := by decide +kernel
theorem dX12_lays_32 : decode cX12_lays 32 = .ok (.return_, 1) := by decide +kernel
theorem dX12_swaps_0 : decode cX12_swaps 0 = .ok (.iconst 0, 1) := by decide +kernel
theorem dX12_swaps_1 : decode cX12_swaps 1 = .ok (.istore_n 3, 1) := by decide +kernel
theorem dX12_swaps_2 : decode cX12_swaps 2 = .ok (.iload_n 3, 1) := by decide +kernel
theorem dX12_swaps_3 : decode cX12_swaps 3 = .ok (.bipush 84, 2) := by decide +kernel
theorem dX12_swaps_5 : decode cX12_swaps 5 = .ok (.if_icmp .ge 57, 3) := by decide +kernel
theorem dX12_swaps_8 : decode cX12_swaps 8 = .ok (.aload_n 0, 1) := by decide +kernel
theorem dX12_swaps_9 : decode cX12_swaps 9 = .ok (.getfield 36, 3) := by decide +kernel
theorem dX12_swaps_12 : decode cX12_swaps 12 = .ok (.bipush 84, 2) := by decide +kernel
theorem dX12_swaps_14 : decode cX12_swaps 14 = .ok (.iload_n 1, 1) := by decide +kernel
theorem dX12_swaps_15 : decode cX12_swaps 15 = .ok (.imul, 1) := by decide +kernel
theorem dX12_swaps_16 : decode cX12_swaps 16 = .ok (.iload_n 3, 1) := by decide +kernel
theorem dX12_swaps_17 : decode cX12_swaps 17 = .ok (.iadd, 1) := by decide +kernel
theorem dX12_swaps_18 : decode cX12_swaps 18 = .ok (.iaload, 1) := by decide +kernel
theorem dX12_swaps_19 : decode cX12_swaps 19 = .ok (.istore 4, 2) := by decide +kernel
theorem dX12_swaps_21 : decode cX12_swaps 21 = .ok (.aload_n 0, 1) := by decide +kernel
theorem dX12_swaps_22 : decode cX12_swaps 22 = .ok (.getfield 36, 3) := by decide +kernel
theorem dX12_swaps_25 : decode cX12_swaps 25 = .ok (.bipush 84, 2) := by decide +kernel
theorem dX12_swaps_27 : decode cX12_swaps 27 = .ok (.iload_n 1, 1) := by decide +kernel
theorem dX12_swaps_28 : decode cX12_swaps 28 = .ok (.imul, 1) := by decide +kernel
theorem dX12_swaps_29 : decode cX12_swaps 29 = .ok (.iload_n 3, 1) := by decide +kernel
theorem dX12_swaps_30 : decode cX12_swaps 30 = .ok (.iadd, 1) := by decide +kernel
theorem dX12_swaps_31 : decode cX12_swaps 31 = .ok (.aload_n 0, 1) := by decide +kernel
theorem dX12_swaps_32 : decode cX12_swaps 32 = .ok (.getfield 36, 3) := by decide +kernel
theorem dX12_swaps_35 : decode cX12_swaps 35 = .ok (.bipush 84, 2) := by decide +kernel
theorem dX12_swaps_37 : decode cX12_swaps 37 = .ok (.iload_n 2, 1) := by decide +kernel
theorem dX12_swaps_38 : decode cX12_swaps 38 = .ok (.imul, 1) := by decide +kernel
theorem dX12_swaps_39 : decode cX12_swaps 39 = .ok (.iload_n 3, 1) := by decide +kernel
theorem dX12_swaps_40 : decode cX12_swaps 40 = .ok (.iadd, 1) := by decide +kernel
theorem dX12_swaps_41 : decode cX12_swaps 41 = .ok (.iaload, 1) := by decide +kernel
theorem dX12_swaps_42 : decode cX12_swaps 42 = .ok (.iastore, 1) := by decide +kernel
theorem dX12_swaps_43 : decode cX12_swaps 43 = .ok (.aload_n 0, 1) := by decide +kernel
theorem dX12_swaps_44 : decode cX12_swaps 44 = .ok (.getfield 36, 3) := by decide +kernel
theorem dX12_swaps_47 : decode cX12_swaps 47 = .ok (.bipush 84, 2) := by decide +kernel
theorem dX12_swaps_49 : decode cX12_swaps 49 = .ok (.iload_n 2, 1) := by decide +kernel
theorem dX12_swaps_50 : decode cX12_swaps 50 = .ok (.imul, 1) := by decide +kernel
theorem dX12_swaps_51 : decode cX12_swaps 51 = .ok (.iload_n 3, 1) := by decide +kernel
theorem dX12_swaps_52 : decode cX12_swaps 52 = .ok (.iadd, 1) := by decide +kernel
theorem dX12_swaps_53 : decode cX12_swaps 53 = .ok (.iload 4, 2) := by decide +kernel
theorem dX12_swaps_55 : decode cX12_swaps 55 = .ok (.iastore, 1) := by decide +kernel
theorem dX12_swaps_56 : decode cX12_swaps 56 = .ok (.iinc 3 1, 3) := by decide +kernel
theorem dX12_swaps_59 : decode cX12_swaps 59 = .ok (.goto (-57), 3) := by decide +kernel
theorem dX12_swaps_62 : decode cX12_swaps 62 = .ok (.return_, 1) := by decide +kernel
set_option maxRecDepth 20000 in
theorem ggX12_reduces_X12_inverse : GoodIn wsX12_reduces wsX12_inverse := goodIn_r _ [5] (by decide +kernel) (by decide +kernel)
set_option maxRecDepth 20000 in
theorem gX12_reduces_X12_inverse : GoodIn wsX12_reduces (va_wsS RX12 172 yX12_inverse wsX12_inverse) := goodIn_app (goodIn_of _ (by decide +kernel)) ggX12_reduces_X12_inverse
set_option maxRecDepth 20000 in
theorem ggX12_reduces_X12_modulo : GoodIn wsX12_reduces wsX12_modulo := goodIn_r _ [8, 9, 10, 11, 12] (by decide +kernel) (by decide +kernel)
set_option maxRecDepth 20000 in
theorem gX12_reduces_X12_modulo : GoodIn wsX12_reduces (va_wsS RX12 125 yX12_modulo wsX12_modulo) := goodIn_app (goodIn_of _ (by decide +kernel)) ggX12_reduces_X12_modulo
theorem dX12_reduces_0 : decode cX12_reduces 0 = .ok (.aload_n 0, 1) := by decide +kernel
theorem dX12_reduces_1 : decode cX12_reduces 1 = .ok (.getfield 36, 3) := by decide +kernel
theorem dX12_reduces_4 : decode cX12_reduces 4 = .ok (.bipush 84, 2) := by decide +kernel
theorem dX12_reduces_6 : decode cX12_reduces 6 = .ok (.iload_n 1, 1) := by decide +kernel
theorem dX12_reduces_7 : decode cX12_reduces 7 = .ok (.imul, 1) := by decide +kernel
theorem dX12_reduces_8 : decode cX12_reduces 8 = .ok (.iload_n 2, 1) := by decide +kernel
theorem dX12_reduces_9 : decode cX12_reduces 9 = .ok (.iadd, 1) := by decide +kernel
theorem dX12_reduces_10 : decode cX12_reduces 10 = .ok (.iaload, 1) := by decide +kernel
theorem dX12_reduces_11 : decode cX12_reduces 11 = .ok (.invokestatic 172, 3) := by decide +kernel
theorem dX12_reduces_14 : decode cX12_reduces 14 = .ok (.istore 4, 2) := by decide +kernel
theorem dX12_reduces_16 : decode cX12_reduces 16 = .ok (.iload_n 2, 1) := by decide +kernel
theorem dX12_reduces_17 : decode cX12_reduces 17 = .ok (.istore 5, 2) := by decide +kernel
theorem dX12_reduces_19 : decode cX12_reduces 19 = .ok (.iload 5, 2) := by decide +kernel
theorem dX12_reduces_21 : decode cX12_reduces 21 = .ok (.iload_n 3, 1) := by decide +kernel
theorem dX12_reduces_22 : decode cX12_reduces 22 = .ok (.if_icmp .ge 40, 3) := by decide +kernel
theorem dX12_reduces_25 : decode cX12_reduces 25 = .ok (.aload_n 0, 1) := by decide +kernel
theorem dX12_reduces_26 : decode cX12_reduces 26 = .ok (.getfield 36, 3) := by decide +kernel
theorem dX12_reduces_29 : decode cX12_reduces 29 = .ok (.bipush 84, 2) := by decide +kernel
theorem dX12_reduces_31 : decode cX12_reduces 31 = .ok (.iload_n 1, 1) := by decide +kernel
theorem dX12_reduces_32 : decode cX12_reduces 32 = .ok (.imul, 1) := by decide +kernel
theorem dX12_reduces_33 : decode cX12_reduces 33 = .ok (.iload 5, 2) := by decide +kernel
theorem dX12_reduces_35 : decode cX12_reduces 35 = .ok (.iadd, 1) := by decide +kernel
theorem dX12_reduces_36 : decode cX12_reduces 36 = .ok (.aload_n 0, 1) := by decide +kernel
theorem dX12_reduces_37 : decode cX12_reduces 37 = .ok (.getfield 36, 3) := by decide +kernel
theorem dX12_reduces_40 : decode cX12_reduces 40 = .ok (.bipush 84, 2) := by decide +kernel
theorem dX12_reduces_42 : decode cX12_reduces 42 = .ok (.iload_n 1, 1) := by decide +kernel
theorem dX12_reduces_43 : decode cX12_reduces 43 = .ok (.imul, 1) := by decide +kernel
theorem dX12_reduces_44 : decode cX12_reduces 44 = .ok (.iload 5, 2) := by decide +kernel
theorem dX12_reduces_46 : decode cX12_reduces 46 = .ok (.iadd, 1) := by decide +kernel
theorem dX12_reduces_47 : decode cX12_reduces 47 = .ok (.iaload, 1) := by decide +kernel
theorem dX12_reduces_48 : decode cX12_reduces 48 = .ok (.iload 4, 2) := by decide +kernel
theorem dX12_reduces_50 : decode cX12_reduces 50 = .ok (.imul, 1) := by decide +kernel
theorem dX12_reduces_51 : decode cX12_reduces 51 = .ok (.sipush 10007, 3) := by decide +kernel
theorem dX12_reduces_54 : decode cX12_reduces 54 = .ok (.irem, 1) := by decide +kernel
theorem dX12_reduces_55 : decode cX12_reduces 55 = .ok (.iastore, 1) := by decide +kernel
theorem dX12_reduces_56 : decode cX12_reduces 56 = .ok (.iinc 5 1, 3) := by decide +kernel
theorem dX12_reduces_59 : decode cX12_reduces 59 = .ok (.goto (-40), 3) := by decide +kernel
theorem dX12_reduces_62 : decode cX12_reduces 62 = .ok (.iconst 0, 1) := by decide +kernel
theorem dX12_reduces_63 : decode cX12_reduces 63 = .ok (.istore 5, 2) := by decide +kernel
theorem dX12_reduces_65 : decode cX12_reduces 65 = .ok (.iload 5, 2) := by decide +kernel
theorem dX12_reduces_67 : decode cX12_reduces 67 = .ok (.sipush 225, 3) := by decide +kernel
theorem dX12_reduces_70 : decode cX12_reduces 70 = .ok (.if_icmp .ge 102, 3) := by decide +kernel
theorem dX12_reduces_73 : decode cX12_reduces 73 = .ok (.iload 5, 2) := by decide +kernel
theorem dX12_reduces_75 : decode cX12_reduces 75 = .ok (.iload_n 1, 1) := by decide +kernel
theorem dX12_reduces_76 : decode cX12_reduces 76 = .ok (.if_icmp .ne 7, 3) := by decide +kernel
theorem dX12_reduces_79 : decode cX12_reduces 79 = .ok (.iconst 0, 1) := by decide +kernel
theorem dX12_reduces_80 : decode cX12_reduces 80 = .ok (.goto 15, 3) := by decide +kernel
theorem dX12_reduces_83 : decode cX12_reduces 83 = .ok (.aload_n 0, 1) := by decide +kernel
theorem dX12_reduces_84 : decode cX12_reduces 84 = .ok (.getfield 36, 3) := by decide +kernel
theorem dX12_reduces_87 : decode cX12_reduces 87 = .ok (.bipush 84, 2) := by decide +kernel
theorem dX12_reduces_89 : decode cX12_reduces 89 = .ok (.iload 5, 2) := by decide +kernel
theorem dX12_reduces_91 : decode cX12_reduces 91 = .ok (.imul, 1) := by decide +kernel
theorem dX12_reduces_92 : decode cX12_reduces 92 = .ok (.iload_n 2, 1) := by decide +kernel
theorem dX12_reduces_93 : decode cX12_reduces 93 = .ok (.iadd, 1) := by decide +kernel
theorem dX12_reduces_94 : decode cX12_reduces 94 = .ok (.iaload, 1) := by decide +kernel
theorem dX12_reduces_95 : decode cX12_reduces 95 = .ok (.istore 6, 2) := by decide +kernel
theorem dX12_reduces_97 : decode cX12_reduces 97 = .ok (.iload_n 2, 1) := by decide +kernel
theorem dX12_reduces_98 : decode cX12_reduces 98 = .ok (.istore 7, 2) := by decide +kernel
theorem dX12_reduces_100 : decode cX12_reduces 100 = .ok (.iload 7, 2) := by decide +kernel
theorem dX12_reduces_102 : decode cX12_reduces 102 = .ok (.iload_n 3, 1) := by decide +kernel
theorem dX12_reduces_103 : decode cX12_reduces 103 = .ok (.if_icmp .ge 63, 3) := by decide +kernel
theorem dX12_reduces_106 : decode cX12_reduces 106 = .ok (.iload 6, 2) := by decide +kernel
theorem dX12_reduces_108 : decode cX12_reduces 108 = .ok (.ifCond .le 58, 3) := by decide +kernel
theorem dX12_reduces_111 : decode cX12_reduces 111 = .ok (.aload_n 0, 1) := by decide +kernel
theorem dX12_reduces_112 : decode cX12_reduces 112 = .ok (.getfield 36, 3) := by decide +kernel
theorem dX12_reduces_115 : decode cX12_reduces 115 = .ok (.bipush 84, 2) := by decide +kernel
theorem dX12_reduces_117 : decode cX12_reduces 117 = .ok (.iload 5, 2) := by decide +kernel
theorem dX12_reduces_119 : decode cX12_reduces 119 = .ok (.imul, 1) := by decide +kernel
theorem dX12_reduces_120 : decode cX12_reduces 120 = .ok (.iload 7, 2) := by decide +kernel
theorem dX12_reduces_122 : decode cX12_reduces 122 = .ok (.iadd, 1) := by decide +kernel
theorem dX12_reduces_123 : decode cX12_reduces 123 = .ok (.aload_n 0, 1) := by decide +kernel
theorem dX12_reduces_124 : decode cX12_reduces 124 = .ok (.getfield 36, 3) := by decide +kernel
theorem dX12_reduces_127 : decode cX12_reduces 127 = .ok (.bipush 84, 2) := by decide +kernel
theorem dX12_reduces_129 : decode cX12_reduces 129 = .ok (.iload 5, 2) := by decide +kernel
theorem dX12_reduces_131 : decode cX12_reduces 131 = .ok (.imul, 1) := by decide +kernel
theorem dX12_reduces_132 : decode cX12_reduces 132 = .ok (.iload 7, 2) := by decide +kernel
theorem dX12_reduces_134 : decode cX12_reduces 134 = .ok (.iadd, 1) := by decide +kernel
theorem dX12_reduces_135 : decode cX12_reduces 135 = .ok (.iaload, 1) := by decide +kernel
theorem dX12_reduces_136 : decode cX12_reduces 136 = .ok (.iload 6, 2) := by decide +kernel
theorem dX12_reduces_138 : decode cX12_reduces 138 = .ok (.aload_n 0, 1) := by decide +kernel
theorem dX12_reduces_139 : decode cX12_reduces 139 = .ok (.getfield 36, 3) := by decide +kernel
theorem dX12_reduces_142 : decode cX12_reduces 142 = .ok (.bipush 84, 2) := by decide +kernel
theorem dX12_reduces_144 : decode cX12_reduces 144 = .ok (.iload_n 1, 1) := by decide +kernel
theorem dX12_reduces_145 : decode cX12_reduces 145 = .ok (.imul, 1) := by decide +kernel
theorem dX12_reduces_146 : decode cX12_reduces 146 = .ok (.iload 7, 2) := by decide +kernel
theorem dX12_reduces_148 : decode cX12_reduces 148 = .ok (.iadd, 1) := by decide +kernel
theorem dX12_reduces_149 : decode cX12_reduces 149 = .ok (.iaload, 1) := by decide +kernel
theorem dX12_reduces_150 : decode cX12_reduces 150 = .ok (.imul, 1) := by decide +kernel
theorem dX12_reduces_151 : decode cX12_reduces 151 = .ok (.sipush 10007, 3) := by decide +kernel
theorem dX12_reduces_154 : decode cX12_reduces 154 = .ok (.irem, 1) := by decide +kernel
theorem dX12_reduces_155 : decode cX12_reduces 155 = .ok (.isub, 1) := by decide +kernel
theorem dX12_reduces_156 : decode cX12_reduces 156 = .ok (.invokestatic 125, 3) := by decide +kernel
theorem dX12_reduces_159 : decode cX12_reduces 159 = .ok (.iastore, 1) := by decide +kernel
theorem dX12_reduces_160 : decode cX12_reduces 160 = .ok (.iinc 7 1, 3) := by decide +kernel
theorem dX12_reduces_163 : decode cX12_reduces 163 = .ok (.goto (-63), 3) := by decide +kernel
theorem dX12_reduces_166 : decode cX12_reduces 166 = .ok (.iinc 5 1, 3) := by decide +kernel
theorem dX12_reduces_169 : decode cX12_reduces 169 = .ok (.goto (-104), 3) := by decide +kernel
theorem dX12_reduces_172 : decode cX12_reduces 172 = .ok (.return_, 1) := by decide +kernel
theorem dX12_pivotRow_0 : decode cX12_pivotRow 0 = .ok (.iload_n 1, 1) := by decide +kernel
theorem dX12_pivotRow_1 : decode cX12_pivotRow 1 = .ok (.istore_n 3, 1) := by decide +kernel
theorem dX12_pivotRow_2 : decode cX12_pivotRow 2 = .ok (.iload_n 3, 1) := by decide +kernel
theorem dX12_pivotRow_3 : decode cX12_pivotRow 3 = .ok (.sipush 225, 3) := by decide +kernel
theorem dX12_pivotRow_6 : decode cX12_pivotRow 6 = .ok (.if_icmp .ge 23, 3) := by decide +kernel
theorem dX12_pivotRow_9 : decode cX12_pivotRow 9 = .ok (.aload_n 0, 1) := by decide +kernel
theorem dX12_pivotRow_10 : decode cX12_pivotRow 10 = .ok (.getfield 36, 3) := by decide +kernel
theorem dX12_pivotRow_13 : decode cX12_pivotRow 13 = .ok (.bipush 84, 2) := by decide +kernel
theorem dX12_pivotRow_15 : decode cX12_pivotRow 15 = .ok (.iload_n 3, 1) := by decide +kernel
theorem dX12_pivotRow_16 : decode cX12_pivotRow 16 = .ok (.imul, 1) := by decide +kernel
theorem dX12_pivotRow_17 : decode cX12_pivotRow 17 = .ok (.iload_n 2, 1) := by decide +kernel
theorem dX12_pivotRow_18 : decode cX12_pivotRow 18 = .ok (.iadd, 1) := by decide +kernel
theorem dX12_pivotRow_19 : decode cX12_pivotRow 19 = .ok (.iaload, 1) := by decide +kernel
theorem dX12_pivotRow_20 : decode cX12_pivotRow 20 = .ok (.ifCond .ne 9, 3) := by decide +kernel
theorem dX12_pivotRow_23 : decode cX12_pivotRow 23 = .ok (.iinc 3 1, 3) := by decide +kernel
theorem dX12_pivotRow_26 : decode cX12_pivotRow 26 = .ok (.goto (-24), 3) := by decide +kernel
theorem dX12_pivotRow_29 : decode cX12_pivotRow 29 = .ok (.iload_n 3, 1) := by decide +kernel
theorem dX12_pivotRow_30 : decode cX12_pivotRow 30 = .ok (.ireturn, 1) := by decide +kernel
set_option maxRecDepth 20000 in
theorem ggX12_laysColumns_X12_tellsLefts : GoodIn wsX12_laysColumns wsX12_tellsLefts := goodIn_r _ [8, 9, 10, 11, 12, 7, 13, 3, 14, 15, 16, 17, 18, 19, 20, 21, 22, 23, 24, 25, 26, 27, 28, 29, 46, 47, 48, 49, 50, 51, 52, 53, 54, 55, 56, 57, 58, 59, 60, 61, 62, 63, 64, 65, 66, 67, 68, 69, 70, 71, 72, 73, 74, 75, 76, 77, 78, 79, 80, 81, 82, 83, 84, 85, 86, 87, 88, 89, 90] (by decide +kernel) (by decide +kernel)
set_option maxRecDepth 20000 in
theorem gX12_laysColumns_X12_tellsLefts : GoodIn wsX12_laysColumns (wsV RX12 159 RX12 yX12_tellsLefts wsX12_tellsLefts) := goodIn_app (goodIn_of _ (by decide +kernel)) ggX12_laysColumns_X12_tellsLefts
set_option maxRecDepth 20000 in
theorem ggX12_laysColumns_X12_clears : GoodIn wsX12_laysColumns wsX12_clears := goodIn_r _ [33, 2, 46, 47, 48, 49, 50, 51, 52, 53, 54, 55, 56, 57, 58, 59, 60, 61, 62, 63, 64, 65, 66, 67, 68, 69, 70, 71, 72, 73, 74, 75, 76, 77, 78, 79, 80, 81, 82, 83, 84, 85, 86, 87, 88, 89, 90] (by decide +kernel) (by decide +kernel)
set_option maxRecDepth 20000 in
theorem gX12_laysColumns_X12_clears : GoodIn wsX12_laysColumns (wsV RX12 162 RX12 yX12_clears wsX12_clears) := goodIn_app (goodIn_of _ (by decide +kernel)) ggX12_laysColumns_X12_clears
set_option maxRecDepth 20000 in
theorem ggX12_laysColumns_X12_brings : GoodIn wsX12_laysColumns wsX12_brings := goodIn_r _ [37, 9, 3, 2, 46, 47, 48, 49, 50, 51, 52, 53, 54, 55, 56, 57, 58, 59, 60, 61, 62, 63, 64, 65, 66, 67, 68, 69, 70, 71, 72, 73, 74, 75, 76, 77, 78, 79, 80, 81, 82, 83, 84, 85, 86, 87, 88, 89, 90] (by decide +kernel) (by decide +kernel)
set_option maxRecDepth 20000 in
theorem gX12_laysColumns_X12_brings : GoodIn wsX12_laysColumns (wsV RX12 165 RX12 yX12_brings wsX12_brings) := goodIn_app (goodIn_of _ (by decide +kernel)) ggX12_laysColumns_X12_brings
set_option maxRecDepth 20000 in
theorem ggX12_laysColumns_X12_lays : GoodIn wsX12_laysColumns wsX12_lays := goodIn_r _ [41, 42, 2, 46, 47, 48, 49, 50, 51, 52, 53, 54, 55, 56, 57, 58, 59, 60, 61, 62, 63, 64, 65, 66, 67, 68, 69, 70, 71, 72, 73, 74, 75, 76, 77, 78, 79, 80, 81, 82, 83, 84, 85, 86, 87, 88, 89, 90] (by decide +kernel) (by decide +kernel)
set_option maxRecDepth 20000 in
theorem gX12_laysColumns_X12_lays : GoodIn wsX12_laysColumns (wsV RX12 179 RX12 yX12_lays wsX12_lays) := goodIn_app (goodIn_of _ (by decide +kernel)) ggX12_laysColumns_X12_lays
set_option maxRecDepth 20000 in
theorem ggX12_laysColumns_X12_placeOf : GoodIn wsX12_laysColumns wsX12_placeOf := goodIn_r _ [45] (by decide +kernel) (by decide +kernel)
set_option maxRecDepth 20000 in
theorem gX12_laysColumns_X12_placeOf : GoodIn wsX12_laysColumns (va_wsS RX12 138 yX12_placeOf wsX12_placeOf) := goodIn_app (goodIn_of _ (by decide +kernel)) ggX12_laysColumns_X12_placeOf
theorem dX12_laysColumns_0 : decode cX12_laysColumns 0 = .ok (.aload_n 0, 1) := by decide +kernel
theorem dX12_laysColumns_1 : decode cX12_laysColumns 1 = .ok (.invokevirtual 159, 3) := by decide +kernel
theorem dX12_laysColumns_4 : decode cX12_laysColumns 4 = .ok (.iconst 0, 1) := by decide +kernel
theorem dX12_laysColumns_5 : decode cX12_laysColumns 5 = .ok (.istore 4, 2) := by decide +kernel
theorem dX12_laysColumns_7 : decode cX12_laysColumns 7 = .ok (.iconst 0, 1) := by decide +kernel
theorem dX12_laysColumns_8 : decode cX12_laysColumns 8 = .ok (.istore 5, 2) := by decide +kernel
theorem dX12_laysColumns_10 : decode cX12_laysColumns 10 = .ok (.iload 5, 2) := by decide +kernel
theorem dX12_laysColumns_12 : decode cX12_laysColumns 12 = .ok (.iload_n 1, 1) := by decide +kernel
theorem dX12_laysColumns_13 : decode cX12_laysColumns 13 = .ok (.if_icmp .gt 80, 3) := by decide +kernel
theorem dX12_laysColumns_16 : decode cX12_laysColumns 16 = .ok (.iconst 0, 1) := by decide +kernel
theorem dX12_laysColumns_17 : decode cX12_laysColumns 17 = .ok (.istore 6, 2) := by decide +kernel
theorem dX12_laysColumns_19 : decode cX12_laysColumns 19 = .ok (.iload 6, 2) := by decide +kernel
theorem dX12_laysColumns_21 : decode cX12_laysColumns 21 = .ok (.iload_n 2, 1) := by decide +kernel
theorem dX12_laysColumns_22 : decode cX12_laysColumns 22 = .ok (.if_icmp .gt 65, 3) := by decide +kernel
theorem dX12_laysColumns_25 : decode cX12_laysColumns 25 = .ok (.iconst 0, 1) := by decide +kernel
theorem dX12_laysColumns_26 : decode cX12_laysColumns 26 = .ok (.istore 7, 2) := by decide +kernel
theorem dX12_laysColumns_28 : decode cX12_laysColumns 28 = .ok (.iload 7, 2) := by decide +kernel
theorem dX12_laysColumns_30 : decode cX12_laysColumns 30 = .ok (.iload_n 3, 1) := by decide +kernel
theorem dX12_laysColumns_31 : decode cX12_laysColumns 31 = .ok (.if_icmp .gt 50, 3) := by decide +kernel
theorem dX12_laysColumns_34 : decode cX12_laysColumns 34 = .ok (.aload_n 0, 1) := by decide +kernel
theorem dX12_laysColumns_35 : decode cX12_laysColumns 35 = .ok (.invokevirtual 162, 3) := by decide +kernel
theorem dX12_laysColumns_38 : decode cX12_laysColumns 38 = .ok (.aload_n 0, 1) := by decide +kernel
theorem dX12_laysColumns_39 : decode cX12_laysColumns 39 = .ok (.iconst 1, 1) := by decide +kernel
theorem dX12_laysColumns_40 : decode cX12_laysColumns 40 = .ok (.iload 5, 2) := by decide +kernel
theorem dX12_laysColumns_42 : decode cX12_laysColumns 42 = .ok (.iload 6, 2) := by decide +kernel
theorem dX12_laysColumns_44 : decode cX12_laysColumns 44 = .ok (.iload 7, 2) := by decide +kernel
theorem dX12_laysColumns_46 : decode cX12_laysColumns 46 = .ok (.iload_n 1, 1) := by decide +kernel
theorem dX12_laysColumns_47 : decode cX12_laysColumns 47 = .ok (.invokevirtual 165, 3) := by decide +kernel
theorem dX12_laysColumns_50 : decode cX12_laysColumns 50 = .ok (.aload_n 0, 1) := by decide +kernel
theorem dX12_laysColumns_51 : decode cX12_laysColumns 51 = .ok (.iload 4, 2) := by decide +kernel
theorem dX12_laysColumns_53 : decode cX12_laysColumns 53 = .ok (.invokevirtual 179, 3) := by decide +kernel
theorem dX12_laysColumns_56 : decode cX12_laysColumns 56 = .ok (.aload_n 0, 1) := by decide +kernel
theorem dX12_laysColumns_57 : decode cX12_laysColumns 57 = .ok (.getfield 39, 3) := by decide +kernel
theorem dX12_laysColumns_60 : decode cX12_laysColumns 60 = .ok (.iload 4, 2) := by decide +kernel
theorem dX12_laysColumns_62 : decode cX12_laysColumns 62 = .ok (.iload 5, 2) := by decide +kernel
theorem dX12_laysColumns_64 : decode cX12_laysColumns 64 = .ok (.iload 6, 2) := by decide +kernel
theorem dX12_laysColumns_66 : decode cX12_laysColumns 66 = .ok (.iload 7, 2) := by decide +kernel
theorem dX12_laysColumns_68 : decode cX12_laysColumns 68 = .ok (.invokestatic 138, 3) := by decide +kernel
theorem dX12_laysColumns_71 : decode cX12_laysColumns 71 = .ok (.iastore, 1) := by decide +kernel
theorem dX12_laysColumns_72 : decode cX12_laysColumns 72 = .ok (.iinc 4 1, 3) := by decide +kernel
theorem dX12_laysColumns_75 : decode cX12_laysColumns 75 = .ok (.iinc 7 1, 3) := by decide +kernel
theorem dX12_laysColumns_78 : decode cX12_laysColumns 78 = .ok (.goto (-50), 3) := by decide +kernel
theorem dX12_laysColumns_81 : decode cX12_laysColumns 81 = .ok (.iinc 6 1, 3) := by decide +kernel
theorem dX12_laysColumns_84 : decode cX12_laysColumns 84 = .ok (.goto (-65), 3) := by decide +kernel
theorem dX12_laysColumns_87 : decode cX12_laysColumns 87 = .ok (.iinc 5 1, 3) := by decide +kernel
theorem dX12_laysColumns_90 : decode cX12_laysColumns 90 = .ok (.goto (-80), 3) := by decide +kernel
theorem dX12_laysColumns_93 : decode cX12_laysColumns 93 = .ok (.iconst 0, 1) := by decide +kernel
theorem dX12_laysColumns_94 : decode cX12_laysColumns 94 = .ok (.istore 5, 2) := by decide +kernel
theorem dX12_laysColumns_96 : decode cX12_laysColumns 96 = .ok (.iload 5, 2) := by decide +kernel
theorem dX12_laysColumns_98 : decode cX12_laysColumns 98 = .ok (.bipush 9, 2) := by decide +kernel
theorem dX12_laysColumns_100 : decode cX12_laysColumns 100 = .ok (.if_icmp .ge 65, 3) := by decide +kernel
theorem dX12_laysColumns_103 : decode cX12_laysColumns 103 = .ok (.aload_n 0, 1) := by decide +kernel
theorem dX12_laysColumns_104 : decode cX12_laysColumns 104 = .ok (.invokevirtual 162, 3) := by decide +kernel
theorem dX12_laysColumns_107 : decode cX12_laysColumns 107 = .ok (.iconst 0, 1) := by decide +kernel
theorem dX12_laysColumns_108 : decode cX12_laysColumns 108 = .ok (.istore 6, 2) := by decide +kernel
theorem dX12_laysColumns_110 : decode cX12_laysColumns 110 = .ok (.iload 6, 2) := by decide +kernel
theorem dX12_laysColumns_112 : decode cX12_laysColumns 112 = .ok (.bipush 17, 2) := by decide +kernel
theorem dX12_laysColumns_114 : decode cX12_laysColumns 114 = .ok (.if_icmp .ge 36, 3) := by decide +kernel
theorem dX12_laysColumns_117 : decode cX12_laysColumns 117 = .ok (.aload_n 0, 1) := by decide +kernel
theorem dX12_laysColumns_118 : decode cX12_laysColumns 118 = .ok (.getfield 30, 3) := by decide +kernel
theorem dX12_laysColumns_121 : decode cX12_laysColumns 121 = .ok (.bipush 9, 2) := by decide +kernel
theorem dX12_laysColumns_123 : decode cX12_laysColumns 123 = .ok (.iload 6, 2) := by decide +kernel
theorem dX12_laysColumns_125 : decode cX12_laysColumns 125 = .ok (.imul, 1) := by decide +kernel
theorem dX12_laysColumns_126 : decode cX12_laysColumns 126 = .ok (.iload 5, 2) := by decide +kernel
theorem dX12_laysColumns_128 : decode cX12_laysColumns 128 = .ok (.iadd, 1) := by decide +kernel
theorem dX12_laysColumns_129 : decode cX12_laysColumns 129 = .ok (.aload_n 0, 1) := by decide +kernel
theorem dX12_laysColumns_130 : decode cX12_laysColumns 130 = .ok (.getfield 24, 3) := by decide +kernel
theorem dX12_laysColumns_133 : decode cX12_laysColumns 133 = .ok (.bipush 25, 2) := by decide +kernel
theorem dX12_laysColumns_135 : decode cX12_laysColumns 135 = .ok (.iload_n 1, 1) := by decide +kernel
theorem dX12_laysColumns_136 : decode cX12_laysColumns 136 = .ok (.iconst 1, 1) := by decide +kernel
theorem dX12_laysColumns_137 : decode cX12_laysColumns 137 = .ok (.isub, 1) := by decide +kernel
theorem dX12_laysColumns_138 : decode cX12_laysColumns 138 = .ok (.imul, 1) := by decide +kernel
theorem dX12_laysColumns_139 : decode cX12_laysColumns 139 = .ok (.iload 6, 2) := by decide +kernel
theorem dX12_laysColumns_141 : decode cX12_laysColumns 141 = .ok (.iadd, 1) := by decide +kernel
theorem dX12_laysColumns_142 : decode cX12_laysColumns 142 = .ok (.iaload, 1) := by decide +kernel
theorem dX12_laysColumns_143 : decode cX12_laysColumns 143 = .ok (.iastore, 1) := by decide +kernel
theorem dX12_laysColumns_144 : decode cX12_laysColumns 144 = .ok (.iinc 6 1, 3) := by decide +kernel
theorem dX12_laysColumns_147 : decode cX12_laysColumns 147 = .ok (.goto (-37), 3) := by decide +kernel
theorem dX12_laysColumns_150 : decode cX12_laysColumns 150 = .ok (.aload_n 0, 1) := by decide +kernel
theorem dX12_laysColumns_151 : decode cX12_laysColumns 151 = .ok (.iload 4, 2) := by decide +kernel
theorem dX12_laysColumns_153 : decode cX12_laysColumns 153 = .ok (.iload 5, 2) := by decide +kernel
theorem dX12_laysColumns_155 : decode cX12_laysColumns 155 = .ok (.iadd, 1) := by decide +kernel
theorem dX12_laysColumns_156 : decode cX12_laysColumns 156 = .ok (.invokevirtual 179, 3) := by decide +kernel
theorem dX12_laysColumns_159 : decode cX12_laysColumns 159 = .ok (.iinc 5 1, 3) := by decide +kernel
theorem dX12_laysColumns_162 : decode cX12_laysColumns 162 = .ok (.goto (-66), 3) := by decide +kernel
theorem dX12_laysColumns_165 : decode cX12_laysColumns 165 = .ok (.iload 4, 2) := by decide +kernel
theorem dX12_laysColumns_167 : decode cX12_laysColumns 167 = .ok (.ireturn, 1) := by decide +kernel
set_option maxRecDepth 20000 in
theorem ggX12_finds_X12_modulo : GoodIn wsX12_finds wsX12_modulo := goodIn_r _ [11, 12, 13, 14, 15] (by decide +kernel) (by decide +kernel)
set_option maxRecDepth 20000 in
theorem gX12_finds_X12_modulo : GoodIn wsX12_finds (va_wsS RX12 125 yX12_modulo wsX12_modulo) := goodIn_app (goodIn_of _ (by decide +kernel)) ggX12_finds_X12_modulo
theorem dX12_finds_0 : decode cX12_finds 0 = .ok (.aload_n 0, 1) := by decide +kernel
theorem dX12_finds_1 : decode cX12_finds 1 = .ok (.iconst 1, 1) := by decide +kernel
theorem dX12_finds_2 : decode cX12_finds 2 = .ok (.putfield 183, 3) := by decide +kernel
theorem dX12_finds_5 : decode cX12_finds 5 = .ok (.aload_n 0, 1) := by decide +kernel
theorem dX12_finds_6 : decode cX12_finds 6 = .ok (.iload_n 1, 1) := by decide +kernel
theorem dX12_finds_7 : decode cX12_finds 7 = .ok (.iload_n 2, 1) := by decide +kernel
theorem dX12_finds_8 : decode cX12_finds 8 = .ok (.isub, 1) := by decide +kernel
theorem dX12_finds_9 : decode cX12_finds 9 = .ok (.putfield 187, 3) := by decide +kernel
theorem dX12_finds_12 : decode cX12_finds 12 = .ok (.iconst 0, 1) := by decide +kernel
theorem dX12_finds_13 : decode cX12_finds 13 = .ok (.istore 4, 2) := by decide +kernel
theorem dX12_finds_15 : decode cX12_finds 15 = .ok (.iload 4, 2) := by decide +kernel
theorem dX12_finds_17 : decode cX12_finds 17 = .ok (.bipush 75, 2) := by decide +kernel
theorem dX12_finds_19 : decode cX12_finds 19 = .ok (.if_icmp .ge 17, 3) := by decide +kernel
theorem dX12_finds_22 : decode cX12_finds 22 = .ok (.aload_n 0, 1) := by decide +kernel
theorem dX12_finds_23 : decode cX12_finds 23 = .ok (.getfield 18, 3) := by decide +kernel
theorem dX12_finds_26 : decode cX12_finds 26 = .ok (.iload 4, 2) := by decide +kernel
theorem dX12_finds_28 : decode cX12_finds 28 = .ok (.iconst 0, 1) := by decide +kernel
theorem dX12_finds_29 : decode cX12_finds 29 = .ok (.iastore, 1) := by decide +kernel
theorem dX12_finds_30 : decode cX12_finds 30 = .ok (.iinc 4 1, 3) := by decide +kernel
theorem dX12_finds_33 : decode cX12_finds 33 = .ok (.goto (-18), 3) := by decide +kernel
theorem dX12_finds_36 : decode cX12_finds 36 = .ok (.iconst 0, 1) := by decide +kernel
theorem dX12_finds_37 : decode cX12_finds 37 = .ok (.istore 4, 2) := by decide +kernel
theorem dX12_finds_39 : decode cX12_finds 39 = .ok (.iload 4, 2) := by decide +kernel
theorem dX12_finds_41 : decode cX12_finds 41 = .ok (.bipush 9, 2) := by decide +kernel
theorem dX12_finds_43 : decode cX12_finds 43 = .ok (.if_icmp .ge 30, 3) := by decide +kernel
theorem dX12_finds_46 : decode cX12_finds 46 = .ok (.aload_n 0, 1) := by decide +kernel
theorem dX12_finds_47 : decode cX12_finds 47 = .ok (.getfield 21, 3) := by decide +kernel
theorem dX12_finds_50 : decode cX12_finds 50 = .ok (.iload 4, 2) := by decide +kernel
theorem dX12_finds_52 : decode cX12_finds 52 = .ok (.iload 4, 2) := by decide +kernel
theorem dX12_finds_54 : decode cX12_finds 54 = .ok (.aload_n 0, 1) := by decide +kernel
theorem dX12_finds_55 : decode cX12_finds 55 = .ok (.getfield 187, 3) := by decide +kernel
theorem dX12_finds_58 : decode cX12_finds 58 = .ok (.if_icmp .ne 7, 3) := by decide +kernel
theorem dX12_finds_61 : decode cX12_finds 61 = .ok (.iconst 1, 1) := by decide +kernel
theorem dX12_finds_62 : decode cX12_finds 62 = .ok (.goto 4, 3) := by decide +kernel
theorem dX12_finds_65 : decode cX12_finds 65 = .ok (.iconst 0, 1) := by decide +kernel
theorem dX12_finds_66 : decode cX12_finds 66 = .ok (.iastore, 1) := by decide +kernel
theorem dX12_finds_67 : decode cX12_finds 67 = .ok (.iinc 4 1, 3) := by decide +kernel
theorem dX12_finds_70 : decode cX12_finds 70 = .ok (.goto (-31), 3) := by decide +kernel
theorem dX12_finds_73 : decode cX12_finds 73 = .ok (.iconst 0, 1) := by decide +kernel
theorem dX12_finds_74 : decode cX12_finds 74 = .ok (.istore 4, 2) := by decide +kernel
theorem dX12_finds_76 : decode cX12_finds 76 = .ok (.iload 4, 2) := by decide +kernel
theorem dX12_finds_78 : decode cX12_finds 78 = .ok (.iload_n 3, 1) := by decide +kernel
theorem dX12_finds_79 : decode cX12_finds 79 = .ok (.if_icmp .ge 70, 3) := by decide +kernel
theorem dX12_finds_82 : decode cX12_finds 82 = .ok (.aload_n 0, 1) := by decide +kernel
theorem dX12_finds_83 : decode cX12_finds 83 = .ok (.getfield 36, 3) := by decide +kernel
theorem dX12_finds_86 : decode cX12_finds 86 = .ok (.bipush 84, 2) := by decide +kernel
theorem dX12_finds_88 : decode cX12_finds 88 = .ok (.iload 4, 2) := by decide +kernel
theorem dX12_finds_90 : decode cX12_finds 90 = .ok (.imul, 1) := by decide +kernel
theorem dX12_finds_91 : decode cX12_finds 91 = .ok (.iload_n 1, 1) := by decide +kernel
theorem dX12_finds_92 : decode cX12_finds 92 = .ok (.iadd, 1) := by decide +kernel
theorem dX12_finds_93 : decode cX12_finds 93 = .ok (.iaload, 1) := by decide +kernel
theorem dX12_finds_94 : decode cX12_finds 94 = .ok (.istore 5, 2) := by decide +kernel
theorem dX12_finds_96 : decode cX12_finds 96 = .ok (.aload_n 0, 1) := by decide +kernel
theorem dX12_finds_97 : decode cX12_finds 97 = .ok (.getfield 42, 3) := by decide +kernel
theorem dX12_finds_100 : decode cX12_finds 100 = .ok (.iload 4, 2) := by decide +kernel
theorem dX12_finds_102 : decode cX12_finds 102 = .ok (.iaload, 1) := by decide +kernel
theorem dX12_finds_103 : decode cX12_finds 103 = .ok (.istore 6, 2) := by decide +kernel
theorem dX12_finds_105 : decode cX12_finds 105 = .ok (.iload 6, 2) := by decide +kernel
theorem dX12_finds_107 : decode cX12_finds 107 = .ok (.iload_n 2, 1) := by decide +kernel
theorem dX12_finds_108 : decode cX12_finds 108 = .ok (.if_icmp .ge 20, 3) := by decide +kernel
theorem dX12_finds_111 : decode cX12_finds 111 = .ok (.aload_n 0, 1) := by decide +kernel
theorem dX12_finds_112 : decode cX12_finds 112 = .ok (.getfield 18, 3) := by decide +kernel
theorem dX12_finds_115 : decode cX12_finds 115 = .ok (.aload_n 0, 1) := by decide +kernel
theorem dX12_finds_116 : decode cX12_finds 116 = .ok (.getfield 39, 3) := by decide +kernel
theorem dX12_finds_119 : decode cX12_finds 119 = .ok (.iload 6, 2) := by decide +kernel
theorem dX12_finds_121 : decode cX12_finds 121 = .ok (.iaload, 1) := by decide +kernel
theorem dX12_finds_122 : decode cX12_finds 122 = .ok (.iload 5, 2) := by decide +kernel
theorem dX12_finds_124 : decode cX12_finds 124 = .ok (.iastore, 1) := by decide +kernel
theorem dX12_finds_125 : decode cX12_finds 125 = .ok (.goto 18, 3) := by decide +kernel
theorem dX12_finds_128 : decode cX12_finds 128 = .ok (.aload_n 0, 1) := by decide +kernel
theorem dX12_finds_129 : decode cX12_finds 129 = .ok (.getfield 21, 3) := by decide +kernel
theorem dX12_finds_132 : decode cX12_finds 132 = .ok (.iload 6, 2) := by decide +kernel
theorem dX12_finds_134 : decode cX12_finds 134 = .ok (.iload_n 2, 1) := by decide +kernel
theorem dX12_finds_135 : decode cX12_finds 135 = .ok (.isub, 1) := by decide +kernel
theorem dX12_finds_136 : decode cX12_finds 136 = .ok (.iload 5, 2) := by decide +kernel
theorem dX12_finds_138 : decode cX12_finds 138 = .ok (.ineg, 1) := by decide +kernel
theorem dX12_finds_139 : decode cX12_finds 139 = .ok (.invokestatic 125, 3) := by decide +kernel
theorem dX12_finds_142 : decode cX12_finds 142 = .ok (.iastore, 1) := by decide +kernel
theorem dX12_finds_143 : decode cX12_finds 143 = .ok (.iinc 4 1, 3) := by decide +kernel
theorem dX12_finds_146 : decode cX12_finds 146 = .ok (.goto (-70), 3) := by decide +kernel
theorem dX12_finds_149 : decode cX12_finds 149 = .ok (.return_, 1) := by decide +kernel
set_option maxRecDepth 20000 in
theorem ggX12_search_X12_isIn : GoodIn wsX12_search wsX12_isIn := goodIn_r _ [7] (by decide +kernel) (by decide +kernel)
set_option maxRecDepth 20000 in
theorem gX12_search_X12_isIn : GoodIn wsX12_search (va_wsS RX12 121 yX12_isIn wsX12_isIn) := goodIn_app (goodIn_of _ (by decide +kernel)) ggX12_search_X12_isIn
set_option maxRecDepth 20000 in
theorem ggX12_search_X12_degreeOf : GoodIn wsX12_search wsX12_degreeOf := goodIn_r _ [11, 12, 81, 82, 83, 84, 85, 86, 87, 88, 89, 90, 91, 92, 93, 94, 95, 96, 97, 98, 99, 100, 101, 102, 103, 104, 105, 106, 107, 108, 109, 110, 111, 112, 113, 114, 115, 116, 117, 118, 119, 120, 121, 122, 123, 124, 125] (by decide +kernel) (by decide +kernel)
set_option maxRecDepth 20000 in
theorem gX12_search_X12_degreeOf : GoodIn wsX12_search (wsV RX12 131 RX12 yX12_degreeOf wsX12_degreeOf) := goodIn_app (goodIn_of _ (by decide +kernel)) ggX12_search_X12_degreeOf
set_option maxRecDepth 20000 in
theorem ggX12_search_X12_laysColumns : GoodIn wsX12_search wsX12_laysColumns := goodIn_r _ [16, 17, 18, 19, 20, 21, 22, 6, 23, 24, 25, 26, 27, 28, 12, 29, 30, 31, 32, 33, 34, 35, 36, 37, 38, 39, 40, 41, 42, 43, 44, 45, 46, 47, 48, 49, 50, 51, 52, 53, 54, 55, 56, 57, 58, 59, 81, 82, 83, 84, 85, 86, 87, 88, 89, 90, 91, 92, 93, 94, 95, 96, 97, 98, 99, 100, 101, 102, 103, 104, 105, 106, 107, 108, 109, 110, 111, 112, 113, 114, 115, 116, 117, 118, 119, 120, 121, 122, 123, 124, 125] (by decide +kernel) (by decide +kernel)
set_option maxRecDepth 20000 in
theorem gX12_search_X12_laysColumns : GoodIn wsX12_search (wsV RX12 191 RX12 yX12_laysColumns wsX12_laysColumns) := goodIn_app (goodIn_of _ (by decide +kernel)) ggX12_search_X12_laysColumns
set_option maxRecDepth 20000 in
theorem ggX12_search_X12_pivotRow : GoodIn wsX12_search wsX12_pivotRow := goodIn_r _ [63, 56, 81, 82, 83, 84, 85, 86, 87, 88, 89, 90, 91, 92, 93, 94, 95, 96, 97, 98, 99, 100, 101, 102, 103, 104, 105, 106, 107, 108, 109, 110, 111, 112, 113, 114, 115, 116, 117, 118, 119, 120, 121, 122, 123, 124, 125] (by decide +kernel) (by decide +kernel)
set_option maxRecDepth 20000 in
theorem gX12_search_X12_pivotRow : GoodIn wsX12_search (wsV RX12 194 RX12 yX12_pivotRow wsX12_pivotRow) := goodIn_app (goodIn_of _ (by decide +kernel)) ggX12_search_X12_pivotRow
set_option maxRecDepth 20000 in
theorem ggX12_search_X12_swaps : GoodIn wsX12_search wsX12_swaps := goodIn_r _ [67, 56, 81, 82, 83, 84, 85, 86, 87, 88, 89, 90, 91, 92, 93, 94, 95, 96, 97, 98, 99, 100, 101, 102, 103, 104, 105, 106, 107, 108, 109, 110, 111, 112, 113, 114, 115, 116, 117, 118, 119, 120, 121, 122, 123, 124, 125] (by decide +kernel) (by decide +kernel)
set_option maxRecDepth 20000 in
theorem gX12_search_X12_swaps : GoodIn wsX12_search (wsV RX12 197 RX12 yX12_swaps wsX12_swaps) := goodIn_app (goodIn_of _ (by decide +kernel)) ggX12_search_X12_swaps
set_option maxRecDepth 20000 in
theorem ggX12_search_X12_reduces : GoodIn wsX12_search wsX12_reduces := goodIn_r _ [71, 56, 72, 73, 6, 74, 37, 38, 39, 40, 41, 42, 43, 81, 82, 83, 84, 85, 86, 87, 88, 89, 90, 91, 92, 93, 94, 95, 96, 97, 98, 99, 100, 101, 102, 103, 104, 105, 106, 107, 108, 109, 110, 111, 112, 113, 114, 115, 116, 117, 118, 119, 120, 121, 122, 123, 124, 125] (by decide +kernel) (by decide +kernel)
set_option maxRecDepth 20000 in
theorem gX12_search_X12_reduces : GoodIn wsX12_search (wsV RX12 200 RX12 yX12_reduces wsX12_reduces) := goodIn_app (goodIn_of _ (by decide +kernel)) ggX12_search_X12_reduces
set_option maxRecDepth 20000 in
theorem ggX12_search_X12_finds : GoodIn wsX12_search wsX12_finds := goodIn_r _ [78, 1, 3, 79, 80, 56, 2, 17, 37, 38, 6, 39, 40, 41, 42, 43, 81, 82, 83, 84, 85, 86, 87, 88, 89, 90, 91, 92, 93, 94, 95, 96, 97, 98, 99, 100, 101, 102, 103, 104, 105, 106, 107, 108, 109, 110, 111, 112, 113, 114, 115, 116, 117, 118, 119, 120, 121, 122, 123, 124, 125] (by decide +kernel) (by decide +kernel)
set_option maxRecDepth 20000 in
theorem gX12_search_X12_finds : GoodIn wsX12_search (wsV RX12 203 RX12 yX12_finds wsX12_finds) := goodIn_app (goodIn_of _ (by decide +kernel)) ggX12_search_X12_finds
theorem dX12_search_0 : decode cX12_search 0 = .ok (.iload_n 1, 1) := by decide +kernel
theorem dX12_search_1 : decode cX12_search 1 = .ok (.iconst 1, 1) := by decide +kernel
theorem dX12_search_2 : decode cX12_search 2 = .ok (.iconst 4, 1) := by decide +kernel
theorem dX12_search_3 : decode cX12_search 3 = .ok (.invokestatic 121, 3) := by decide +kernel
theorem dX12_search_6 : decode cX12_search 6 = .ok (.ifCond .eq 21, 3) := by decide +kernel
theorem dX12_search_9 : decode cX12_search 9 = .ok (.iload_n 2, 1) := by decide +kernel
theorem dX12_search_10 : decode cX12_search 10 = .ok (.iconst 0, 1) := by decide +kernel
theorem dX12_search_11 : decode cX12_search 11 = .ok (.iconst 4, 1) := by decide +kernel
theorem dX12_search_12 : decode cX12_search 12 = .ok (.invokestatic 121, 3) := by decide +kernel
theorem dX12_search_15 : decode cX12_search 15 = .ok (.ifCond .eq 12, 3) := by decide +kernel
theorem dX12_search_18 : decode cX12_search 18 = .ok (.iload_n 3, 1) := by decide +kernel
theorem dX12_search_19 : decode cX12_search 19 = .ok (.iconst 0, 1) := by decide +kernel
theorem dX12_search_20 : decode cX12_search 20 = .ok (.iconst 2, 1) := by decide +kernel
theorem dX12_search_21 : decode cX12_search 21 = .ok (.invokestatic 121, 3) := by decide +kernel
theorem dX12_search_24 : decode cX12_search 24 = .ok (.ifCond .ne 6, 3) := by decide +kernel
theorem dX12_search_27 : decode cX12_search 27 = .ok (.bipush (-2), 2) := by decide +kernel
theorem dX12_search_29 : decode cX12_search 29 = .ok (.ireturn, 1) := by decide +kernel
theorem dX12_search_30 : decode cX12_search 30 = .ok (.aload_n 0, 1) := by decide +kernel
theorem dX12_search_31 : decode cX12_search 31 = .ok (.invokevirtual 131, 3) := by decide +kernel
theorem dX12_search_34 : decode cX12_search 34 = .ok (.iconst 1, 1) := by decide +kernel
theorem dX12_search_35 : decode cX12_search 35 = .ok (.if_icmp .ge 6, 3) := by decide +kernel
theorem dX12_search_38 : decode cX12_search 38 = .ok (.bipush (-3), 2) := by decide +kernel
theorem dX12_search_40 : decode cX12_search 40 = .ok (.ireturn, 1) := by decide +kernel
theorem dX12_search_41 : decode cX12_search 41 = .ok (.aload_n 0, 1) := by decide +kernel
theorem dX12_search_42 : decode cX12_search 42 = .ok (.iload_n 1, 1) := by decide +kernel
theorem dX12_search_43 : decode cX12_search 43 = .ok (.iload_n 2, 1) := by decide +kernel
theorem dX12_search_44 : decode cX12_search 44 = .ok (.iload_n 3, 1) := by decide +kernel
theorem dX12_search_45 : decode cX12_search 45 = .ok (.invokevirtual 191, 3) := by decide +kernel
theorem dX12_search_48 : decode cX12_search 48 = .ok (.istore 4, 2) := by decide +kernel
theorem dX12_search_50 : decode cX12_search 50 = .ok (.aload_n 0, 1) := by decide +kernel
theorem dX12_search_51 : decode cX12_search 51 = .ok (.iconst 0, 1) := by decide +kernel
theorem dX12_search_52 : decode cX12_search 52 = .ok (.putfield 183, 3) := by decide +kernel
theorem dX12_search_55 : decode cX12_search 55 = .ok (.iconst 0, 1) := by decide +kernel
theorem dX12_search_56 : decode cX12_search 56 = .ok (.istore 5, 2) := by decide +kernel
theorem dX12_search_58 : decode cX12_search 58 = .ok (.iconst 0, 1) := by decide +kernel
theorem dX12_search_59 : decode cX12_search 59 = .ok (.istore 6, 2) := by decide +kernel
theorem dX12_search_61 : decode cX12_search 61 = .ok (.iload 6, 2) := by decide +kernel
theorem dX12_search_63 : decode cX12_search 63 = .ok (.iload 4, 2) := by decide +kernel
theorem dX12_search_65 : decode cX12_search 65 = .ok (.bipush 9, 2) := by decide +kernel
theorem dX12_search_67 : decode cX12_search 67 = .ok (.iadd, 1) := by decide +kernel
theorem dX12_search_68 : decode cX12_search 68 = .ok (.if_icmp .ge 87, 3) := by decide +kernel
theorem dX12_search_71 : decode cX12_search 71 = .ok (.aload_n 0, 1) := by decide +kernel
theorem dX12_search_72 : decode cX12_search 72 = .ok (.getfield 183, 3) := by decide +kernel
theorem dX12_search_75 : decode cX12_search 75 = .ok (.ifCond .ne 80, 3) := by decide +kernel
theorem dX12_search_78 : decode cX12_search 78 = .ok (.aload_n 0, 1) := by decide +kernel
theorem dX12_search_79 : decode cX12_search 79 = .ok (.iload 5, 2) := by decide +kernel
theorem dX12_search_81 : decode cX12_search 81 = .ok (.iload 6, 2) := by decide +kernel
theorem dX12_search_83 : decode cX12_search 83 = .ok (.invokevirtual 194, 3) := by decide +kernel
theorem dX12_search_86 : decode cX12_search 86 = .ok (.istore 7, 2) := by decide +kernel
theorem dX12_search_88 : decode cX12_search 88 = .ok (.iload 7, 2) := by decide +kernel
theorem dX12_search_90 : decode cX12_search 90 = .ok (.sipush 225, 3) := by decide +kernel
theorem dX12_search_93 : decode cX12_search 93 = .ok (.if_icmp .ge 39, 3) := by decide +kernel
theorem dX12_search_96 : decode cX12_search 96 = .ok (.aload_n 0, 1) := by decide +kernel
theorem dX12_search_97 : decode cX12_search 97 = .ok (.iload 7, 2) := by decide +kernel
theorem dX12_search_99 : decode cX12_search 99 = .ok (.iload 5, 2) := by decide +kernel
theorem dX12_search_101 : decode cX12_search 101 = .ok (.invokevirtual 197, 3) := by decide +kernel
theorem dX12_search_104 : decode cX12_search 104 = .ok (.aload_n 0, 1) := by decide +kernel
theorem dX12_search_105 : decode cX12_search 105 = .ok (.iload 5, 2) := by decide +kernel
theorem dX12_search_107 : decode cX12_search 107 = .ok (.iload 6, 2) := by decide +kernel
theorem dX12_search_109 : decode cX12_search 109 = .ok (.iload 4, 2) := by decide +kernel
theorem dX12_search_111 : decode cX12_search 111 = .ok (.bipush 9, 2) := by decide +kernel
theorem dX12_search_113 : decode cX12_search 113 = .ok (.iadd, 1) := by decide +kernel
theorem dX12_search_114 : decode cX12_search 114 = .ok (.invokevirtual 200, 3) := by decide +kernel
theorem dX12_search_117 : decode cX12_search 117 = .ok (.aload_n 0, 1) := by decide +kernel
theorem dX12_search_118 : decode cX12_search 118 = .ok (.getfield 42, 3) := by decide +kernel
theorem dX12_search_121 : decode cX12_search 121 = .ok (.iload 5, 2) := by decide +kernel
theorem dX12_search_123 : decode cX12_search 123 = .ok (.iload 6, 2) := by decide +kernel
theorem dX12_search_125 : decode cX12_search 125 = .ok (.iastore, 1) := by decide +kernel
theorem dX12_search_126 : decode cX12_search 126 = .ok (.iinc 5 1, 3) := by decide +kernel
theorem dX12_search_129 : decode cX12_search 129 = .ok (.goto 20, 3) := by decide +kernel
theorem dX12_search_132 : decode cX12_search 132 = .ok (.iload 6, 2) := by decide +kernel
theorem dX12_search_134 : decode cX12_search 134 = .ok (.iload 4, 2) := by decide +kernel
theorem dX12_search_136 : decode cX12_search 136 = .ok (.if_icmp .lt 13, 3) := by decide +kernel
theorem dX12_search_139 : decode cX12_search 139 = .ok (.aload_n 0, 1) := by decide +kernel
theorem dX12_search_140 : decode cX12_search 140 = .ok (.iload 6, 2) := by decide +kernel
theorem dX12_search_142 : decode cX12_search 142 = .ok (.iload 4, 2) := by decide +kernel
theorem dX12_search_144 : decode cX12_search 144 = .ok (.iload 5, 2) := by decide +kernel
theorem dX12_search_146 : decode cX12_search 146 = .ok (.invokevirtual 203, 3) := by decide +kernel
theorem dX12_search_149 : decode cX12_search 149 = .ok (.iinc 6 1, 3) := by decide +kernel
theorem dX12_search_152 : decode cX12_search 152 = .ok (.goto (-91), 3) := by decide +kernel
theorem dX12_search_155 : decode cX12_search 155 = .ok (.aload_n 0, 1) := by decide +kernel
theorem dX12_search_156 : decode cX12_search 156 = .ok (.getfield 183, 3) := by decide +kernel
theorem dX12_search_159 : decode cX12_search 159 = .ok (.ifCond .eq 10, 3) := by decide +kernel
theorem dX12_search_162 : decode cX12_search 162 = .ok (.aload_n 0, 1) := by decide +kernel
theorem dX12_search_163 : decode cX12_search 163 = .ok (.getfield 187, 3) := by decide +kernel
theorem dX12_search_166 : decode cX12_search 166 = .ok (.goto 5, 3) := by decide +kernel
theorem dX12_search_169 : decode cX12_search 169 = .ok (.bipush (-5), 2) := by decide +kernel
theorem dX12_search_171 : decode cX12_search 171 = .ok (.ireturn, 1) := by decide +kernel
set_option maxRecDepth 20000 in
theorem ggX12_found_X12_isIn : GoodIn wsX12_found wsX12_isIn := goodIn_r _ [7] (by decide +kernel) (by decide +kernel)
set_option maxRecDepth 20000 in
theorem gX12_found_X12_isIn : GoodIn wsX12_found (va_wsS RX12 121 yX12_isIn wsX12_isIn) := goodIn_app (goodIn_of _ (by decide +kernel)) ggX12_found_X12_isIn
set_option maxRecDepth 20000 in
theorem ggX12_found_X12_told : GoodIn wsX12_found wsX12_told := goodIn_r _ [10, 11, 12, 13, 6, 14] (by decide +kernel) (by decide +kernel)
set_option maxRecDepth 20000 in
theorem gX12_found_X12_told : GoodIn wsX12_found (va_wsS RX12 128 yX12_told wsX12_told) := goodIn_app (goodIn_of _ (by decide +kernel)) ggX12_found_X12_told
theorem dX12_found_0 : decode cX12_found 0 = .ok (.aload_n 0, 1) := by decide +kernel
theorem dX12_found_1 : decode cX12_found 1 = .ok (.getfield 183, 3) := by decide +kernel
theorem dX12_found_4 : decode cX12_found 4 = .ok (.ifCond .ne 6, 3) := by decide +kernel
theorem dX12_found_7 : decode cX12_found 7 = .ok (.bipush (-3), 2) := by decide +kernel
theorem dX12_found_9 : decode cX12_found 9 = .ok (.ireturn, 1) := by decide +kernel
theorem dX12_found_10 : decode cX12_found 10 = .ok (.iload_n 1, 1) := by decide +kernel
theorem dX12_found_11 : decode cX12_found 11 = .ok (.iconst (-1), 1) := by decide +kernel
theorem dX12_found_12 : decode cX12_found 12 = .ok (.aload_n 0, 1) := by decide +kernel
theorem dX12_found_13 : decode cX12_found 13 = .ok (.getfield 187, 3) := by decide +kernel
theorem dX12_found_16 : decode cX12_found 16 = .ok (.invokestatic 121, 3) := by decide +kernel
theorem dX12_found_19 : decode cX12_found 19 = .ok (.ifCond .ne 5, 3) := by decide +kernel
theorem dX12_found_22 : decode cX12_found 22 = .ok (.iconst (-1), 1) := by decide +kernel
theorem dX12_found_23 : decode cX12_found 23 = .ok (.ireturn, 1) := by decide +kernel
theorem dX12_found_24 : decode cX12_found 24 = .ok (.iload_n 1, 1) := by decide +kernel
theorem dX12_found_25 : decode cX12_found 25 = .ok (.iconst (-1), 1) := by decide +kernel
theorem dX12_found_26 : decode cX12_found 26 = .ok (.if_icmp .ne 10, 3) := by decide +kernel
theorem dX12_found_29 : decode cX12_found 29 = .ok (.aload_n 0, 1) := by decide +kernel
theorem dX12_found_30 : decode cX12_found 30 = .ok (.getfield 187, 3) := by decide +kernel
theorem dX12_found_33 : decode cX12_found 33 = .ok (.goto 12, 3) := by decide +kernel
theorem dX12_found_36 : decode cX12_found 36 = .ok (.aload_n 0, 1) := by decide +kernel
theorem dX12_found_37 : decode cX12_found 37 = .ok (.getfield 21, 3) := by decide +kernel
theorem dX12_found_40 : decode cX12_found 40 = .ok (.iload_n 1, 1) := by decide +kernel
theorem dX12_found_41 : decode cX12_found 41 = .ok (.iaload, 1) := by decide +kernel
theorem dX12_found_42 : decode cX12_found 42 = .ok (.invokestatic 128, 3) := by decide +kernel
theorem dX12_found_45 : decode cX12_found 45 = .ok (.ireturn, 1) := by decide +kernel
set_option maxRecDepth 20000 in
theorem ggX12_foundOf_X12_isNumber : GoodIn wsX12_foundOf wsX12_isNumber := goodIn_r _ [6, 7, 8, 5, 9] (by decide +kernel) (by decide +kernel)
set_option maxRecDepth 20000 in
theorem gX12_foundOf_X12_isNumber : GoodIn wsX12_foundOf (va_wsS RX12 135 yX12_isNumber wsX12_isNumber) := goodIn_app (goodIn_of _ (by decide +kernel)) ggX12_foundOf_X12_isNumber
set_option maxRecDepth 20000 in
theorem ggX12_foundOf_X12_placeOf : GoodIn wsX12_foundOf wsX12_placeOf := goodIn_r _ [12] (by decide +kernel) (by decide +kernel)
set_option maxRecDepth 20000 in
theorem gX12_foundOf_X12_placeOf : GoodIn wsX12_foundOf (va_wsS RX12 138 yX12_placeOf wsX12_placeOf) := goodIn_app (goodIn_of _ (by decide +kernel)) ggX12_foundOf_X12_placeOf
set_option maxRecDepth 20000 in
theorem ggX12_foundOf_X12_told : GoodIn wsX12_foundOf wsX12_told := goodIn_r _ [15, 16, 17, 18, 5, 19] (by decide +kernel) (by decide +kernel)
set_option maxRecDepth 20000 in
theorem gX12_foundOf_X12_told : GoodIn wsX12_foundOf (va_wsS RX12 128 yX12_told wsX12_told) := goodIn_app (goodIn_of _ (by decide +kernel)) ggX12_foundOf_X12_told
theorem dX12_foundOf_0 : decode cX12_foundOf 0 = .ok (.iload_n 1, 1) := by decide +kernel
theorem dX12_foundOf_1 : decode cX12_foundOf 1 = .ok (.iload_n 2, 1) := by decide +kernel
theorem dX12_foundOf_2 : decode cX12_foundOf 2 = .ok (.iload_n 3, 1) := by decide +kernel
theorem dX12_foundOf_3 : decode cX12_foundOf 3 = .ok (.invokestatic 135, 3) := by decide +kernel
theorem dX12_foundOf_6 : decode cX12_foundOf 6 = .ok (.ifCond .ne 5, 3) := by decide +kernel
theorem dX12_foundOf_9 : decode cX12_foundOf 9 = .ok (.iconst (-1), 1) := by decide +kernel
theorem dX12_foundOf_10 : decode cX12_foundOf 10 = .ok (.ireturn, 1) := by decide +kernel
theorem dX12_foundOf_11 : decode cX12_foundOf 11 = .ok (.aload_n 0, 1) := by decide +kernel
theorem dX12_foundOf_12 : decode cX12_foundOf 12 = .ok (.getfield 183, 3) := by decide +kernel
theorem dX12_foundOf_15 : decode cX12_foundOf 15 = .ok (.ifCond .eq 20, 3) := by decide +kernel
theorem dX12_foundOf_18 : decode cX12_foundOf 18 = .ok (.aload_n 0, 1) := by decide +kernel
theorem dX12_foundOf_19 : decode cX12_foundOf 19 = .ok (.getfield 18, 3) := by decide +kernel
theorem dX12_foundOf_22 : decode cX12_foundOf 22 = .ok (.iload_n 1, 1) := by decide +kernel
theorem dX12_foundOf_23 : decode cX12_foundOf 23 = .ok (.iload_n 2, 1) := by decide +kernel
theorem dX12_foundOf_24 : decode cX12_foundOf 24 = .ok (.iload_n 3, 1) := by decide +kernel
theorem dX12_foundOf_25 : decode cX12_foundOf 25 = .ok (.invokestatic 138, 3) := by decide +kernel
theorem dX12_foundOf_28 : decode cX12_foundOf 28 = .ok (.iaload, 1) := by decide +kernel
theorem dX12_foundOf_29 : decode cX12_foundOf 29 = .ok (.invokestatic 128, 3) := by decide +kernel
theorem dX12_foundOf_32 : decode cX12_foundOf 32 = .ok (.goto 5, 3) := by decide +kernel
theorem dX12_foundOf_35 : decode cX12_foundOf 35 = .ok (.bipush (-3), 2) := by decide +kernel
theorem dX12_foundOf_37 : decode cX12_foundOf 37 = .ok (.ireturn, 1) := by decide +kernel
set_option maxRecDepth 20000 in
theorem ggX12_take_X12_orderOf : GoodIn wsX12_take wsX12_orderOf := goodIn_r _ [8, 2, 9, 10, 11, 12, 13, 14, 15, 16, 17, 18, 19, 20, 21, 22, 23, 24, 25, 26, 27, 28, 29, 30, 31, 32, 33, 34, 35, 36, 37, 38, 39, 40, 41, 42, 43, 44, 45, 46, 47, 48, 49, 50, 51, 52, 53] (by decide +kernel) (by decide +kernel)
set_option maxRecDepth 20000 in
theorem gX12_take_X12_orderOf : GoodIn wsX12_take (wsV RX12 145 RX12 yX12_orderOf wsX12_orderOf) := goodIn_app (goodIn_of _ (by decide +kernel)) ggX12_take_X12_orderOf
theorem dX12_take_0 : decode cX12_take 0 = .ok (.aload_n 0, 1) := by decide +kernel
theorem dX12_take_1 : decode cX12_take 1 = .ok (.getfield 183, 3) := by decide +kernel
theorem dX12_take_4 : decode cX12_take 4 = .ok (.ifCond .ne 6, 3) := by decide +kernel
theorem dX12_take_7 : decode cX12_take 7 = .ok (.bipush (-3), 2) := by decide +kernel
theorem dX12_take_9 : decode cX12_take 9 = .ok (.ireturn, 1) := by decide +kernel
theorem dX12_take_10 : decode cX12_take 10 = .ok (.iconst 0, 1) := by decide +kernel
theorem dX12_take_11 : decode cX12_take 11 = .ok (.istore_n 1, 1) := by decide +kernel
theorem dX12_take_12 : decode cX12_take 12 = .ok (.iload_n 1, 1) := by decide +kernel
theorem dX12_take_13 : decode cX12_take 13 = .ok (.bipush 75, 2) := by decide +kernel
theorem dX12_take_15 : decode cX12_take 15 = .ok (.if_icmp .ge 21, 3) := by decide +kernel
theorem dX12_take_18 : decode cX12_take 18 = .ok (.aload_n 0, 1) := by decide +kernel
theorem dX12_take_19 : decode cX12_take 19 = .ok (.getfield 15, 3) := by decide +kernel
theorem dX12_take_22 : decode cX12_take 22 = .ok (.iload_n 1, 1) := by decide +kernel
theorem dX12_take_23 : decode cX12_take 23 = .ok (.aload_n 0, 1) := by decide +kernel
theorem dX12_take_24 : decode cX12_take 24 = .ok (.getfield 18, 3) := by decide +kernel
theorem dX12_take_27 : decode cX12_take 27 = .ok (.iload_n 1, 1) := by decide +kernel
theorem dX12_take_28 : decode cX12_take 28 = .ok (.iaload, 1) := by decide +kernel
theorem dX12_take_29 : decode cX12_take 29 = .ok (.iastore, 1) := by decide +kernel
theorem dX12_take_30 : decode cX12_take 30 = .ok (.iinc 1 1, 3) := by decide +kernel
theorem dX12_take_33 : decode cX12_take 33 = .ok (.goto (-21), 3) := by decide +kernel
theorem dX12_take_36 : decode cX12_take 36 = .ok (.aload_n 0, 1) := by decide +kernel
theorem dX12_take_37 : decode cX12_take 37 = .ok (.invokevirtual 145, 3) := by decide +kernel
theorem dX12_take_40 : decode cX12_take 40 = .ok (.ireturn, 1) := by decide +kernel
set_option maxRecDepth 20000 in
theorem ggX12_howOften_X12_modulo : GoodIn wsX12_howOften wsX12_modulo := goodIn_r _ [7, 8, 9, 10, 11] (by decide +kernel) (by decide +kernel)
set_option maxRecDepth 20000 in
theorem gX12_howOften_X12_modulo : GoodIn wsX12_howOften (va_wsS RX12 125 yX12_modulo wsX12_modulo) := goodIn_app (goodIn_of _ (by decide +kernel)) ggX12_howOften_X12_modulo
theorem dX12_howOften_0 : decode cX12_howOften 0 = .ok (.iconst 0, 1) := by decide +kernel
theorem dX12_howOften_1 : decode cX12_howOften 1 = .ok (.istore_n 2, 1) := by decide +kernel
theorem dX12_howOften_2 : decode cX12_howOften 2 = .ok (.iload_n 2, 1) := by decide +kernel
theorem dX12_howOften_3 : decode cX12_howOften 3 = .ok (.bipush 9, 2) := by decide +kernel
theorem dX12_howOften_5 : decode cX12_howOften 5 = .ok (.if_icmp .ge 33, 3) := by decide +kernel
theorem dX12_howOften_8 : decode cX12_howOften 8 = .ok (.aload_n 0, 1) := by decide +kernel
theorem dX12_howOften_9 : decode cX12_howOften 9 = .ok (.getfield 45, 3) := by decide +kernel
theorem dX12_howOften_12 : decode cX12_howOften 12 = .ok (.iload_n 2, 1) := by decide +kernel
theorem dX12_howOften_13 : decode cX12_howOften 13 = .ok (.iload_n 2, 1) := by decide +kernel
theorem dX12_howOften_14 : decode cX12_howOften 14 = .ok (.aload_n 0, 1) := by decide +kernel
theorem dX12_howOften_15 : decode cX12_howOften 15 = .ok (.getfield 187, 3) := by decide +kernel
theorem dX12_howOften_18 : decode cX12_howOften 18 = .ok (.if_icmp .gt 12, 3) := by decide +kernel
theorem dX12_howOften_21 : decode cX12_howOften 21 = .ok (.aload_n 0, 1) := by decide +kernel
theorem dX12_howOften_22 : decode cX12_howOften 22 = .ok (.getfield 21, 3) := by decide +kernel
theorem dX12_howOften_25 : decode cX12_howOften 25 = .ok (.iload_n 2, 1) := by decide +kernel
theorem dX12_howOften_26 : decode cX12_howOften 26 = .ok (.iaload, 1) := by decide +kernel
theorem dX12_howOften_27 : decode cX12_howOften 27 = .ok (.goto 4, 3) := by decide +kernel
theorem dX12_howOften_30 : decode cX12_howOften 30 = .ok (.iconst 0, 1) := by decide +kernel
theorem dX12_howOften_31 : decode cX12_howOften 31 = .ok (.iastore, 1) := by decide +kernel
theorem dX12_howOften_32 : decode cX12_howOften 32 = .ok (.iinc 2 1, 3) := by decide +kernel
theorem dX12_howOften_35 : decode cX12_howOften 35 = .ok (.goto (-33), 3) := by decide +kernel
theorem dX12_howOften_38 : decode cX12_howOften 38 = .ok (.iconst 0, 1) := by decide +kernel
theorem dX12_howOften_39 : decode cX12_howOften 39 = .ok (.istore_n 2, 1) := by decide +kernel
theorem dX12_howOften_40 : decode cX12_howOften 40 = .ok (.aload_n 0, 1) := by decide +kernel
theorem dX12_howOften_41 : decode cX12_howOften 41 = .ok (.getfield 187, 3) := by decide +kernel
theorem dX12_howOften_44 : decode cX12_howOften 44 = .ok (.istore_n 3, 1) := by decide +kernel
theorem dX12_howOften_45 : decode cX12_howOften 45 = .ok (.iconst 1, 1) := by decide +kernel
theorem dX12_howOften_46 : decode cX12_howOften 46 = .ok (.istore 4, 2) := by decide +kernel
theorem dX12_howOften_48 : decode cX12_howOften 48 = .ok (.iload 4, 2) := by decide +kernel
theorem dX12_howOften_50 : decode cX12_howOften 50 = .ok (.ifCond .eq 152, 3) := by decide +kernel
theorem dX12_howOften_53 : decode cX12_howOften 53 = .ok (.iload_n 3, 1) := by decide +kernel
theorem dX12_howOften_54 : decode cX12_howOften 54 = .ok (.ifCond .le 148, 3) := by decide +kernel
theorem dX12_howOften_57 : decode cX12_howOften 57 = .ok (.iconst 0, 1) := by decide +kernel
theorem dX12_howOften_58 : decode cX12_howOften 58 = .ok (.istore 5, 2) := by decide +kernel
theorem dX12_howOften_60 : decode cX12_howOften 60 = .ok (.iload_n 3, 1) := by decide +kernel
theorem dX12_howOften_61 : decode cX12_howOften 61 = .ok (.istore 6, 2) := by decide +kernel
theorem dX12_howOften_63 : decode cX12_howOften 63 = .ok (.iload 6, 2) := by decide +kernel
theorem dX12_howOften_65 : decode cX12_howOften 65 = .ok (.ifCond .le 52, 3) := by decide +kernel
theorem dX12_howOften_68 : decode cX12_howOften 68 = .ok (.aload_n 0, 1) := by decide +kernel
theorem dX12_howOften_69 : decode cX12_howOften 69 = .ok (.getfield 45, 3) := by decide +kernel
theorem dX12_howOften_72 : decode cX12_howOften 72 = .ok (.iload 6, 2) := by decide +kernel
theorem dX12_howOften_74 : decode cX12_howOften 74 = .ok (.iaload, 1) := by decide +kernel
theorem dX12_howOften_75 : decode cX12_howOften 75 = .ok (.istore 7, 2) := by decide +kernel
theorem dX12_howOften_77 : decode cX12_howOften 77 = .ok (.aload_n 0, 1) := by decide +kernel
theorem dX12_howOften_78 : decode cX12_howOften 78 = .ok (.getfield 45, 3) := by decide +kernel
theorem dX12_howOften_81 : decode cX12_howOften 81 = .ok (.iload 6, 2) := by decide +kernel
theorem dX12_howOften_83 : decode cX12_howOften 83 = .ok (.iload 5, 2) := by decide +kernel
theorem dX12_howOften_85 : decode cX12_howOften 85 = .ok (.iastore, 1) := by decide +kernel
theorem dX12_howOften_86 : decode cX12_howOften 86 = .ok (.iload 7, 2) := by decide +kernel
theorem dX12_howOften_88 : decode cX12_howOften 88 = .ok (.iload 5, 2) := by decide +kernel
theorem dX12_howOften_90 : decode cX12_howOften 90 = .ok (.iload_n 1, 1) := by decide +kernel
theorem dX12_howOften_91 : decode cX12_howOften 91 = .ok (.imul, 1) := by decide +kernel
theorem dX12_howOften_92 : decode cX12_howOften 92 = .ok (.sipush 10007, 3) := by decide +kernel
theorem dX12_howOften_95 : decode cX12_howOften 95 = .ok (.irem, 1) := by decide +kernel
theorem dX12_howOften_96 : decode cX12_howOften 96 = .ok (.isub, 1) := by decide +kernel
theorem dX12_howOften_97 : decode cX12_howOften 97 = .ok (.invokestatic 125, 3) := by decide +kernel
theorem dX12_howOften_100 : decode cX12_howOften 100 = .ok (.istore 5, 2) := by decide +kernel
theorem dX12_howOften_102 : decode cX12_howOften 102 = .ok (.aload_n 0, 1) := by decide +kernel
theorem dX12_howOften_103 : decode cX12_howOften 103 = .ok (.getfield 45, 3) := by decide +kernel
theorem dX12_howOften_106 : decode cX12_howOften 106 = .ok (.iload 6, 2) := by decide +kernel
theorem dX12_howOften_108 : decode cX12_howOften 108 = .ok (.iload 5, 2) := by decide +kernel
theorem dX12_howOften_110 : decode cX12_howOften 110 = .ok (.iastore, 1) := by decide +kernel
theorem dX12_howOften_111 : decode cX12_howOften 111 = .ok (.iinc 6 (-1), 3) := by decide +kernel
theorem dX12_howOften_114 : decode cX12_howOften 114 = .ok (.goto (-51), 3) := by decide +kernel
theorem dX12_howOften_117 : decode cX12_howOften 117 = .ok (.aload_n 0, 1) := by decide +kernel
theorem dX12_howOften_118 : decode cX12_howOften 118 = .ok (.getfield 45, 3) := by decide +kernel
theorem dX12_howOften_121 : decode cX12_howOften 121 = .ok (.iconst 0, 1) := by decide +kernel
theorem dX12_howOften_122 : decode cX12_howOften 122 = .ok (.iaload, 1) := by decide +kernel
theorem dX12_howOften_123 : decode cX12_howOften 123 = .ok (.iload 5, 2) := by decide +kernel
theorem dX12_howOften_125 : decode cX12_howOften 125 = .ok (.iload_n 1, 1) := by decide +kernel
theorem dX12_howOften_126 : decode cX12_howOften 126 = .ok (.imul, 1) := by decide +kernel
theorem dX12_howOften_127 : decode cX12_howOften 127 = .ok (.sipush 10007, 3) := by decide +kernel
theorem dX12_howOften_130 : decode cX12_howOften 130 = .ok (.irem, 1) := by decide +kernel
theorem dX12_howOften_131 : decode cX12_howOften 131 = .ok (.isub, 1) := by decide +kernel
theorem dX12_howOften_132 : decode cX12_howOften 132 = .ok (.invokestatic 125, 3) := by decide +kernel
theorem dX12_howOften_135 : decode cX12_howOften 135 = .ok (.ifCond .ne 7, 3) := by decide +kernel
theorem dX12_howOften_138 : decode cX12_howOften 138 = .ok (.iconst 1, 1) := by decide +kernel
theorem dX12_howOften_139 : decode cX12_howOften 139 = .ok (.goto 4, 3) := by decide +kernel
theorem dX12_howOften_142 : decode cX12_howOften 142 = .ok (.iconst 0, 1) := by decide +kernel
theorem dX12_howOften_143 : decode cX12_howOften 143 = .ok (.istore 4, 2) := by decide +kernel
theorem dX12_howOften_145 : decode cX12_howOften 145 = .ok (.iload_n 2, 1) := by decide +kernel
theorem dX12_howOften_146 : decode cX12_howOften 146 = .ok (.iload 4, 2) := by decide +kernel
theorem dX12_howOften_148 : decode cX12_howOften 148 = .ok (.ifCond .eq 7, 3) := by decide +kernel
theorem dX12_howOften_151 : decode cX12_howOften 151 = .ok (.iconst 1, 1) := by decide +kernel
theorem dX12_howOften_152 : decode cX12_howOften 152 = .ok (.goto 4, 3) := by decide +kernel
theorem dX12_howOften_155 : decode cX12_howOften 155 = .ok (.iconst 0, 1) := by decide +kernel
theorem dX12_howOften_156 : decode cX12_howOften 156 = .ok (.iadd, 1) := by decide +kernel
theorem dX12_howOften_157 : decode cX12_howOften 157 = .ok (.istore_n 2, 1) := by decide +kernel
theorem dX12_howOften_158 : decode cX12_howOften 158 = .ok (.iconst 0, 1) := by decide +kernel
theorem dX12_howOften_159 : decode cX12_howOften 159 = .ok (.istore 6, 2) := by decide +kernel
theorem dX12_howOften_161 : decode cX12_howOften 161 = .ok (.iload 6, 2) := by decide +kernel
theorem dX12_howOften_163 : decode cX12_howOften 163 = .ok (.iload_n 3, 1) := by decide +kernel
theorem dX12_howOften_164 : decode cX12_howOften 164 = .ok (.if_icmp .ge 25, 3) := by decide +kernel
theorem dX12_howOften_167 : decode cX12_howOften 167 = .ok (.aload_n 0, 1) := by decide +kernel
theorem dX12_howOften_168 : decode cX12_howOften 168 = .ok (.getfield 45, 3) := by decide +kernel
theorem dX12_howOften_171 : decode cX12_howOften 171 = .ok (.iload 6, 2) := by decide +kernel
theorem dX12_howOften_173 : decode cX12_howOften 173 = .ok (.aload_n 0, 1) := by decide +kernel
theorem dX12_howOften_174 : decode cX12_howOften 174 = .ok (.getfield 45, 3) := by decide +kernel
theorem dX12_howOften_177 : decode cX12_howOften 177 = .ok (.iload 6, 2) := by decide +kernel
theorem dX12_howOften_179 : decode cX12_howOften 179 = .ok (.iconst 1, 1) := by decide +kernel
theorem dX12_howOften_180 : decode cX12_howOften 180 = .ok (.iadd, 1) := by decide +kernel
theorem dX12_howOften_181 : decode cX12_howOften 181 = .ok (.iaload, 1) := by decide +kernel
theorem dX12_howOften_182 : decode cX12_howOften 182 = .ok (.iastore, 1) := by decide +kernel
theorem dX12_howOften_183 : decode cX12_howOften 183 = .ok (.iinc 6 1, 3) := by decide +kernel
theorem dX12_howOften_186 : decode cX12_howOften 186 = .ok (.goto (-25), 3) := by decide +kernel
theorem dX12_howOften_189 : decode cX12_howOften 189 = .ok (.aload_n 0, 1) := by decide +kernel
theorem dX12_howOften_190 : decode cX12_howOften 190 = .ok (.getfield 45, 3) := by decide +kernel
theorem dX12_howOften_193 : decode cX12_howOften 193 = .ok (.iload_n 3, 1) := by decide +kernel
theorem dX12_howOften_194 : decode cX12_howOften 194 = .ok (.iconst 0, 1) := by decide +kernel
theorem dX12_howOften_195 : decode cX12_howOften 195 = .ok (.iastore, 1) := by decide +kernel
theorem dX12_howOften_196 : decode cX12_howOften 196 = .ok (.iinc 3 (-1), 3) := by decide +kernel
theorem dX12_howOften_199 : decode cX12_howOften 199 = .ok (.goto (-151), 3) := by decide +kernel
theorem dX12_howOften_202 : decode cX12_howOften 202 = .ok (.iload_n 2, 1) := by decide +kernel
theorem dX12_howOften_203 : decode cX12_howOften 203 = .ok (.ireturn, 1) := by decide +kernel
theorem dX12_divisor_0 : decode cX12_divisor 0 = .ok (.iload_n 0, 1) := by decide +kernel
theorem dX12_divisor_1 : decode cX12_divisor 1 = .ok (.istore_n 2, 1) := by decide +kernel
theorem dX12_divisor_2 : decode cX12_divisor 2 = .ok (.iload_n 1, 1) := by decide +kernel
theorem dX12_divisor_3 : decode cX12_divisor 3 = .ok (.istore_n 3, 1) := by decide +kernel
theorem dX12_divisor_4 : decode cX12_divisor 4 = .ok (.iload_n 3, 1) := by decide +kernel
theorem dX12_divisor_5 : decode cX12_divisor 5 = .ok (.ifCond .eq 16, 3) := by decide +kernel
theorem dX12_divisor_8 : decode cX12_divisor 8 = .ok (.iload_n 2, 1) := by decide +kernel
theorem dX12_divisor_9 : decode cX12_divisor 9 = .ok (.iload_n 3, 1) := by decide +kernel
theorem dX12_divisor_10 : decode cX12_divisor 10 = .ok (.irem, 1) := by decide +kernel
theorem dX12_divisor_11 : decode cX12_divisor 11 = .ok (.istore 4, 2) := by decide +kernel
theorem dX12_divisor_13 : decode cX12_divisor 13 = .ok (.iload_n 3, 1) := by decide +kernel
theorem dX12_divisor_14 : decode cX12_divisor 14 = .ok (.istore_n 2, 1) := by decide +kernel
theorem dX12_divisor_15 : decode cX12_divisor 15 = .ok (.iload 4, 2) := by decide +kernel
theorem dX12_divisor_17 : decode cX12_divisor 17 = .ok (.istore_n 3, 1) := by decide +kernel
theorem dX12_divisor_18 : decode cX12_divisor 18 = .ok (.goto (-14), 3) := by decide +kernel
theorem dX12_divisor_21 : decode cX12_divisor 21 = .ok (.iload_n 2, 1) := by decide +kernel
theorem dX12_divisor_22 : decode cX12_divisor 22 = .ok (.ireturn, 1) := by decide +kernel
set_option maxRecDepth 20000 in
theorem ggX12_rootAt_X12_divisor : GoodIn wsX12_rootAt wsX12_divisor := goodIn_r _ [4] (by decide +kernel) (by decide +kernel)
set_option maxRecDepth 20000 in
theorem gX12_rootAt_X12_divisor : GoodIn wsX12_rootAt (va_wsS RX12 206 yX12_divisor wsX12_divisor) := goodIn_app (goodIn_of _ (by decide +kernel)) ggX12_rootAt_X12_divisor
set_option maxRecDepth 20000 in
theorem ggX12_rootAt_X12_inverse : GoodIn wsX12_rootAt wsX12_inverse := goodIn_r _ [7] (by decide +kernel) (by decide +kernel)
set_option maxRecDepth 20000 in
theorem gX12_rootAt_X12_inverse : GoodIn wsX12_rootAt (va_wsS RX12 172 yX12_inverse wsX12_inverse) := goodIn_app (goodIn_of _ (by decide +kernel)) ggX12_rootAt_X12_inverse
set_option maxRecDepth 20000 in
theorem ggX12_rootAt_X12_howOften : GoodIn wsX12_rootAt wsX12_howOften := goodIn_r _ [11, 12, 13, 14, 15, 16, 3, 17, 18, 19, 20, 21, 22, 23, 24, 25, 26, 27, 28, 29, 30, 31, 32, 33, 34, 35, 36, 37, 38, 39, 40, 41, 42, 43, 44, 45, 46, 47, 48, 49, 50, 51, 52, 53, 54, 55, 56, 57, 58, 59, 60, 61, 62, 63, 64, 65, 66] (by decide +kernel) (by decide +kernel)
set_option maxRecDepth 20000 in
theorem gX12_rootAt_X12_howOften : GoodIn wsX12_rootAt (wsV RX12 209 RX12 yX12_howOften wsX12_howOften) := goodIn_app (goodIn_of _ (by decide +kernel)) ggX12_rootAt_X12_howOften
theorem dX12_rootAt_0 : decode cX12_rootAt 0 = .ok (.iconst 0, 1) := by decide +kernel
theorem dX12_rootAt_1 : decode cX12_rootAt 1 = .ok (.istore_n 2, 1) := by decide +kernel
theorem dX12_rootAt_2 : decode cX12_rootAt 2 = .ok (.iconst 1, 1) := by decide +kernel
theorem dX12_rootAt_3 : decode cX12_rootAt 3 = .ok (.istore_n 3, 1) := by decide +kernel
theorem dX12_rootAt_4 : decode cX12_rootAt 4 = .ok (.iload_n 3, 1) := by decide +kernel
theorem dX12_rootAt_5 : decode cX12_rootAt 5 = .ok (.bipush 6, 2) := by decide +kernel
theorem dX12_rootAt_7 : decode cX12_rootAt 7 = .ok (.if_icmp .gt 71, 3) := by decide +kernel
theorem dX12_rootAt_10 : decode cX12_rootAt 10 = .ok (.iconst 0, 1) := by decide +kernel
theorem dX12_rootAt_11 : decode cX12_rootAt 11 = .ok (.istore 4, 2) := by decide +kernel
theorem dX12_rootAt_13 : decode cX12_rootAt 13 = .ok (.iload 4, 2) := by decide +kernel
theorem dX12_rootAt_15 : decode cX12_rootAt 15 = .ok (.bipush 24, 2) := by decide +kernel
theorem dX12_rootAt_17 : decode cX12_rootAt 17 = .ok (.if_icmp .gt 55, 3) := by decide +kernel
theorem dX12_rootAt_20 : decode cX12_rootAt 20 = .ok (.iload 4, 2) := by decide +kernel
theorem dX12_rootAt_22 : decode cX12_rootAt 22 = .ok (.iload_n 3, 1) := by decide +kernel
theorem dX12_rootAt_23 : decode cX12_rootAt 23 = .ok (.invokestatic 206, 3) := by decide +kernel
theorem dX12_rootAt_26 : decode cX12_rootAt 26 = .ok (.iconst 1, 1) := by decide +kernel
theorem dX12_rootAt_27 : decode cX12_rootAt 27 = .ok (.if_icmp .ne 39, 3) := by decide +kernel
theorem dX12_rootAt_30 : decode cX12_rootAt 30 = .ok (.aload_n 0, 1) := by decide +kernel
theorem dX12_rootAt_31 : decode cX12_rootAt 31 = .ok (.iload 4, 2) := by decide +kernel
theorem dX12_rootAt_33 : decode cX12_rootAt 33 = .ok (.iload_n 3, 1) := by decide +kernel
theorem dX12_rootAt_34 : decode cX12_rootAt 34 = .ok (.invokestatic 172, 3) := by decide +kernel
theorem dX12_rootAt_37 : decode cX12_rootAt 37 = .ok (.imul, 1) := by decide +kernel
theorem dX12_rootAt_38 : decode cX12_rootAt 38 = .ok (.sipush 10007, 3) := by decide +kernel
theorem dX12_rootAt_41 : decode cX12_rootAt 41 = .ok (.irem, 1) := by decide +kernel
theorem dX12_rootAt_42 : decode cX12_rootAt 42 = .ok (.invokevirtual 209, 3) := by decide +kernel
theorem dX12_rootAt_45 : decode cX12_rootAt 45 = .ok (.ifCond .le 21, 3) := by decide +kernel
theorem dX12_rootAt_48 : decode cX12_rootAt 48 = .ok (.iload_n 2, 1) := by decide +kernel
theorem dX12_rootAt_49 : decode cX12_rootAt 49 = .ok (.iload_n 1, 1) := by decide +kernel
theorem dX12_rootAt_50 : decode cX12_rootAt 50 = .ok (.if_icmp .ne 13, 3) := by decide +kernel
theorem dX12_rootAt_53 : decode cX12_rootAt 53 = .ok (.bipush 6, 2) := by decide +kernel
theorem dX12_rootAt_55 : decode cX12_rootAt 55 = .ok (.iload 4, 2) := by decide +kernel
theorem dX12_rootAt_57 : decode cX12_rootAt 57 = .ok (.imul, 1) := by decide +kernel
theorem dX12_rootAt_58 : decode cX12_rootAt 58 = .ok (.iload_n 3, 1) := by decide +kernel
theorem dX12_rootAt_59 : decode cX12_rootAt 59 = .ok (.iadd, 1) := by decide +kernel
theorem dX12_rootAt_60 : decode cX12_rootAt 60 = .ok (.iconst 1, 1) := by decide +kernel
theorem dX12_rootAt_61 : decode cX12_rootAt 61 = .ok (.isub, 1) := by decide +kernel
theorem dX12_rootAt_62 : decode cX12_rootAt 62 = .ok (.ireturn, 1) := by decide +kernel
theorem dX12_rootAt_63 : decode cX12_rootAt 63 = .ok (.iinc 2 1, 3) := by decide +kernel
theorem dX12_rootAt_66 : decode cX12_rootAt 66 = .ok (.iinc 4 1, 3) := by decide +kernel
theorem dX12_rootAt_69 : decode cX12_rootAt 69 = .ok (.goto (-56), 3) := by decide +kernel
theorem dX12_rootAt_72 : decode cX12_rootAt 72 = .ok (.iinc 3 1, 3) := by decide +kernel
theorem dX12_rootAt_75 : decode cX12_rootAt 75 = .ok (.goto (-71), 3) := by decide +kernel
theorem dX12_rootAt_78 : decode cX12_rootAt 78 = .ok (.iconst (-1), 1) := by decide +kernel
theorem dX12_rootAt_79 : decode cX12_rootAt 79 = .ok (.iload_n 2, 1) := by decide +kernel
theorem dX12_rootAt_80 : decode cX12_rootAt 80 = .ok (.isub, 1) := by decide +kernel
theorem dX12_rootAt_81 : decode cX12_rootAt 81 = .ok (.ireturn, 1) := by decide +kernel
set_option maxRecDepth 20000 in
theorem ggX12_roots_X12_rootAt : GoodIn wsX12_roots wsX12_rootAt := goodIn_r _ [6, 7, 8, 5, 9, 10, 11, 12, 13, 14, 15, 16, 17, 18, 19, 20, 21, 22, 23, 24, 25, 26, 27, 28, 29, 30, 31, 32, 33, 34, 35, 36, 37, 38, 39, 40, 41, 42, 43, 44, 45, 46, 47, 48, 49, 50, 51, 52, 53, 54, 55, 56, 57, 58, 59, 60, 61, 62, 63, 64, 65, 66, 67, 68, 69, 70, 71] (by decide +kernel) (by decide +kernel)
set_option maxRecDepth 20000 in
theorem gX12_roots_X12_rootAt : GoodIn wsX12_roots (wsV RX12 212 RX12 yX12_rootAt wsX12_rootAt) := goodIn_app (goodIn_of _ (by decide +kernel)) ggX12_roots_X12_rootAt
theorem dX12_roots_0 : decode cX12_roots 0 = .ok (.aload_n 0, 1) := by decide +kernel
theorem dX12_roots_1 : decode cX12_roots 1 = .ok (.getfield 183, 3) := by decide +kernel
theorem dX12_roots_4 : decode cX12_roots 4 = .ok (.ifCond .eq 13, 3) := by decide +kernel
theorem dX12_roots_7 : decode cX12_roots 7 = .ok (.iconst (-1), 1) := by decide +kernel
theorem dX12_roots_8 : decode cX12_roots 8 = .ok (.aload_n 0, 1) := by decide +kernel
theorem dX12_roots_9 : decode cX12_roots 9 = .ok (.iconst (-1), 1) := by decide +kernel
theorem dX12_roots_10 : decode cX12_roots 10 = .ok (.invokevirtual 212, 3) := by decide +kernel
theorem dX12_roots_13 : decode cX12_roots 13 = .ok (.isub, 1) := by decide +kernel
theorem dX12_roots_14 : decode cX12_roots 14 = .ok (.goto 5, 3) := by decide +kernel
theorem dX12_roots_17 : decode cX12_roots 17 = .ok (.bipush (-3), 2) := by decide +kernel
theorem dX12_roots_19 : decode cX12_roots 19 = .ok (.ireturn, 1) := by decide +kernel
set_option maxRecDepth 20000 in
theorem ggX12_root_X12_rootAt : GoodIn wsX12_root wsX12_rootAt := goodIn_r _ [6, 7, 8, 5, 9, 10, 11, 12, 13, 14, 15, 16, 17, 18, 19, 20, 21, 22, 23, 24, 25, 26, 30, 31, 32, 33, 34, 35, 36, 37, 38, 39, 40, 41, 42, 43, 44, 45, 46, 47, 48, 49, 50, 51, 52, 53, 54, 55, 56, 57, 58, 59, 60, 61, 62, 63, 64, 65, 66, 67, 68, 69, 70, 71, 72, 73, 74] (by decide +kernel) (by decide +kernel)
set_option maxRecDepth 20000 in
theorem gX12_root_X12_rootAt : GoodIn wsX12_root (wsV RX12 212 RX12 yX12_rootAt wsX12_rootAt) := goodIn_app (goodIn_of _ (by decide +kernel)) ggX12_root_X12_rootAt
set_option maxRecDepth 20000 in
theorem ggX12_root_X12_isIn : GoodIn wsX12_root wsX12_isIn := goodIn_r _ [29] (by decide +kernel) (by decide +kernel)
set_option maxRecDepth 20000 in
theorem gX12_root_X12_isIn : GoodIn wsX12_root (va_wsS RX12 121 yX12_isIn wsX12_isIn) := goodIn_app (goodIn_of _ (by decide +kernel)) ggX12_root_X12_isIn
set_option maxRecDepth 20000 in
theorem ggX12_root_X12_inverse : GoodIn wsX12_root wsX12_inverse := goodIn_r _ [12] (by decide +kernel) (by decide +kernel)
set_option maxRecDepth 20000 in
theorem gX12_root_X12_inverse : GoodIn wsX12_root (va_wsS RX12 172 yX12_inverse wsX12_inverse) := goodIn_app (goodIn_of _ (by decide +kernel)) ggX12_root_X12_inverse
set_option maxRecDepth 20000 in
theorem ggX12_root_X12_howOften : GoodIn wsX12_root wsX12_howOften := goodIn_r _ [16, 17, 18, 19, 20, 21, 5, 22, 23, 24, 25, 26, 30, 31, 32, 33, 34, 35, 36, 37, 38, 39, 40, 41, 42, 43, 44, 45, 46, 47, 48, 49, 50, 51, 52, 53, 54, 55, 56, 57, 58, 59, 60, 61, 62, 63, 64, 65, 66, 67, 68, 69, 70, 71, 72, 73, 74] (by decide +kernel) (by decide +kernel)
set_option maxRecDepth 20000 in
theorem gX12_root_X12_howOften : GoodIn wsX12_root (wsV RX12 209 RX12 yX12_howOften wsX12_howOften) := goodIn_app (goodIn_of _ (by decide +kernel)) ggX12_root_X12_howOften
theorem dX12_root_0 : decode cX12_root 0 = .ok (.aload_n 0, 1) := by decide +kernel
theorem dX12_root_1 : decode cX12_root 1 = .ok (.getfield 183, 3) := by decide +kernel
theorem dX12_root_4 : decode cX12_root 4 = .ok (.ifCond .ne 6, 3) := by decide +kernel
theorem dX12_root_7 : decode cX12_root 7 = .ok (.bipush (-3), 2) := by decide +kernel
theorem dX12_root_9 : decode cX12_root 9 = .ok (.ireturn, 1) := by decide +kernel
theorem dX12_root_10 : decode cX12_root 10 = .ok (.iload_n 1, 1) := by decide +kernel
theorem dX12_root_11 : decode cX12_root 11 = .ok (.ifCond .ge 7, 3) := by decide +kernel
theorem dX12_root_14 : decode cX12_root 14 = .ok (.iconst (-1), 1) := by decide +kernel
theorem dX12_root_15 : decode cX12_root 15 = .ok (.goto 8, 3) := by decide +kernel
theorem dX12_root_18 : decode cX12_root 18 = .ok (.aload_n 0, 1) := by decide +kernel
theorem dX12_root_19 : decode cX12_root 19 = .ok (.iload_n 1, 1) := by decide +kernel
theorem dX12_root_20 : decode cX12_root 20 = .ok (.invokevirtual 212, 3) := by decide +kernel
theorem dX12_root_23 : decode cX12_root 23 = .ok (.istore_n 3, 1) := by decide +kernel
theorem dX12_root_24 : decode cX12_root 24 = .ok (.iload_n 3, 1) := by decide +kernel
theorem dX12_root_25 : decode cX12_root 25 = .ok (.ifCond .lt 12, 3) := by decide +kernel
theorem dX12_root_28 : decode cX12_root 28 = .ok (.iload_n 2, 1) := by decide +kernel
theorem dX12_root_29 : decode cX12_root 29 = .ok (.iconst 0, 1) := by decide +kernel
theorem dX12_root_30 : decode cX12_root 30 = .ok (.iconst 2, 1) := by decide +kernel
theorem dX12_root_31 : decode cX12_root 31 = .ok (.invokestatic 121, 3) := by decide +kernel
theorem dX12_root_34 : decode cX12_root 34 = .ok (.ifCond .ne 5, 3) := by decide +kernel
theorem dX12_root_37 : decode cX12_root 37 = .ok (.iconst (-1), 1) := by decide +kernel
theorem dX12_root_38 : decode cX12_root 38 = .ok (.ireturn, 1) := by decide +kernel
theorem dX12_root_39 : decode cX12_root 39 = .ok (.iload_n 3, 1) := by decide +kernel
theorem dX12_root_40 : decode cX12_root 40 = .ok (.bipush 6, 2) := by decide +kernel
theorem dX12_root_42 : decode cX12_root 42 = .ok (.idiv, 1) := by decide +kernel
theorem dX12_root_43 : decode cX12_root 43 = .ok (.istore 4, 2) := by decide +kernel
theorem dX12_root_45 : decode cX12_root 45 = .ok (.iload_n 3, 1) := by decide +kernel
theorem dX12_root_46 : decode cX12_root 46 = .ok (.bipush 6, 2) := by decide +kernel
theorem dX12_root_48 : decode cX12_root 48 = .ok (.irem, 1) := by decide +kernel
theorem dX12_root_49 : decode cX12_root 49 = .ok (.iconst 1, 1) := by decide +kernel
theorem dX12_root_50 : decode cX12_root 50 = .ok (.iadd, 1) := by decide +kernel
theorem dX12_root_51 : decode cX12_root 51 = .ok (.istore 5, 2) := by decide +kernel
theorem dX12_root_53 : decode cX12_root 53 = .ok (.iload_n 2, 1) := by decide +kernel
theorem dX12_root_54 : decode cX12_root 54 = .ok (.ifCond .ne 8, 3) := by decide +kernel
theorem dX12_root_57 : decode cX12_root 57 = .ok (.iload 4, 2) := by decide +kernel
theorem dX12_root_59 : decode cX12_root 59 = .ok (.goto 29, 3) := by decide +kernel
theorem dX12_root_62 : decode cX12_root 62 = .ok (.iload_n 2, 1) := by decide +kernel
theorem dX12_root_63 : decode cX12_root 63 = .ok (.iconst 1, 1) := by decide +kernel
theorem dX12_root_64 : decode cX12_root 64 = .ok (.if_icmp .ne 8, 3) := by decide +kernel
theorem dX12_root_67 : decode cX12_root 67 = .ok (.iload 5, 2) := by decide +kernel
theorem dX12_root_69 : decode cX12_root 69 = .ok (.goto 19, 3) := by decide +kernel
theorem dX12_root_72 : decode cX12_root 72 = .ok (.aload_n 0, 1) := by decide +kernel
theorem dX12_root_73 : decode cX12_root 73 = .ok (.iload 4, 2) := by decide +kernel
theorem dX12_root_75 : decode cX12_root 75 = .ok (.iload 5, 2) := by decide +kernel
theorem dX12_root_77 : decode cX12_root 77 = .ok (.invokestatic 172, 3) := by decide +kernel
theorem dX12_root_80 : decode cX12_root 80 = .ok (.imul, 1) := by decide +kernel
theorem dX12_root_81 : decode cX12_root 81 = .ok (.sipush 10007, 3) := by decide +kernel
theorem dX12_root_84 : decode cX12_root 84 = .ok (.irem, 1) := by decide +kernel
theorem dX12_root_85 : decode cX12_root 85 = .ok (.invokevirtual 209, 3) := by decide +kernel
theorem dX12_root_88 : decode cX12_root 88 = .ok (.ireturn, 1) := by decide +kernel
set_option maxRecDepth 20000 in
theorem ggX12_easy_X12_isIn : GoodIn wsX12_easy wsX12_isIn := goodIn_r _ [5] (by decide +kernel) (by decide +kernel)
set_option maxRecDepth 20000 in
theorem gX12_easy_X12_isIn : GoodIn wsX12_easy (va_wsS RX12 121 yX12_isIn wsX12_isIn) := goodIn_app (goodIn_of _ (by decide +kernel)) ggX12_easy_X12_isIn
set_option maxRecDepth 20000 in
theorem ggX12_easy_X12_inverse : GoodIn wsX12_easy wsX12_inverse := goodIn_r _ [8] (by decide +kernel) (by decide +kernel)
set_option maxRecDepth 20000 in
theorem gX12_easy_X12_inverse : GoodIn wsX12_easy (va_wsS RX12 172 yX12_inverse wsX12_inverse) := goodIn_app (goodIn_of _ (by decide +kernel)) ggX12_easy_X12_inverse
set_option maxRecDepth 20000 in
theorem ggX12_easy_X12_told : GoodIn wsX12_easy wsX12_told := goodIn_r _ [11, 12, 13, 14, 4, 15] (by decide +kernel) (by decide +kernel)
set_option maxRecDepth 20000 in
theorem gX12_easy_X12_told : GoodIn wsX12_easy (va_wsS RX12 128 yX12_told wsX12_told) := goodIn_app (goodIn_of _ (by decide +kernel)) ggX12_easy_X12_told
theorem dX12_easy_0 : decode cX12_easy 0 = .ok (.iload_n 1, 1) := by decide +kernel
theorem dX12_easy_1 : decode cX12_easy 1 = .ok (.iconst 1, 1) := by decide +kernel
theorem dX12_easy_2 : decode cX12_easy 2 = .ok (.iconst 4, 1) := by decide +kernel
theorem dX12_easy_3 : decode cX12_easy 3 = .ok (.invokestatic 121, 3) := by decide +kernel
theorem dX12_easy_6 : decode cX12_easy 6 = .ok (.ifCond .ne 6, 3) := by decide +kernel
theorem dX12_easy_9 : decode cX12_easy 9 = .ok (.bipush (-2), 2) := by decide +kernel
theorem dX12_easy_11 : decode cX12_easy 11 = .ok (.ireturn, 1) := by decide +kernel
theorem dX12_easy_12 : decode cX12_easy 12 = .ok (.iload_n 2, 1) := by decide +kernel
theorem dX12_easy_13 : decode cX12_easy 13 = .ok (.iconst 0, 1) := by decide +kernel
theorem dX12_easy_14 : decode cX12_easy 14 = .ok (.iload_n 1, 1) := by decide +kernel
theorem dX12_easy_15 : decode cX12_easy 15 = .ok (.invokestatic 121, 3) := by decide +kernel
theorem dX12_easy_18 : decode cX12_easy 18 = .ok (.ifCond .ne 5, 3) := by decide +kernel
theorem dX12_easy_21 : decode cX12_easy 21 = .ok (.iconst (-1), 1) := by decide +kernel
theorem dX12_easy_22 : decode cX12_easy 22 = .ok (.ireturn, 1) := by decide +kernel
theorem dX12_easy_23 : decode cX12_easy 23 = .ok (.iconst 0, 1) := by decide +kernel
theorem dX12_easy_24 : decode cX12_easy 24 = .ok (.istore_n 3, 1) := by decide +kernel
theorem dX12_easy_25 : decode cX12_easy 25 = .ok (.iload_n 3, 1) := by decide +kernel
theorem dX12_easy_26 : decode cX12_easy 26 = .ok (.bipush 9, 2) := by decide +kernel
theorem dX12_easy_28 : decode cX12_easy 28 = .ok (.if_icmp .ge 24, 3) := by decide +kernel
theorem dX12_easy_31 : decode cX12_easy 31 = .ok (.aload_n 0, 1) := by decide +kernel
theorem dX12_easy_32 : decode cX12_easy 32 = .ok (.getfield 45, 3) := by decide +kernel
theorem dX12_easy_35 : decode cX12_easy 35 = .ok (.iload_n 3, 1) := by decide +kernel
theorem dX12_easy_36 : decode cX12_easy 36 = .ok (.iload_n 3, 1) := by decide +kernel
theorem dX12_easy_37 : decode cX12_easy 37 = .ok (.ifCond .ne 7, 3) := by decide +kernel
theorem dX12_easy_40 : decode cX12_easy 40 = .ok (.iconst 1, 1) := by decide +kernel
theorem dX12_easy_41 : decode cX12_easy 41 = .ok (.goto 4, 3) := by decide +kernel
theorem dX12_easy_44 : decode cX12_easy 44 = .ok (.iconst 0, 1) := by decide +kernel
theorem dX12_easy_45 : decode cX12_easy 45 = .ok (.iastore, 1) := by decide +kernel
theorem dX12_easy_46 : decode cX12_easy 46 = .ok (.iinc 3 1, 3) := by decide +kernel
theorem dX12_easy_49 : decode cX12_easy 49 = .ok (.goto (-24), 3) := by decide +kernel
theorem dX12_easy_52 : decode cX12_easy 52 = .ok (.iconst 1, 1) := by decide +kernel
theorem dX12_easy_53 : decode cX12_easy 53 = .ok (.istore_n 3, 1) := by decide +kernel
theorem dX12_easy_54 : decode cX12_easy 54 = .ok (.iload_n 3, 1) := by decide +kernel
theorem dX12_easy_55 : decode cX12_easy 55 = .ok (.iload_n 1, 1) := by decide +kernel
theorem dX12_easy_56 : decode cX12_easy 56 = .ok (.if_icmp .gt 75, 3) := by decide +kernel
theorem dX12_easy_59 : decode cX12_easy 59 = .ok (.iload_n 3, 1) := by decide +kernel
theorem dX12_easy_60 : decode cX12_easy 60 = .ok (.iload_n 1, 1) := by decide +kernel
theorem dX12_easy_61 : decode cX12_easy 61 = .ok (.invokestatic 172, 3) := by decide +kernel
theorem dX12_easy_64 : decode cX12_easy 64 = .ok (.imul, 1) := by decide +kernel
theorem dX12_easy_65 : decode cX12_easy 65 = .ok (.sipush 10007, 3) := by decide +kernel
theorem dX12_easy_68 : decode cX12_easy 68 = .ok (.irem, 1) := by decide +kernel
theorem dX12_easy_69 : decode cX12_easy 69 = .ok (.istore 4, 2) := by decide +kernel
theorem dX12_easy_71 : decode cX12_easy 71 = .ok (.iload_n 1, 1) := by decide +kernel
theorem dX12_easy_72 : decode cX12_easy 72 = .ok (.istore 5, 2) := by decide +kernel
theorem dX12_easy_74 : decode cX12_easy 74 = .ok (.iload 5, 2) := by decide +kernel
theorem dX12_easy_76 : decode cX12_easy 76 = .ok (.ifCond .lt 49, 3) := by decide +kernel
theorem dX12_easy_79 : decode cX12_easy 79 = .ok (.aload_n 0, 1) := by decide +kernel
theorem dX12_easy_80 : decode cX12_easy 80 = .ok (.getfield 45, 3) := by decide +kernel
theorem dX12_easy_83 : decode cX12_easy 83 = .ok (.iload 5, 2) := by decide +kernel
theorem dX12_easy_85 : decode cX12_easy 85 = .ok (.aload_n 0, 1) := by decide +kernel
theorem dX12_easy_86 : decode cX12_easy 86 = .ok (.getfield 45, 3) := by decide +kernel
theorem dX12_easy_89 : decode cX12_easy 89 = .ok (.iload 5, 2) := by decide +kernel
theorem dX12_easy_91 : decode cX12_easy 91 = .ok (.iaload, 1) := by decide +kernel
theorem dX12_easy_92 : decode cX12_easy 92 = .ok (.iload 4, 2) := by decide +kernel
theorem dX12_easy_94 : decode cX12_easy 94 = .ok (.imul, 1) := by decide +kernel
theorem dX12_easy_95 : decode cX12_easy 95 = .ok (.iload 5, 2) := by decide +kernel
theorem dX12_easy_97 : decode cX12_easy 97 = .ok (.ifCond .le 15, 3) := by decide +kernel
theorem dX12_easy_100 : decode cX12_easy 100 = .ok (.aload_n 0, 1) := by decide +kernel
theorem dX12_easy_101 : decode cX12_easy 101 = .ok (.getfield 45, 3) := by decide +kernel
theorem dX12_easy_104 : decode cX12_easy 104 = .ok (.iload 5, 2) := by decide +kernel
theorem dX12_easy_106 : decode cX12_easy 106 = .ok (.iconst 1, 1) := by decide +kernel
theorem dX12_easy_107 : decode cX12_easy 107 = .ok (.isub, 1) := by decide +kernel
theorem dX12_easy_108 : decode cX12_easy 108 = .ok (.iaload, 1) := by decide +kernel
theorem dX12_easy_109 : decode cX12_easy 109 = .ok (.goto 4, 3) := by decide +kernel
theorem dX12_easy_112 : decode cX12_easy 112 = .ok (.iconst 0, 1) := by decide +kernel
theorem dX12_easy_113 : decode cX12_easy 113 = .ok (.iadd, 1) := by decide +kernel
theorem dX12_easy_114 : decode cX12_easy 114 = .ok (.sipush 10007, 3) := by decide +kernel
theorem dX12_easy_117 : decode cX12_easy 117 = .ok (.irem, 1) := by decide +kernel
theorem dX12_easy_118 : decode cX12_easy 118 = .ok (.iastore, 1) := by decide +kernel
theorem dX12_easy_119 : decode cX12_easy 119 = .ok (.iinc 5 (-1), 3) := by decide +kernel
theorem dX12_easy_122 : decode cX12_easy 122 = .ok (.goto (-48), 3) := by decide +kernel
theorem dX12_easy_125 : decode cX12_easy 125 = .ok (.iinc 3 1, 3) := by decide +kernel
theorem dX12_easy_128 : decode cX12_easy 128 = .ok (.goto (-74), 3) := by decide +kernel
theorem dX12_easy_131 : decode cX12_easy 131 = .ok (.aload_n 0, 1) := by decide +kernel
theorem dX12_easy_132 : decode cX12_easy 132 = .ok (.getfield 45, 3) := by decide +kernel
theorem dX12_easy_135 : decode cX12_easy 135 = .ok (.iload_n 2, 1) := by decide +kernel
theorem dX12_easy_136 : decode cX12_easy 136 = .ok (.iaload, 1) := by decide +kernel
theorem dX12_easy_137 : decode cX12_easy 137 = .ok (.invokestatic 128, 3) := by decide +kernel
theorem dX12_easy_140 : decode cX12_easy 140 = .ok (.ireturn, 1) := by decide +kernel
theorem dX12_power_0 : decode cX12_power 0 = .ok (.iconst 1, 1) := by decide +kernel
theorem dX12_power_1 : decode cX12_power 1 = .ok (.istore_n 3, 1) := by decide +kernel
theorem dX12_power_2 : decode cX12_power 2 = .ok (.iconst 0, 1) := by decide +kernel
theorem dX12_power_3 : decode cX12_power 3 = .ok (.istore 4, 2) := by decide +kernel
theorem dX12_power_5 : decode cX12_power 5 = .ok (.iload 4, 2) := by decide +kernel
theorem dX12_power_7 : decode cX12_power 7 = .ok (.iload_n 2, 1) := by decide +kernel
theorem dX12_power_8 : decode cX12_power 8 = .ok (.if_icmp .ge 17, 3) := by decide +kernel
theorem dX12_power_11 : decode cX12_power 11 = .ok (.iload_n 3, 1) := by decide +kernel
theorem dX12_power_12 : decode cX12_power 12 = .ok (.iload_n 1, 1) := by decide +kernel
theorem dX12_power_13 : decode cX12_power 13 = .ok (.imul, 1) := by decide +kernel
theorem dX12_power_14 : decode cX12_power 14 = .ok (.sipush 10007, 3) := by decide +kernel
theorem dX12_power_17 : decode cX12_power 17 = .ok (.irem, 1) := by decide +kernel
theorem dX12_power_18 : decode cX12_power 18 = .ok (.istore_n 3, 1) := by decide +kernel
theorem dX12_power_19 : decode cX12_power 19 = .ok (.iinc 4 1, 3) := by decide +kernel
theorem dX12_power_22 : decode cX12_power 22 = .ok (.goto (-17), 3) := by decide +kernel
theorem dX12_power_25 : decode cX12_power 25 = .ok (.iload_n 3, 1) := by decide +kernel
theorem dX12_power_26 : decode cX12_power 26 = .ok (.ireturn, 1) := by decide +kernel
set_option maxRecDepth 20000 in
theorem ggX12_directs_X12_tellsPowers : GoodIn wsX12_directs wsX12_tellsPowers := goodIn_r _ [9, 2, 10, 18, 19, 20, 21, 22, 23, 24, 25, 26, 27, 28, 29, 30, 31, 32, 33, 34, 35, 36, 37, 38, 39, 40, 41, 42, 43, 44, 45, 46, 47, 48, 49, 50, 51, 52, 53, 54, 55, 56, 57, 58, 59, 60, 61, 62] (by decide +kernel) (by decide +kernel)
set_option maxRecDepth 20000 in
theorem gX12_directs_X12_tellsPowers : GoodIn wsX12_directs (wsV RX12 152 RX12 yX12_tellsPowers wsX12_tellsPowers) := goodIn_app (goodIn_of _ (by decide +kernel)) ggX12_directs_X12_tellsPowers
set_option maxRecDepth 20000 in
theorem ggX12_directs_X12_placeOf : GoodIn wsX12_directs wsX12_placeOf := goodIn_r _ [13] (by decide +kernel) (by decide +kernel)
set_option maxRecDepth 20000 in
theorem gX12_directs_X12_placeOf : GoodIn wsX12_directs (va_wsS RX12 138 yX12_placeOf wsX12_placeOf) := goodIn_app (goodIn_of _ (by decide +kernel)) ggX12_directs_X12_placeOf
set_option maxRecDepth 20000 in
theorem ggX12_directs_X12_power : GoodIn wsX12_directs wsX12_power := goodIn_r _ [17] (by decide +kernel) (by decide +kernel)
set_option maxRecDepth 20000 in
theorem gX12_directs_X12_power : GoodIn wsX12_directs (wsV RX12 215 RX12 yX12_power wsX12_power) := goodIn_app (goodIn_of _ (by decide +kernel)) ggX12_directs_X12_power
theorem dX12_directs_0 : decode cX12_directs 0 = .ok (.aload_n 0, 1) := by decide +kernel
theorem dX12_directs_1 : decode cX12_directs 1 = .ok (.invokevirtual 152, 3) := by decide +kernel
theorem dX12_directs_4 : decode cX12_directs 4 = .ok (.iconst 0, 1) := by decide +kernel
theorem dX12_directs_5 : decode cX12_directs 5 = .ok (.istore_n 2, 1) := by decide +kernel
theorem dX12_directs_6 : decode cX12_directs 6 = .ok (.iload_n 2, 1) := by decide +kernel
theorem dX12_directs_7 : decode cX12_directs 7 = .ok (.bipush 25, 2) := by decide +kernel
theorem dX12_directs_9 : decode cX12_directs 9 = .ok (.if_icmp .ge 35, 3) := by decide +kernel
theorem dX12_directs_12 : decode cX12_directs 12 = .ok (.aload_n 0, 1) := by decide +kernel
theorem dX12_directs_13 : decode cX12_directs 13 = .ok (.getfield 48, 3) := by decide +kernel
theorem dX12_directs_16 : decode cX12_directs 16 = .ok (.iload_n 2, 1) := by decide +kernel
theorem dX12_directs_17 : decode cX12_directs 17 = .ok (.aload_n 0, 1) := by decide +kernel
theorem dX12_directs_18 : decode cX12_directs 18 = .ok (.getfield 24, 3) := by decide +kernel
theorem dX12_directs_21 : decode cX12_directs 21 = .ok (.bipush 25, 2) := by decide +kernel
theorem dX12_directs_23 : decode cX12_directs 23 = .ok (.iload_n 1, 1) := by decide +kernel
theorem dX12_directs_24 : decode cX12_directs 24 = .ok (.iconst 1, 1) := by decide +kernel
theorem dX12_directs_25 : decode cX12_directs 25 = .ok (.iadd, 1) := by decide +kernel
theorem dX12_directs_26 : decode cX12_directs 26 = .ok (.imul, 1) := by decide +kernel
theorem dX12_directs_27 : decode cX12_directs 27 = .ok (.iload_n 2, 1) := by decide +kernel
theorem dX12_directs_28 : decode cX12_directs 28 = .ok (.iadd, 1) := by decide +kernel
theorem dX12_directs_29 : decode cX12_directs 29 = .ok (.iaload, 1) := by decide +kernel
theorem dX12_directs_30 : decode cX12_directs 30 = .ok (.iastore, 1) := by decide +kernel
theorem dX12_directs_31 : decode cX12_directs 31 = .ok (.aload_n 0, 1) := by decide +kernel
theorem dX12_directs_32 : decode cX12_directs 32 = .ok (.getfield 51, 3) := by decide +kernel
theorem dX12_directs_35 : decode cX12_directs 35 = .ok (.iload_n 2, 1) := by decide +kernel
theorem dX12_directs_36 : decode cX12_directs 36 = .ok (.iconst 0, 1) := by decide +kernel
theorem dX12_directs_37 : decode cX12_directs 37 = .ok (.iastore, 1) := by decide +kernel
theorem dX12_directs_38 : decode cX12_directs 38 = .ok (.iinc 2 1, 3) := by decide +kernel
theorem dX12_directs_41 : decode cX12_directs 41 = .ok (.goto (-35), 3) := by decide +kernel
theorem dX12_directs_44 : decode cX12_directs 44 = .ok (.iconst 0, 1) := by decide +kernel
theorem dX12_directs_45 : decode cX12_directs 45 = .ok (.istore_n 2, 1) := by decide +kernel
theorem dX12_directs_46 : decode cX12_directs 46 = .ok (.iload_n 2, 1) := by decide +kernel
theorem dX12_directs_47 : decode cX12_directs 47 = .ok (.iconst 5, 1) := by decide +kernel
theorem dX12_directs_48 : decode cX12_directs 48 = .ok (.if_icmp .ge 162, 3) := by decide +kernel
theorem dX12_directs_51 : decode cX12_directs 51 = .ok (.iconst 0, 1) := by decide +kernel
theorem dX12_directs_52 : decode cX12_directs 52 = .ok (.istore_n 3, 1) := by decide +kernel
theorem dX12_directs_53 : decode cX12_directs 53 = .ok (.iload_n 3, 1) := by decide +kernel
theorem dX12_directs_54 : decode cX12_directs 54 = .ok (.iconst 5, 1) := by decide +kernel
theorem dX12_directs_55 : decode cX12_directs 55 = .ok (.if_icmp .ge 101, 3) := by decide +kernel
theorem dX12_directs_58 : decode cX12_directs 58 = .ok (.iconst 0, 1) := by decide +kernel
theorem dX12_directs_59 : decode cX12_directs 59 = .ok (.istore 4, 2) := by decide +kernel
theorem dX12_directs_61 : decode cX12_directs 61 = .ok (.iload 4, 2) := by decide +kernel
theorem dX12_directs_63 : decode cX12_directs 63 = .ok (.iconst 3, 1) := by decide +kernel
theorem dX12_directs_64 : decode cX12_directs 64 = .ok (.if_icmp .ge 86, 3) := by decide +kernel
theorem dX12_directs_67 : decode cX12_directs 67 = .ok (.aload_n 0, 1) := by decide +kernel
theorem dX12_directs_68 : decode cX12_directs 68 = .ok (.getfield 15, 3) := by decide +kernel
theorem dX12_directs_71 : decode cX12_directs 71 = .ok (.iload_n 2, 1) := by decide +kernel
theorem dX12_directs_72 : decode cX12_directs 72 = .ok (.iload_n 3, 1) := by decide +kernel
theorem dX12_directs_73 : decode cX12_directs 73 = .ok (.iload 4, 2) := by decide +kernel
theorem dX12_directs_75 : decode cX12_directs 75 = .ok (.invokestatic 138, 3) := by decide +kernel
theorem dX12_directs_78 : decode cX12_directs 78 = .ok (.iaload, 1) := by decide +kernel
theorem dX12_directs_79 : decode cX12_directs 79 = .ok (.aload_n 0, 1) := by decide +kernel
theorem dX12_directs_80 : decode cX12_directs 80 = .ok (.iload_n 1, 1) := by decide +kernel
theorem dX12_directs_81 : decode cX12_directs 81 = .ok (.iload 4, 2) := by decide +kernel
theorem dX12_directs_83 : decode cX12_directs 83 = .ok (.invokevirtual 215, 3) := by decide +kernel
theorem dX12_directs_86 : decode cX12_directs 86 = .ok (.imul, 1) := by decide +kernel
theorem dX12_directs_87 : decode cX12_directs 87 = .ok (.sipush 10007, 3) := by decide +kernel
theorem dX12_directs_90 : decode cX12_directs 90 = .ok (.irem, 1) := by decide +kernel
theorem dX12_directs_91 : decode cX12_directs 91 = .ok (.istore 5, 2) := by decide +kernel
theorem dX12_directs_93 : decode cX12_directs 93 = .ok (.iconst 0, 1) := by decide +kernel
theorem dX12_directs_94 : decode cX12_directs 94 = .ok (.istore 6, 2) := by decide +kernel
theorem dX12_directs_96 : decode cX12_directs 96 = .ok (.iload 6, 2) := by decide +kernel
theorem dX12_directs_98 : decode cX12_directs 98 = .ok (.iload_n 3, 1) := by decide +kernel
theorem dX12_directs_99 : decode cX12_directs 99 = .ok (.iadd, 1) := by decide +kernel
theorem dX12_directs_100 : decode cX12_directs 100 = .ok (.bipush 25, 2) := by decide +kernel
theorem dX12_directs_102 : decode cX12_directs 102 = .ok (.if_icmp .ge 42, 3) := by decide +kernel
theorem dX12_directs_105 : decode cX12_directs 105 = .ok (.aload_n 0, 1) := by decide +kernel
theorem dX12_directs_106 : decode cX12_directs 106 = .ok (.getfield 51, 3) := by decide +kernel
theorem dX12_directs_109 : decode cX12_directs 109 = .ok (.iload 6, 2) := by decide +kernel
theorem dX12_directs_111 : decode cX12_directs 111 = .ok (.iload_n 3, 1) := by decide +kernel
theorem dX12_directs_112 : decode cX12_directs 112 = .ok (.iadd, 1) := by decide +kernel
theorem dX12_directs_113 : decode cX12_directs 113 = .ok (.aload_n 0, 1) := by decide +kernel
theorem dX12_directs_114 : decode cX12_directs 114 = .ok (.getfield 51, 3) := by decide +kernel
theorem dX12_directs_117 : decode cX12_directs 117 = .ok (.iload 6, 2) := by decide +kernel
theorem dX12_directs_119 : decode cX12_directs 119 = .ok (.iload_n 3, 1) := by decide +kernel
theorem dX12_directs_120 : decode cX12_directs 120 = .ok (.iadd, 1) := by decide +kernel
theorem dX12_directs_121 : decode cX12_directs 121 = .ok (.iaload, 1) := by decide +kernel
theorem dX12_directs_122 : decode cX12_directs 122 = .ok (.iload 5, 2) := by decide +kernel
theorem dX12_directs_124 : decode cX12_directs 124 = .ok (.aload_n 0, 1) := by decide +kernel
theorem dX12_directs_125 : decode cX12_directs 125 = .ok (.getfield 48, 3) := by decide +kernel
theorem dX12_directs_128 : decode cX12_directs 128 = .ok (.iload 6, 2) := by decide +kernel
theorem dX12_directs_130 : decode cX12_directs 130 = .ok (.iaload, 1) := by decide +kernel
theorem dX12_directs_131 : decode cX12_directs 131 = .ok (.imul, 1) := by decide +kernel
theorem dX12_directs_132 : decode cX12_directs 132 = .ok (.iadd, 1) := by decide +kernel
theorem dX12_directs_133 : decode cX12_directs 133 = .ok (.sipush 10007, 3) := by decide +kernel
theorem dX12_directs_136 : decode cX12_directs 136 = .ok (.irem, 1) := by decide +kernel
theorem dX12_directs_137 : decode cX12_directs 137 = .ok (.iastore, 1) := by decide +kernel
theorem dX12_directs_138 : decode cX12_directs 138 = .ok (.iinc 6 1, 3) := by decide +kernel
theorem dX12_directs_141 : decode cX12_directs 141 = .ok (.goto (-45), 3) := by decide +kernel
theorem dX12_directs_144 : decode cX12_directs 144 = .ok (.iinc 4 1, 3) := by decide +kernel
theorem dX12_directs_147 : decode cX12_directs 147 = .ok (.goto (-86), 3) := by decide +kernel
theorem dX12_directs_150 : decode cX12_directs 150 = .ok (.iinc 3 1, 3) := by decide +kernel
theorem dX12_directs_153 : decode cX12_directs 153 = .ok (.goto (-100), 3) := by decide +kernel
theorem dX12_directs_156 : decode cX12_directs 156 = .ok (.iconst 0, 1) := by decide +kernel
theorem dX12_directs_157 : decode cX12_directs 157 = .ok (.istore_n 3, 1) := by decide +kernel
theorem dX12_directs_158 : decode cX12_directs 158 = .ok (.iload_n 3, 1) := by decide +kernel
theorem dX12_directs_159 : decode cX12_directs 159 = .ok (.bipush 25, 2) := by decide +kernel
theorem dX12_directs_161 : decode cX12_directs 161 = .ok (.if_icmp .ge 43, 3) := by decide +kernel
theorem dX12_directs_164 : decode cX12_directs 164 = .ok (.aload_n 0, 1) := by decide +kernel
theorem dX12_directs_165 : decode cX12_directs 165 = .ok (.getfield 48, 3) := by decide +kernel
theorem dX12_directs_168 : decode cX12_directs 168 = .ok (.iload_n 3, 1) := by decide +kernel
theorem dX12_directs_169 : decode cX12_directs 169 = .ok (.iload_n 3, 1) := by decide +kernel
theorem dX12_directs_170 : decode cX12_directs 170 = .ok (.iconst 1, 1) := by decide +kernel
theorem dX12_directs_171 : decode cX12_directs 171 = .ok (.iadd, 1) := by decide +kernel
theorem dX12_directs_172 : decode cX12_directs 172 = .ok (.bipush 25, 2) := by decide +kernel
theorem dX12_directs_174 : decode cX12_directs 174 = .ok (.if_icmp .ge 22, 3) := by decide +kernel
theorem dX12_directs_177 : decode cX12_directs 177 = .ok (.aload_n 0, 1) := by decide +kernel
theorem dX12_directs_178 : decode cX12_directs 178 = .ok (.getfield 48, 3) := by decide +kernel
theorem dX12_directs_181 : decode cX12_directs 181 = .ok (.iload_n 3, 1) := by decide +kernel
theorem dX12_directs_182 : decode cX12_directs 182 = .ok (.iconst 1, 1) := by decide +kernel
theorem dX12_directs_183 : decode cX12_directs 183 = .ok (.iadd, 1) := by decide +kernel
theorem dX12_directs_184 : decode cX12_directs 184 = .ok (.iaload, 1) := by decide +kernel
theorem dX12_directs_185 : decode cX12_directs 185 = .ok (.iload_n 3, 1) := by decide +kernel
theorem dX12_directs_186 : decode cX12_directs 186 = .ok (.iconst 1, 1) := by decide +kernel
theorem dX12_directs_187 : decode cX12_directs 187 = .ok (.iadd, 1) := by decide +kernel
theorem dX12_directs_188 : decode cX12_directs 188 = .ok (.imul, 1) := by decide +kernel
theorem dX12_directs_189 : decode cX12_directs 189 = .ok (.sipush 10007, 3) := by decide +kernel
theorem dX12_directs_192 : decode cX12_directs 192 = .ok (.irem, 1) := by decide +kernel
theorem dX12_directs_193 : decode cX12_directs 193 = .ok (.goto 4, 3) := by decide +kernel
theorem dX12_directs_196 : decode cX12_directs 196 = .ok (.iconst 0, 1) := by decide +kernel
theorem dX12_directs_197 : decode cX12_directs 197 = .ok (.iastore, 1) := by decide +kernel
theorem dX12_directs_198 : decode cX12_directs 198 = .ok (.iinc 3 1, 3) := by decide +kernel
theorem dX12_directs_201 : decode cX12_directs 201 = .ok (.goto (-43), 3) := by decide +kernel
theorem dX12_directs_204 : decode cX12_directs 204 = .ok (.iinc 2 1, 3) := by decide +kernel
theorem dX12_directs_207 : decode cX12_directs 207 = .ok (.goto (-161), 3) := by decide +kernel
theorem dX12_directs_210 : decode cX12_directs 210 = .ok (.return_, 1) := by decide +kernel
set_option maxRecDepth 20000 in
theorem ggX12_direct_X12_isIn : GoodIn wsX12_direct wsX12_isIn := goodIn_r _ [5] (by decide +kernel) (by decide +kernel)
set_option maxRecDepth 20000 in
theorem gX12_direct_X12_isIn : GoodIn wsX12_direct (va_wsS RX12 121 yX12_isIn wsX12_isIn) := goodIn_app (goodIn_of _ (by decide +kernel)) ggX12_direct_X12_isIn
set_option maxRecDepth 20000 in
theorem ggX12_direct_X12_directs : GoodIn wsX12_direct wsX12_directs := goodIn_r _ [9, 10, 11, 1, 12, 13, 14, 15, 4, 16, 17, 18, 19, 20, 21, 22, 23, 24, 32, 33, 34, 35, 36, 37, 38, 39, 40, 41, 42, 43, 44, 45, 46, 47, 48, 49, 50, 51, 52, 53, 54, 55, 56, 57, 58, 59, 60, 61, 62, 63, 64, 65, 66, 67, 68, 69, 70, 71, 72, 73, 74, 75, 76] (by decide +kernel) (by decide +kernel)
set_option maxRecDepth 20000 in
theorem gX12_direct_X12_directs : GoodIn wsX12_direct (wsV RX12 218 RX12 yX12_directs wsX12_directs) := goodIn_app (goodIn_of _ (by decide +kernel)) ggX12_direct_X12_directs
set_option maxRecDepth 20000 in
theorem ggX12_direct_X12_told : GoodIn wsX12_direct wsX12_told := goodIn_r _ [27, 28, 29, 30, 4, 31] (by decide +kernel) (by decide +kernel)
set_option maxRecDepth 20000 in
theorem gX12_direct_X12_told : GoodIn wsX12_direct (va_wsS RX12 128 yX12_told wsX12_told) := goodIn_app (goodIn_of _ (by decide +kernel)) ggX12_direct_X12_told
theorem dX12_direct_0 : decode cX12_direct 0 = .ok (.iload_n 1, 1) := by decide +kernel
theorem dX12_direct_1 : decode cX12_direct 1 = .ok (.iconst 0, 1) := by decide +kernel
theorem dX12_direct_2 : decode cX12_direct 2 = .ok (.iconst 3, 1) := by decide +kernel
theorem dX12_direct_3 : decode cX12_direct 3 = .ok (.invokestatic 121, 3) := by decide +kernel
theorem dX12_direct_6 : decode cX12_direct 6 = .ok (.ifCond .ne 6, 3) := by decide +kernel
theorem dX12_direct_9 : decode cX12_direct 9 = .ok (.bipush (-2), 2) := by decide +kernel
theorem dX12_direct_11 : decode cX12_direct 11 = .ok (.ireturn, 1) := by decide +kernel
theorem dX12_direct_12 : decode cX12_direct 12 = .ok (.iload_n 2, 1) := by decide +kernel
theorem dX12_direct_13 : decode cX12_direct 13 = .ok (.iconst 0, 1) := by decide +kernel
theorem dX12_direct_14 : decode cX12_direct 14 = .ok (.bipush 20, 2) := by decide +kernel
theorem dX12_direct_16 : decode cX12_direct 16 = .ok (.invokestatic 121, 3) := by decide +kernel
theorem dX12_direct_19 : decode cX12_direct 19 = .ok (.ifCond .ne 5, 3) := by decide +kernel
theorem dX12_direct_22 : decode cX12_direct 22 = .ok (.iconst (-1), 1) := by decide +kernel
theorem dX12_direct_23 : decode cX12_direct 23 = .ok (.ireturn, 1) := by decide +kernel
theorem dX12_direct_24 : decode cX12_direct 24 = .ok (.aload_n 0, 1) := by decide +kernel
theorem dX12_direct_25 : decode cX12_direct 25 = .ok (.iload_n 1, 1) := by decide +kernel
theorem dX12_direct_26 : decode cX12_direct 26 = .ok (.invokevirtual 218, 3) := by decide +kernel
theorem dX12_direct_29 : decode cX12_direct 29 = .ok (.aload_n 0, 1) := by decide +kernel
theorem dX12_direct_30 : decode cX12_direct 30 = .ok (.getfield 51, 3) := by decide +kernel
theorem dX12_direct_33 : decode cX12_direct 33 = .ok (.iload_n 2, 1) := by decide +kernel
theorem dX12_direct_34 : decode cX12_direct 34 = .ok (.iaload, 1) := by decide +kernel
theorem dX12_direct_35 : decode cX12_direct 35 = .ok (.invokestatic 128, 3) := by decide +kernel
theorem dX12_direct_38 : decode cX12_direct 38 = .ok (.ireturn, 1) := by decide +kernel
set_option maxRecDepth 20000 in
theorem ggX12_checked_X12_isIn : GoodIn wsX12_checked wsX12_isIn := goodIn_r _ [9] (by decide +kernel) (by decide +kernel)
set_option maxRecDepth 20000 in
theorem gX12_checked_X12_isIn : GoodIn wsX12_checked (va_wsS RX12 121 yX12_isIn wsX12_isIn) := goodIn_app (goodIn_of _ (by decide +kernel)) ggX12_checked_X12_isIn
set_option maxRecDepth 20000 in
theorem ggX12_checked_X12_directs : GoodIn wsX12_checked wsX12_directs := goodIn_r _ [13, 14, 5, 4, 15, 16, 17, 18, 8, 19, 20, 21, 22, 23, 24, 25, 26, 27, 28, 29, 30, 31, 32, 33, 34, 35, 36, 37, 38, 39, 40, 41, 42, 43, 44, 45, 46, 47, 48, 49, 50, 51, 52, 53, 54, 55, 56, 57, 58, 59, 60, 61, 62, 63, 64, 65, 66, 67, 68, 69, 70, 71, 72] (by decide +kernel) (by decide +kernel)
set_option maxRecDepth 20000 in
theorem gX12_checked_X12_directs : GoodIn wsX12_checked (wsV RX12 218 RX12 yX12_directs wsX12_directs) := goodIn_app (goodIn_of _ (by decide +kernel)) ggX12_checked_X12_directs
theorem dX12_checked_0 : decode cX12_checked 0 = .ok (.iload_n 1, 1) := by decide +kernel
theorem dX12_checked_1 : decode cX12_checked 1 = .ok (.iconst 0, 1) := by decide +kernel
theorem dX12_checked_2 : decode cX12_checked 2 = .ok (.iconst 3, 1) := by decide +kernel
theorem dX12_checked_3 : decode cX12_checked 3 = .ok (.invokestatic 121, 3) := by decide +kernel
theorem dX12_checked_6 : decode cX12_checked 6 = .ok (.ifCond .ne 6, 3) := by decide +kernel
theorem dX12_checked_9 : decode cX12_checked 9 = .ok (.bipush (-2), 2) := by decide +kernel
theorem dX12_checked_11 : decode cX12_checked 11 = .ok (.ireturn, 1) := by decide +kernel
theorem dX12_checked_12 : decode cX12_checked 12 = .ok (.aload_n 0, 1) := by decide +kernel
theorem dX12_checked_13 : decode cX12_checked 13 = .ok (.getfield 183, 3) := by decide +kernel
theorem dX12_checked_16 : decode cX12_checked 16 = .ok (.ifCond .ne 6, 3) := by decide +kernel
theorem dX12_checked_19 : decode cX12_checked 19 = .ok (.bipush (-3), 2) := by decide +kernel
theorem dX12_checked_21 : decode cX12_checked 21 = .ok (.ireturn, 1) := by decide +kernel
theorem dX12_checked_22 : decode cX12_checked 22 = .ok (.aload_n 0, 1) := by decide +kernel
theorem dX12_checked_23 : decode cX12_checked 23 = .ok (.iload_n 1, 1) := by decide +kernel
theorem dX12_checked_24 : decode cX12_checked 24 = .ok (.invokevirtual 218, 3) := by decide +kernel
theorem dX12_checked_27 : decode cX12_checked 27 = .ok (.iconst 0, 1) := by decide +kernel
theorem dX12_checked_28 : decode cX12_checked 28 = .ok (.istore_n 2, 1) := by decide +kernel
theorem dX12_checked_29 : decode cX12_checked 29 = .ok (.aload_n 0, 1) := by decide +kernel
theorem dX12_checked_30 : decode cX12_checked 30 = .ok (.getfield 187, 3) := by decide +kernel
theorem dX12_checked_33 : decode cX12_checked 33 = .ok (.istore_n 3, 1) := by decide +kernel
theorem dX12_checked_34 : decode cX12_checked 34 = .ok (.iload_n 3, 1) := by decide +kernel
theorem dX12_checked_35 : decode cX12_checked 35 = .ok (.ifCond .lt 24, 3) := by decide +kernel
theorem dX12_checked_38 : decode cX12_checked 38 = .ok (.iload_n 2, 1) := by decide +kernel
theorem dX12_checked_39 : decode cX12_checked 39 = .ok (.iload_n 1, 1) := by decide +kernel
theorem dX12_checked_40 : decode cX12_checked 40 = .ok (.imul, 1) := by decide +kernel
theorem dX12_checked_41 : decode cX12_checked 41 = .ok (.aload_n 0, 1) := by decide +kernel
theorem dX12_checked_42 : decode cX12_checked 42 = .ok (.getfield 21, 3) := by decide +kernel
theorem dX12_checked_45 : decode cX12_checked 45 = .ok (.iload_n 3, 1) := by decide +kernel
theorem dX12_checked_46 : decode cX12_checked 46 = .ok (.iaload, 1) := by decide +kernel
theorem dX12_checked_47 : decode cX12_checked 47 = .ok (.iadd, 1) := by decide +kernel
theorem dX12_checked_48 : decode cX12_checked 48 = .ok (.sipush 10007, 3) := by decide +kernel
theorem dX12_checked_51 : decode cX12_checked 51 = .ok (.irem, 1) := by decide +kernel
theorem dX12_checked_52 : decode cX12_checked 52 = .ok (.istore_n 2, 1) := by decide +kernel
theorem dX12_checked_53 : decode cX12_checked 53 = .ok (.iinc 3 (-1), 3) := by decide +kernel
theorem dX12_checked_56 : decode cX12_checked 56 = .ok (.goto (-22), 3) := by decide +kernel
theorem dX12_checked_59 : decode cX12_checked 59 = .ok (.iconst 1, 1) := by decide +kernel
theorem dX12_checked_60 : decode cX12_checked 60 = .ok (.istore_n 3, 1) := by decide +kernel
theorem dX12_checked_61 : decode cX12_checked 61 = .ok (.iconst 0, 1) := by decide +kernel
theorem dX12_checked_62 : decode cX12_checked 62 = .ok (.istore 4, 2) := by decide +kernel
theorem dX12_checked_64 : decode cX12_checked 64 = .ok (.iload 4, 2) := by decide +kernel
theorem dX12_checked_66 : decode cX12_checked 66 = .ok (.bipush 25, 2) := by decide +kernel
theorem dX12_checked_68 : decode cX12_checked 68 = .ok (.if_icmp .ge 47, 3) := by decide +kernel
theorem dX12_checked_71 : decode cX12_checked 71 = .ok (.iload_n 3, 1) := by decide +kernel
theorem dX12_checked_72 : decode cX12_checked 72 = .ok (.ifCond .eq 35, 3) := by decide +kernel
theorem dX12_checked_75 : decode cX12_checked 75 = .ok (.aload_n 0, 1) := by decide +kernel
theorem dX12_checked_76 : decode cX12_checked 76 = .ok (.getfield 51, 3) := by decide +kernel
theorem dX12_checked_79 : decode cX12_checked 79 = .ok (.iload 4, 2) := by decide +kernel
theorem dX12_checked_81 : decode cX12_checked 81 = .ok (.iaload, 1) := by decide +kernel
theorem dX12_checked_82 : decode cX12_checked 82 = .ok (.iload_n 2, 1) := by decide +kernel
theorem dX12_checked_83 : decode cX12_checked 83 = .ok (.aload_n 0, 1) := by decide +kernel
theorem dX12_checked_84 : decode cX12_checked 84 = .ok (.getfield 24, 3) := by decide +kernel
theorem dX12_checked_87 : decode cX12_checked 87 = .ok (.bipush 25, 2) := by decide +kernel
theorem dX12_checked_89 : decode cX12_checked 89 = .ok (.iload_n 1, 1) := by decide +kernel
theorem dX12_checked_90 : decode cX12_checked 90 = .ok (.imul, 1) := by decide +kernel
theorem dX12_checked_91 : decode cX12_checked 91 = .ok (.iload 4, 2) := by decide +kernel
theorem dX12_checked_93 : decode cX12_checked 93 = .ok (.iadd, 1) := by decide +kernel
theorem dX12_checked_94 : decode cX12_checked 94 = .ok (.iaload, 1) := by decide +kernel
theorem dX12_checked_95 : decode cX12_checked 95 = .ok (.imul, 1) := by decide +kernel
theorem dX12_checked_96 : decode cX12_checked 96 = .ok (.sipush 10007, 3) := by decide +kernel
theorem dX12_checked_99 : decode cX12_checked 99 = .ok (.irem, 1) := by decide +kernel
theorem dX12_checked_100 : decode cX12_checked 100 = .ok (.if_icmp .ne 7, 3) := by decide +kernel
theorem dX12_checked_103 : decode cX12_checked 103 = .ok (.iconst 1, 1) := by decide +kernel
theorem dX12_checked_104 : decode cX12_checked 104 = .ok (.goto 4, 3) := by decide +kernel
theorem dX12_checked_107 : decode cX12_checked 107 = .ok (.iconst 0, 1) := by decide +kernel
theorem dX12_checked_108 : decode cX12_checked 108 = .ok (.istore_n 3, 1) := by decide +kernel
theorem dX12_checked_109 : decode cX12_checked 109 = .ok (.iinc 4 1, 3) := by decide +kernel
theorem dX12_checked_112 : decode cX12_checked 112 = .ok (.goto (-48), 3) := by decide +kernel
theorem dX12_checked_115 : decode cX12_checked 115 = .ok (.iload_n 3, 1) := by decide +kernel
theorem dX12_checked_116 : decode cX12_checked 116 = .ok (.ifCond .eq 7, 3) := by decide +kernel
theorem dX12_checked_119 : decode cX12_checked 119 = .ok (.iconst 1, 1) := by decide +kernel
theorem dX12_checked_120 : decode cX12_checked 120 = .ok (.goto 4, 3) := by decide +kernel
theorem dX12_checked_123 : decode cX12_checked 123 = .ok (.iconst 0, 1) := by decide +kernel
theorem dX12_checked_124 : decode cX12_checked 124 = .ok (.ireturn, 1) := by decide +kernel
set_option maxRecDepth 20000 in
theorem ggX12_valueOf_X12_signed : GoodIn wsX12_valueOf wsX12_signed := goodIn_r _ [5] (by decide +kernel) (by decide +kernel)
set_option maxRecDepth 20000 in
theorem gX12_valueOf_X12_signed : GoodIn wsX12_valueOf (va_wsS RX12 117 yX12_signed wsX12_signed) := goodIn_app (goodIn_of _ (by decide +kernel)) ggX12_valueOf_X12_signed
theorem dX12_valueOf_0 : decode cX12_valueOf 0 = .ok (.fconst 0, 1) := by decide +kernel
theorem dX12_valueOf_1 : decode cX12_valueOf 1 = .ok (.fstore_n 2, 1) := by decide +kernel
theorem dX12_valueOf_2 : decode cX12_valueOf 2 = .ok (.iconst 4, 1) := by decide +kernel
theorem dX12_valueOf_3 : decode cX12_valueOf 3 = .ok (.istore_n 3, 1) := by decide +kernel
theorem dX12_valueOf_4 : decode cX12_valueOf 4 = .ok (.iload_n 3, 1) := by decide +kernel
theorem dX12_valueOf_5 : decode cX12_valueOf 5 = .ok (.ifCond .lt 24, 3) := by decide +kernel
theorem dX12_valueOf_8 : decode cX12_valueOf 8 = .ok (.fload_n 2, 1) := by decide +kernel
theorem dX12_valueOf_9 : decode cX12_valueOf 9 = .ok (.fload_n 1, 1) := by decide +kernel
theorem dX12_valueOf_10 : decode cX12_valueOf 10 = .ok (.fmul, 1) := by decide +kernel
theorem dX12_valueOf_11 : decode cX12_valueOf 11 = .ok (.aload_n 0, 1) := by decide +kernel
theorem dX12_valueOf_12 : decode cX12_valueOf 12 = .ok (.getfield 9, 3) := by decide +kernel
theorem dX12_valueOf_15 : decode cX12_valueOf 15 = .ok (.iload_n 3, 1) := by decide +kernel
theorem dX12_valueOf_16 : decode cX12_valueOf 16 = .ok (.iaload, 1) := by decide +kernel
theorem dX12_valueOf_17 : decode cX12_valueOf 17 = .ok (.invokestatic 117, 3) := by decide +kernel
theorem dX12_valueOf_20 : decode cX12_valueOf 20 = .ok (.i2f, 1) := by decide +kernel
theorem dX12_valueOf_21 : decode cX12_valueOf 21 = .ok (.fadd, 1) := by decide +kernel
theorem dX12_valueOf_22 : decode cX12_valueOf 22 = .ok (.fstore_n 2, 1) := by decide +kernel
theorem dX12_valueOf_23 : decode cX12_valueOf 23 = .ok (.iinc 3 (-1), 3) := by decide +kernel
theorem dX12_valueOf_26 : decode cX12_valueOf 26 = .ok (.goto (-22), 3) := by decide +kernel
theorem dX12_valueOf_29 : decode cX12_valueOf 29 = .ok (.fload_n 2, 1) := by decide +kernel
theorem dX12_valueOf_30 : decode cX12_valueOf 30 = .ok (.freturn, 1) := by decide +kernel
set_option maxRecDepth 20000 in
theorem ggX12_slopeOf_X12_signed : GoodIn wsX12_slopeOf wsX12_signed := goodIn_r _ [5] (by decide +kernel) (by decide +kernel)
set_option maxRecDepth 20000 in
theorem gX12_slopeOf_X12_signed : GoodIn wsX12_slopeOf (va_wsS RX12 117 yX12_signed wsX12_signed) := goodIn_app (goodIn_of _ (by decide +kernel)) ggX12_slopeOf_X12_signed
theorem dX12_slopeOf_0 : decode cX12_slopeOf 0 = .ok (.fconst 0, 1) := by decide +kernel
theorem dX12_slopeOf_1 : decode cX12_slopeOf 1 = .ok (.fstore_n 2, 1) := by decide +kernel
theorem dX12_slopeOf_2 : decode cX12_slopeOf 2 = .ok (.iconst 4, 1) := by decide +kernel
theorem dX12_slopeOf_3 : decode cX12_slopeOf 3 = .ok (.istore_n 3, 1) := by decide +kernel
theorem dX12_slopeOf_4 : decode cX12_slopeOf 4 = .ok (.iload_n 3, 1) := by decide +kernel
theorem dX12_slopeOf_5 : decode cX12_slopeOf 5 = .ok (.ifCond .le 26, 3) := by decide +kernel
theorem dX12_slopeOf_8 : decode cX12_slopeOf 8 = .ok (.fload_n 2, 1) := by decide +kernel
theorem dX12_slopeOf_9 : decode cX12_slopeOf 9 = .ok (.fload_n 1, 1) := by decide +kernel
theorem dX12_slopeOf_10 : decode cX12_slopeOf 10 = .ok (.fmul, 1) := by decide +kernel
theorem dX12_slopeOf_11 : decode cX12_slopeOf 11 = .ok (.iload_n 3, 1) := by decide +kernel
theorem dX12_slopeOf_12 : decode cX12_slopeOf 12 = .ok (.aload_n 0, 1) := by decide +kernel
theorem dX12_slopeOf_13 : decode cX12_slopeOf 13 = .ok (.getfield 9, 3) := by decide +kernel
theorem dX12_slopeOf_16 : decode cX12_slopeOf 16 = .ok (.iload_n 3, 1) := by decide +kernel
theorem dX12_slopeOf_17 : decode cX12_slopeOf 17 = .ok (.iaload, 1) := by decide +kernel
theorem dX12_slopeOf_18 : decode cX12_slopeOf 18 = .ok (.invokestatic 117, 3) := by decide +kernel
theorem dX12_slopeOf_21 : decode cX12_slopeOf 21 = .ok (.imul, 1) := by decide +kernel
theorem dX12_slopeOf_22 : decode cX12_slopeOf 22 = .ok (.i2f, 1) := by decide +kernel
theorem dX12_slopeOf_23 : decode cX12_slopeOf 23 = .ok (.fadd, 1) := by decide +kernel
theorem dX12_slopeOf_24 : decode cX12_slopeOf 24 = .ok (.fstore_n 2, 1) := by decide +kernel
theorem dX12_slopeOf_25 : decode cX12_slopeOf 25 = .ok (.iinc 3 (-1), 3) := by decide +kernel
theorem dX12_slopeOf_28 : decode cX12_slopeOf 28 = .ok (.goto (-24), 3) := by decide +kernel
theorem dX12_slopeOf_31 : decode cX12_slopeOf 31 = .ok (.fload_n 2, 1) := by decide +kernel
theorem dX12_slopeOf_32 : decode cX12_slopeOf 32 = .ok (.freturn, 1) := by decide +kernel
set_option maxRecDepth 20000 in
theorem ggX12_valueIn_X12_signed : GoodIn wsX12_valueIn wsX12_signed := goodIn_r _ [5] (by decide +kernel) (by decide +kernel)
set_option maxRecDepth 20000 in
theorem gX12_valueIn_X12_signed : GoodIn wsX12_valueIn (va_wsS RX12 117 yX12_signed wsX12_signed) := goodIn_app (goodIn_of _ (by decide +kernel)) ggX12_valueIn_X12_signed
theorem dX12_valueIn_0 : decode cX12_valueIn 0 = .ok (.dconst 0, 1) := by decide +kernel
theorem dX12_valueIn_1 : decode cX12_valueIn 1 = .ok (.dstore_n 3, 1) := by decide +kernel
theorem dX12_valueIn_2 : decode cX12_valueIn 2 = .ok (.iconst 4, 1) := by decide +kernel
theorem dX12_valueIn_3 : decode cX12_valueIn 3 = .ok (.istore 5, 2) := by decide +kernel
theorem dX12_valueIn_5 : decode cX12_valueIn 5 = .ok (.iload 5, 2) := by decide +kernel
theorem dX12_valueIn_7 : decode cX12_valueIn 7 = .ok (.ifCond .lt 25, 3) := by decide +kernel
theorem dX12_valueIn_10 : decode cX12_valueIn 10 = .ok (.dload_n 3, 1) := by decide +kernel
theorem dX12_valueIn_11 : decode cX12_valueIn 11 = .ok (.dload_n 1, 1) := by decide +kernel
theorem dX12_valueIn_12 : decode cX12_valueIn 12 = .ok (.dmul, 1) := by decide +kernel
theorem dX12_valueIn_13 : decode cX12_valueIn 13 = .ok (.aload_n 0, 1) := by decide +kernel
theorem dX12_valueIn_14 : decode cX12_valueIn 14 = .ok (.getfield 9, 3) := by decide +kernel
theorem dX12_valueIn_17 : decode cX12_valueIn 17 = .ok (.iload 5, 2) := by decide +kernel
theorem dX12_valueIn_19 : decode cX12_valueIn 19 = .ok (.iaload, 1) := by decide +kernel
theorem dX12_valueIn_20 : decode cX12_valueIn 20 = .ok (.invokestatic 117, 3) := by decide +kernel
theorem dX12_valueIn_23 : decode cX12_valueIn 23 = .ok (.i2d, 1) := by decide +kernel
theorem dX12_valueIn_24 : decode cX12_valueIn 24 = .ok (.dadd, 1) := by decide +kernel
theorem dX12_valueIn_25 : decode cX12_valueIn 25 = .ok (.dstore_n 3, 1) := by decide +kernel
theorem dX12_valueIn_26 : decode cX12_valueIn 26 = .ok (.iinc 5 (-1), 3) := by decide +kernel
theorem dX12_valueIn_29 : decode cX12_valueIn 29 = .ok (.goto (-24), 3) := by decide +kernel
theorem dX12_valueIn_32 : decode cX12_valueIn 32 = .ok (.dload_n 3, 1) := by decide +kernel
theorem dX12_valueIn_33 : decode cX12_valueIn 33 = .ok (.dreturn, 1) := by decide +kernel
set_option maxRecDepth 20000 in
theorem ggX12_value_X12_valueOf : GoodIn wsX12_value wsX12_valueOf := goodIn_r _ [9, 10, 11, 12, 8, 13, 25, 26, 27, 28, 29, 30, 31, 32, 33, 34, 35, 36, 37, 38, 39, 40, 41, 42, 43, 44, 45, 46, 47, 48, 49, 50, 51, 52, 53, 54, 55, 56, 57, 58, 59, 60, 61, 62, 63, 64, 65, 66, 67, 68, 69] (by decide +kernel) (by decide +kernel)
set_option maxRecDepth 20000 in
theorem gX12_value_X12_valueOf : GoodIn wsX12_value (wsV RX12 227 RX12 yX12_valueOf wsX12_valueOf) := goodIn_app (goodIn_of _ (by decide +kernel)) ggX12_value_X12_valueOf
set_option maxRecDepth 20000 in
theorem ggX12_value_Jxf58ca_floatToIntBits_5c35a : GoodIn wsX12_value wsJxf58ca_floatToIntBits_5c35a := goodIn_r _ [17, 18, 19, 20, 4, 21, 22, 23, 16, 24] (by decide +kernel) (by decide +kernel)
set_option maxRecDepth 20000 in
theorem gX12_value_Jxf58ca_floatToIntBits_5c35a : GoodIn wsX12_value (va_wsS RX12 231 yJxf58ca_floatToIntBits_5c35a wsJxf58ca_floatToIntBits_5c35a) := goodIn_app (goodIn_of _ (by decide +kernel)) ggX12_value_Jxf58ca_floatToIntBits_5c35a
theorem dX12_value_0 : decode cX12_value 0 = .ok (.aload_n 0, 1) := by decide +kernel
theorem dX12_value_1 : decode cX12_value 1 = .ok (.iload_n 1, 1) := by decide +kernel
theorem dX12_value_2 : decode cX12_value 2 = .ok (.invokestatic 221, 3) := by decide +kernel
theorem dX12_value_5 : decode cX12_value 5 = .ok (.invokevirtual 227, 3) := by decide +kernel
theorem dX12_value_8 : decode cX12_value 8 = .ok (.invokestatic 231, 3) := by decide +kernel
theorem dX12_value_11 : decode cX12_value 11 = .ok (.ireturn, 1) := by decide +kernel
set_option maxRecDepth 20000 in
theorem ggX12_slope_X12_slopeOf : GoodIn wsX12_slope wsX12_slopeOf := goodIn_r _ [9, 10, 11, 12, 8, 13, 25, 26, 27, 28, 29, 30, 31, 32, 33, 34, 35, 36, 37, 38, 39, 40, 41, 42, 43, 44, 45, 46, 47, 48, 49, 50, 51, 52, 53, 54, 55, 56, 57, 58, 59, 60, 61, 62, 63, 64, 65, 66, 67, 68, 69] (by decide +kernel) (by decide +kernel)
set_option maxRecDepth 20000 in
theorem gX12_slope_X12_slopeOf : GoodIn wsX12_slope (wsV RX12 235 RX12 yX12_slopeOf wsX12_slopeOf) := goodIn_app (goodIn_of _ (by decide +kernel)) ggX12_slope_X12_slopeOf
set_option maxRecDepth 20000 in
theorem ggX12_slope_Jxf58ca_floatToIntBits_5c35a : GoodIn wsX12_slope wsJxf58ca_floatToIntBits_5c35a := goodIn_r _ [17, 18, 19, 20, 4, 21, 22, 23, 16, 24] (by decide +kernel) (by decide +kernel)
set_option maxRecDepth 20000 in
theorem gX12_slope_Jxf58ca_floatToIntBits_5c35a : GoodIn wsX12_slope (va_wsS RX12 231 yJxf58ca_floatToIntBits_5c35a wsJxf58ca_floatToIntBits_5c35a) := goodIn_app (goodIn_of _ (by decide +kernel)) ggX12_slope_Jxf58ca_floatToIntBits_5c35a
theorem dX12_slope_0 : decode cX12_slope 0 = .ok (.aload_n 0, 1) := by decide +kernel
theorem dX12_slope_1 : decode cX12_slope 1 = .ok (.iload_n 1, 1) := by decide +kernel
theorem dX12_slope_2 : decode cX12_slope 2 = .ok (.invokestatic 221, 3) := by decide +kernel
theorem dX12_slope_5 : decode cX12_slope 5 = .ok (.invokevirtual 235, 3) := by decide +kernel
theorem dX12_slope_8 : decode cX12_slope 8 = .ok (.invokestatic 231, 3) := by decide +kernel
theorem dX12_slope_11 : decode cX12_slope 11 = .ok (.ireturn, 1) := by decide +kernel
set_option maxRecDepth 20000 in
theorem ggX12_steps_X12_isIn : GoodIn wsX12_steps wsX12_isIn := goodIn_r _ [8] (by decide +kernel) (by decide +kernel)
set_option maxRecDepth 20000 in
theorem gX12_steps_X12_isIn : GoodIn wsX12_steps (va_wsS RX12 121 yX12_isIn wsX12_isIn) := goodIn_app (goodIn_of _ (by decide +kernel)) ggX12_steps_X12_isIn
set_option maxRecDepth 20000 in
theorem ggX12_steps_X12_valueOf : GoodIn wsX12_steps wsX12_valueOf := goodIn_r _ [12, 13, 14, 15, 7, 16, 32, 33, 34, 35, 36, 37, 38, 39, 40, 41, 42, 43, 44, 45, 46, 47, 48, 49, 50, 51, 52, 53, 54, 55, 56, 57, 58, 59, 60, 61, 62, 63, 64, 65, 66, 67, 68, 69, 70, 71, 72, 73, 74, 75, 76] (by decide +kernel) (by decide +kernel)
set_option maxRecDepth 20000 in
theorem gX12_steps_X12_valueOf : GoodIn wsX12_steps (wsV RX12 227 RX12 yX12_valueOf wsX12_valueOf) := goodIn_app (goodIn_of _ (by decide +kernel)) ggX12_steps_X12_valueOf
set_option maxRecDepth 20000 in
theorem ggX12_steps_X12_slopeOf : GoodIn wsX12_steps wsX12_slopeOf := goodIn_r _ [20, 13, 14, 15, 7, 16, 32, 33, 34, 35, 36, 37, 38, 39, 40, 41, 42, 43, 44, 45, 46, 47, 48, 49, 50, 51, 52, 53, 54, 55, 56, 57, 58, 59, 60, 61, 62, 63, 64, 65, 66, 67, 68, 69, 70, 71, 72, 73, 74, 75, 76] (by decide +kernel) (by decide +kernel)
set_option maxRecDepth 20000 in
theorem gX12_steps_X12_slopeOf : GoodIn wsX12_steps (wsV RX12 235 RX12 yX12_slopeOf wsX12_slopeOf) := goodIn_app (goodIn_of _ (by decide +kernel)) ggX12_steps_X12_slopeOf
set_option maxRecDepth 20000 in
theorem ggX12_steps_Jxf58ca_floatToIntBits_5c35a : GoodIn wsX12_steps wsJxf58ca_floatToIntBits_5c35a := goodIn_r _ [24, 25, 26, 27, 4, 28, 29, 30, 23, 31] (by decide +kernel) (by decide +kernel)
set_option maxRecDepth 20000 in
theorem gX12_steps_Jxf58ca_floatToIntBits_5c35a : GoodIn wsX12_steps (va_wsS RX12 231 yJxf58ca_floatToIntBits_5c35a wsJxf58ca_floatToIntBits_5c35a) := goodIn_app (goodIn_of _ (by decide +kernel)) ggX12_steps_Jxf58ca_floatToIntBits_5c35a
theorem dX12_steps_0 : decode cX12_steps 0 = .ok (.iload_n 2, 1) := by decide +kernel
theorem dX12_steps_1 : decode cX12_steps 1 = .ok (.iconst 0, 1) := by decide +kernel
theorem dX12_steps_2 : decode cX12_steps 2 = .ok (.bipush 20, 2) := by decide +kernel
theorem dX12_steps_4 : decode cX12_steps 4 = .ok (.invokestatic 121, 3) := by decide +kernel
theorem dX12_steps_7 : decode cX12_steps 7 = .ok (.ifCond .ne 6, 3) := by decide +kernel
theorem dX12_steps_10 : decode cX12_steps 10 = .ok (.bipush (-2), 2) := by decide +kernel
theorem dX12_steps_12 : decode cX12_steps 12 = .ok (.ireturn, 1) := by decide +kernel
theorem dX12_steps_13 : decode cX12_steps 13 = .ok (.iload_n 1, 1) := by decide +kernel
theorem dX12_steps_14 : decode cX12_steps 14 = .ok (.invokestatic 221, 3) := by decide +kernel
theorem dX12_steps_17 : decode cX12_steps 17 = .ok (.fstore_n 3, 1) := by decide +kernel
theorem dX12_steps_18 : decode cX12_steps 18 = .ok (.iconst 0, 1) := by decide +kernel
theorem dX12_steps_19 : decode cX12_steps 19 = .ok (.istore 4, 2) := by decide +kernel
theorem dX12_steps_21 : decode cX12_steps 21 = .ok (.iload 4, 2) := by decide +kernel
theorem dX12_steps_23 : decode cX12_steps 23 = .ok (.iload_n 2, 1) := by decide +kernel
theorem dX12_steps_24 : decode cX12_steps 24 = .ok (.if_icmp .ge 23, 3) := by decide +kernel
theorem dX12_steps_27 : decode cX12_steps 27 = .ok (.fload_n 3, 1) := by decide +kernel
theorem dX12_steps_28 : decode cX12_steps 28 = .ok (.aload_n 0, 1) := by decide +kernel
theorem dX12_steps_29 : decode cX12_steps 29 = .ok (.fload_n 3, 1) := by decide +kernel
theorem dX12_steps_30 : decode cX12_steps 30 = .ok (.invokevirtual 227, 3) := by decide +kernel
theorem dX12_steps_33 : decode cX12_steps 33 = .ok (.aload_n 0, 1) := by decide +kernel
theorem dX12_steps_34 : decode cX12_steps 34 = .ok (.fload_n 3, 1) := by decide +kernel
theorem dX12_steps_35 : decode cX12_steps 35 = .ok (.invokevirtual 235, 3) := by decide +kernel
theorem dX12_steps_38 : decode cX12_steps 38 = .ok (.fdiv, 1) := by decide +kernel
theorem dX12_steps_39 : decode cX12_steps 39 = .ok (.fsub, 1) := by decide +kernel
theorem dX12_steps_40 : decode cX12_steps 40 = .ok (.fstore_n 3, 1) := by decide +kernel
theorem dX12_steps_41 : decode cX12_steps 41 = .ok (.iinc 4 1, 3) := by decide +kernel
theorem dX12_steps_44 : decode cX12_steps 44 = .ok (.goto (-23), 3) := by decide +kernel
theorem dX12_steps_47 : decode cX12_steps 47 = .ok (.fload_n 3, 1) := by decide +kernel
theorem dX12_steps_48 : decode cX12_steps 48 = .ok (.invokestatic 231, 3) := by decide +kernel
theorem dX12_steps_51 : decode cX12_steps 51 = .ok (.ireturn, 1) := by decide +kernel
set_option maxRecDepth 20000 in
theorem ggX12_cut_X12_valueOf : GoodIn wsX12_cut wsX12_valueOf := goodIn_r _ [9, 10, 11, 12, 8, 13, 14, 15, 16, 17, 18, 19, 20, 21, 22, 23, 24, 25, 26, 27, 28, 29, 30, 31, 32, 33, 34, 35, 36, 37, 38, 39, 40, 41, 42, 43, 44, 45, 46, 47, 48, 49, 50, 51, 52, 53, 54, 55, 56, 57, 58] (by decide +kernel) (by decide +kernel)
set_option maxRecDepth 20000 in
theorem gX12_cut_X12_valueOf : GoodIn wsX12_cut (wsV RX12 227 RX12 yX12_valueOf wsX12_valueOf) := goodIn_app (goodIn_of _ (by decide +kernel)) ggX12_cut_X12_valueOf
theorem dX12_cut_0 : decode cX12_cut 0 = .ok (.aload_n 0, 1) := by decide +kernel
theorem dX12_cut_1 : decode cX12_cut 1 = .ok (.iload_n 1, 1) := by decide +kernel
theorem dX12_cut_2 : decode cX12_cut 2 = .ok (.invokestatic 221, 3) := by decide +kernel
theorem dX12_cut_5 : decode cX12_cut 5 = .ok (.invokevirtual 227, 3) := by decide +kernel
theorem dX12_cut_8 : decode cX12_cut 8 = .ok (.f2i, 1) := by decide +kernel
theorem dX12_cut_9 : decode cX12_cut 9 = .ok (.ireturn, 1) := by decide +kernel
set_option maxRecDepth 20000 in
theorem ggX12_valued_X12_valueIn : GoodIn wsX12_valued wsX12_valueIn := goodIn_r _ [9, 10, 11, 12, 8, 13, 25, 26, 27, 28, 29, 30, 31, 32, 33, 34, 35, 36, 37, 38, 39, 40, 41, 42, 43, 44, 45, 46, 47, 48, 49, 50, 51, 52, 53, 54, 55, 56, 57, 58, 59, 60, 61, 62, 63, 64, 65, 66, 67, 68, 69] (by decide +kernel) (by decide +kernel)
set_option maxRecDepth 20000 in
theorem gX12_valued_X12_valueIn : GoodIn wsX12_valued (wsV RX12 244 RX12 yX12_valueIn wsX12_valueIn) := goodIn_app (goodIn_of _ (by decide +kernel)) ggX12_valued_X12_valueIn
set_option maxRecDepth 20000 in
theorem ggX12_valued_Jxe99ae_doubleToLongBits_ccdee : GoodIn wsX12_valued wsJxe99ae_doubleToLongBits_ccdee := goodIn_r _ [17, 18, 19, 20, 4, 21, 22, 23, 16, 24] (by decide +kernel) (by decide +kernel)
set_option maxRecDepth 20000 in
theorem gX12_valued_Jxe99ae_doubleToLongBits_ccdee : GoodIn wsX12_valued (va_wsS RX12 248 yJxe99ae_doubleToLongBits_ccdee wsJxe99ae_doubleToLongBits_ccdee) := goodIn_app (goodIn_of _ (by decide +kernel)) ggX12_valued_Jxe99ae_doubleToLongBits_ccdee
theorem dX12_valued_0 : decode cX12_valued 0 = .ok (.aload_n 0, 1) := by decide +kernel
theorem dX12_valued_1 : decode cX12_valued 1 = .ok (.lload_n 1, 1) := by decide +kernel
theorem dX12_valued_2 : decode cX12_valued 2 = .ok (.invokestatic 238, 3) := by decide +kernel
theorem dX12_valued_5 : decode cX12_valued 5 = .ok (.invokevirtual 244, 3) := by decide +kernel
theorem dX12_valued_8 : decode cX12_valued 8 = .ok (.invokestatic 248, 3) := by decide +kernel
theorem dX12_valued_11 : decode cX12_valued 11 = .ok (.lreturn, 1) := by decide +kernel
set_option maxRecDepth 20000 in
theorem ggX12_narrowed_X12_valueIn : GoodIn wsX12_narrowed wsX12_valueIn := goodIn_r _ [9, 10, 11, 12, 8, 13, 26, 27, 28, 29, 30, 31, 32, 33, 34, 35, 36, 37, 38, 39, 40, 41, 42, 43, 44, 45, 46, 47, 48, 49, 50, 51, 52, 53, 54, 55, 56, 57, 58, 59, 60, 61, 62, 63, 64, 65, 66, 67, 68, 69, 70] (by decide +kernel) (by decide +kernel)
set_option maxRecDepth 20000 in
theorem gX12_narrowed_X12_valueIn : GoodIn wsX12_narrowed (wsV RX12 244 RX12 yX12_valueIn wsX12_valueIn) := goodIn_app (goodIn_of _ (by decide +kernel)) ggX12_narrowed_X12_valueIn
set_option maxRecDepth 20000 in
theorem ggX12_narrowed_Jxf58ca_floatToIntBits_5c35a : GoodIn wsX12_narrowed wsJxf58ca_floatToIntBits_5c35a := goodIn_r _ [17, 18, 19, 20, 21, 22, 23, 24, 16, 25] (by decide +kernel) (by decide +kernel)
set_option maxRecDepth 20000 in
theorem gX12_narrowed_Jxf58ca_floatToIntBits_5c35a : GoodIn wsX12_narrowed (va_wsS RX12 231 yJxf58ca_floatToIntBits_5c35a wsJxf58ca_floatToIntBits_5c35a) := goodIn_app (goodIn_of _ (by decide +kernel)) ggX12_narrowed_Jxf58ca_floatToIntBits_5c35a
theorem dX12_narrowed_0 : decode cX12_narrowed 0 = .ok (.aload_n 0, 1) := by decide +kernel
theorem dX12_narrowed_1 : decode cX12_narrowed 1 = .ok (.lload_n 1, 1) := by decide +kernel
theorem dX12_narrowed_2 : decode cX12_narrowed 2 = .ok (.invokestatic 238, 3) := by decide +kernel
theorem dX12_narrowed_5 : decode cX12_narrowed 5 = .ok (.invokevirtual 244, 3) := by decide +kernel
theorem dX12_narrowed_8 : decode cX12_narrowed 8 = .ok (.d2f, 1) := by decide +kernel
theorem dX12_narrowed_9 : decode cX12_narrowed 9 = .ok (.invokestatic 231, 3) := by decide +kernel
theorem dX12_narrowed_12 : decode cX12_narrowed 12 = .ok (.ireturn, 1) := by decide +kernel
set_option maxRecDepth 20000 in
theorem ggX12_plan_X12_isIn : GoodIn wsX12_plan wsX12_isIn := goodIn_r _ [7] (by decide +kernel) (by decide +kernel)
set_option maxRecDepth 20000 in
theorem gX12_plan_X12_isIn : GoodIn wsX12_plan (va_wsS RX12 121 yX12_isIn wsX12_isIn) := goodIn_app (goodIn_of _ (by decide +kernel)) ggX12_plan_X12_isIn
theorem dX12_plan_0 : decode cX12_plan 0 = .ok (.iload_n 1, 1) := by decide +kernel
theorem dX12_plan_1 : decode cX12_plan 1 = .ok (.iconst 0, 1) := by decide +kernel
theorem dX12_plan_2 : decode cX12_plan 2 = .ok (.iconst 4, 1) := by decide +kernel
theorem dX12_plan_3 : decode cX12_plan 3 = .ok (.invokestatic 121, 3) := by decide +kernel
theorem dX12_plan_6 : decode cX12_plan 6 = .ok (.ifCond .ne 5, 3) := by decide +kernel
theorem dX12_plan_9 : decode cX12_plan 9 = .ok (.iconst (-1), 1) := by decide +kernel
theorem dX12_plan_10 : decode cX12_plan 10 = .ok (.ireturn, 1) := by decide +kernel
theorem dX12_plan_11 : decode cX12_plan 11 = .ok (.iload_n 2, 1) := by decide +kernel
theorem dX12_plan_12 : decode cX12_plan 12 = .ok (.bipush (-99), 2) := by decide +kernel
theorem dX12_plan_14 : decode cX12_plan 14 = .ok (.bipush 99, 2) := by decide +kernel
theorem dX12_plan_16 : decode cX12_plan 16 = .ok (.invokestatic 121, 3) := by decide +kernel
theorem dX12_plan_19 : decode cX12_plan 19 = .ok (.ifCond .ne 6, 3) := by decide +kernel
theorem dX12_plan_22 : decode cX12_plan 22 = .ok (.bipush (-2), 2) := by decide +kernel
theorem dX12_plan_24 : decode cX12_plan 24 = .ok (.ireturn, 1) := by decide +kernel
theorem dX12_plan_25 : decode cX12_plan 25 = .ok (.aload_n 0, 1) := by decide +kernel
