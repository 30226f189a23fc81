theorem dX8_keep_117 : decode cX8_keep 117 = .ok (.iastore, 1) := by decide +kernel
theorem dX8_keep_118 : decode cX8_keep 118 = .ok (.iinc 3 1, 3) := by decide +kernel
theorem dX8_keep_121 : decode cX8_keep 121 = .ok (.goto (-46), 3) := by decide +kernel
theorem dX8_keep_124 : decode cX8_keep 124 = .ok (.aload_n 0, 1) := by decide +kernel
theorem dX8_keep_125 : decode cX8_keep 125 = .ok (.getfield 37, 3) := by decide +kernel
theorem dX8_keep_128 : decode cX8_keep 128 = .ok (.iconst 0, 1) := by decide +kernel
theorem dX8_keep_129 : decode cX8_keep 129 = .ok (.aload_n 0, 1) := by decide +kernel
theorem dX8_keep_130 : decode cX8_keep 130 = .ok (.getfield 31, 3) := by decide +kernel
theorem dX8_keep_133 : decode cX8_keep 133 = .ok (.aload_n 0, 1) := by decide +kernel
theorem dX8_keep_134 : decode cX8_keep 134 = .ok (.getfield 43, 3) := by decide +kernel
theorem dX8_keep_137 : decode cX8_keep 137 = .ok (.bipush 84, 2) := by decide +kernel
theorem dX8_keep_139 : decode cX8_keep 139 = .ok (.imul, 1) := by decide +kernel
theorem dX8_keep_140 : decode cX8_keep 140 = .ok (.aload_n 0, 1) := by decide +kernel
theorem dX8_keep_141 : decode cX8_keep 141 = .ok (.getfield 43, 3) := by decide +kernel
theorem dX8_keep_144 : decode cX8_keep 144 = .ok (.invokestatic 119, 3) := by decide +kernel
theorem dX8_keep_147 : decode cX8_keep 147 = .ok (.aload_n 0, 1) := by decide +kernel
theorem dX8_keep_148 : decode cX8_keep 148 = .ok (.dup, 1) := by decide +kernel
theorem dX8_keep_149 : decode cX8_keep 149 = .ok (.getfield 43, 3) := by decide +kernel
theorem dX8_keep_152 : decode cX8_keep 152 = .ok (.iconst 1, 1) := by decide +kernel
theorem dX8_keep_153 : decode cX8_keep 153 = .ok (.iadd, 1) := by decide +kernel
theorem dX8_keep_154 : decode cX8_keep 154 = .ok (.putfield 43, 3) := by decide +kernel
theorem dX8_keep_157 : decode cX8_keep 157 = .ok (.return_, 1) := by decide +kernel
theorem dX8_firstOther_0 : decode cX8_firstOther 0 = .ok (.iconst 0, 1) := by decide +kernel
theorem dX8_firstOther_1 : decode cX8_firstOther 1 = .ok (.istore_n 1, 1) := by decide +kernel
theorem dX8_firstOther_2 : decode cX8_firstOther 2 = .ok (.iload_n 1, 1) := by decide +kernel
theorem dX8_firstOther_3 : decode cX8_firstOther 3 = .ok (.sipush 225, 3) := by decide +kernel
theorem dX8_firstOther_6 : decode cX8_firstOther 6 = .ok (.if_icmp .ge 20, 3) := by decide +kernel
theorem dX8_firstOther_9 : decode cX8_firstOther 9 = .ok (.aload_n 0, 1) := by decide +kernel
theorem dX8_firstOther_10 : decode cX8_firstOther 10 = .ok (.getfield 34, 3) := by decide +kernel
theorem dX8_firstOther_13 : decode cX8_firstOther 13 = .ok (.iload_n 1, 1) := by decide +kernel
theorem dX8_firstOther_14 : decode cX8_firstOther 14 = .ok (.iaload, 1) := by decide +kernel
theorem dX8_firstOther_15 : decode cX8_firstOther 15 = .ok (.ifCond .eq 5, 3) := by decide +kernel
theorem dX8_firstOther_18 : decode cX8_firstOther 18 = .ok (.iload_n 1, 1) := by decide +kernel
theorem dX8_firstOther_19 : decode cX8_firstOther 19 = .ok (.ireturn, 1) := by decide +kernel
theorem dX8_firstOther_20 : decode cX8_firstOther 20 = .ok (.iinc 1 1, 3) := by decide +kernel
theorem dX8_firstOther_23 : decode cX8_firstOther 23 = .ok (.goto (-21), 3) := by decide +kernel
theorem dX8_firstOther_26 : decode cX8_firstOther 26 = .ok (.iconst (-1), 1) := by decide +kernel
theorem dX8_firstOther_27 : decode cX8_firstOther 27 = .ok (.ireturn, 1) := by decide +kernel
set_option maxRecDepth 20000 in
theorem ggX8_tell_X3_fold : GoodIn wsX8_tell wsX3_fold := goodIn_r _ [13, 14] (by decide +kernel) (by decide +kernel)
set_option maxRecDepth 20000 in
theorem gX8_tell_X3_fold : GoodIn wsX8_tell (va_wsS RX8 115 yX3_fold wsX3_fold) := goodIn_app (goodIn_of _ (by decide +kernel)) ggX8_tell_X3_fold
theorem dX8_tell_0 : decode cX8_tell 0 = .ok (.aload_n 0, 1) := by decide +kernel
theorem dX8_tell_1 : decode cX8_tell 1 = .ok (.getfield 43, 3) := by decide +kernel
theorem dX8_tell_4 : decode cX8_tell 4 = .ok (.iconst 1, 1) := by decide +kernel
theorem dX8_tell_5 : decode cX8_tell 5 = .ok (.isub, 1) := by decide +kernel
theorem dX8_tell_6 : decode cX8_tell 6 = .ok (.istore_n 3, 1) := by decide +kernel
theorem dX8_tell_7 : decode cX8_tell 7 = .ok (.iload_n 3, 1) := by decide +kernel
theorem dX8_tell_8 : decode cX8_tell 8 = .ok (.ifCond .lt 125, 3) := by decide +kernel
theorem dX8_tell_11 : decode cX8_tell 11 = .ok (.aload_n 0, 1) := by decide +kernel
theorem dX8_tell_12 : decode cX8_tell 12 = .ok (.getfield 37, 3) := by decide +kernel
theorem dX8_tell_15 : decode cX8_tell 15 = .ok (.iload_n 3, 1) := by decide +kernel
theorem dX8_tell_16 : decode cX8_tell 16 = .ok (.iaload, 1) := by decide +kernel
theorem dX8_tell_17 : decode cX8_tell 17 = .ok (.i2l, 1) := by decide +kernel
theorem dX8_tell_18 : decode cX8_tell 18 = .ok (.aload_n 0, 1) := by decide +kernel
theorem dX8_tell_19 : decode cX8_tell 19 = .ok (.getfield 28, 3) := by decide +kernel
theorem dX8_tell_22 : decode cX8_tell 22 = .ok (.iload_n 3, 1) := by decide +kernel
theorem dX8_tell_23 : decode cX8_tell 23 = .ok (.iaload, 1) := by decide +kernel
theorem dX8_tell_24 : decode cX8_tell 24 = .ok (.i2l, 1) := by decide +kernel
theorem dX8_tell_25 : decode cX8_tell 25 = .ok (.lmul, 1) := by decide +kernel
theorem dX8_tell_26 : decode cX8_tell 26 = .ok (.invokestatic 115, 3) := by decide +kernel
theorem dX8_tell_29 : decode cX8_tell 29 = .ok (.istore 4, 2) := by decide +kernel
theorem dX8_tell_31 : decode cX8_tell 31 = .ok (.iconst 0, 1) := by decide +kernel
theorem dX8_tell_32 : decode cX8_tell 32 = .ok (.istore 5, 2) := by decide +kernel
theorem dX8_tell_34 : decode cX8_tell 34 = .ok (.iload 5, 2) := by decide +kernel
theorem dX8_tell_36 : decode cX8_tell 36 = .ok (.iload_n 3, 1) := by decide +kernel
theorem dX8_tell_37 : decode cX8_tell 37 = .ok (.if_icmp .ge 43, 3) := by decide +kernel
theorem dX8_tell_40 : decode cX8_tell 40 = .ok (.aload_n 0, 1) := by decide +kernel
theorem dX8_tell_41 : decode cX8_tell 41 = .ok (.getfield 37, 3) := by decide +kernel
theorem dX8_tell_44 : decode cX8_tell 44 = .ok (.iload 5, 2) := by decide +kernel
theorem dX8_tell_46 : decode cX8_tell 46 = .ok (.aload_n 0, 1) := by decide +kernel
theorem dX8_tell_47 : decode cX8_tell 47 = .ok (.getfield 37, 3) := by decide +kernel
theorem dX8_tell_50 : decode cX8_tell 50 = .ok (.iload 5, 2) := by decide +kernel
theorem dX8_tell_52 : decode cX8_tell 52 = .ok (.iaload, 1) := by decide +kernel
theorem dX8_tell_53 : decode cX8_tell 53 = .ok (.iload 4, 2) := by decide +kernel
theorem dX8_tell_55 : decode cX8_tell 55 = .ok (.aload_n 0, 1) := by decide +kernel
theorem dX8_tell_56 : decode cX8_tell 56 = .ok (.getfield 31, 3) := by decide +kernel
theorem dX8_tell_59 : decode cX8_tell 59 = .ok (.iload_n 3, 1) := by decide +kernel
theorem dX8_tell_60 : decode cX8_tell 60 = .ok (.bipush 84, 2) := by decide +kernel
theorem dX8_tell_62 : decode cX8_tell 62 = .ok (.imul, 1) := by decide +kernel
theorem dX8_tell_63 : decode cX8_tell 63 = .ok (.iload 5, 2) := by decide +kernel
theorem dX8_tell_65 : decode cX8_tell 65 = .ok (.iadd, 1) := by decide +kernel
theorem dX8_tell_66 : decode cX8_tell 66 = .ok (.iaload, 1) := by decide +kernel
theorem dX8_tell_67 : decode cX8_tell 67 = .ok (.imul, 1) := by decide +kernel
theorem dX8_tell_68 : decode cX8_tell 68 = .ok (.isub, 1) := by decide +kernel
theorem dX8_tell_69 : decode cX8_tell 69 = .ok (.sipush 10007, 3) := by decide +kernel
theorem dX8_tell_72 : decode cX8_tell 72 = .ok (.irem, 1) := by decide +kernel
theorem dX8_tell_73 : decode cX8_tell 73 = .ok (.iastore, 1) := by decide +kernel
theorem dX8_tell_74 : decode cX8_tell 74 = .ok (.iinc 5 1, 3) := by decide +kernel
theorem dX8_tell_77 : decode cX8_tell 77 = .ok (.goto (-43), 3) := by decide +kernel
theorem dX8_tell_80 : decode cX8_tell 80 = .ok (.aload_n 0, 1) := by decide +kernel
theorem dX8_tell_81 : decode cX8_tell 81 = .ok (.getfield 25, 3) := by decide +kernel
theorem dX8_tell_84 : decode cX8_tell 84 = .ok (.iload_n 3, 1) := by decide +kernel
theorem dX8_tell_85 : decode cX8_tell 85 = .ok (.iaload, 1) := by decide +kernel
theorem dX8_tell_86 : decode cX8_tell 86 = .ok (.bipush 75, 2) := by decide +kernel
theorem dX8_tell_88 : decode cX8_tell 88 = .ok (.if_icmp .ge 22, 3) := by decide +kernel
theorem dX8_tell_91 : decode cX8_tell 91 = .ok (.aload_n 1, 1) := by decide +kernel
theorem dX8_tell_92 : decode cX8_tell 92 = .ok (.getfield 125, 3) := by decide +kernel
theorem dX8_tell_95 : decode cX8_tell 95 = .ok (.getfield 129, 3) := by decide +kernel
theorem dX8_tell_98 : decode cX8_tell 98 = .ok (.aload_n 0, 1) := by decide +kernel
theorem dX8_tell_99 : decode cX8_tell 99 = .ok (.getfield 25, 3) := by decide +kernel
theorem dX8_tell_102 : decode cX8_tell 102 = .ok (.iload_n 3, 1) := by decide +kernel
theorem dX8_tell_103 : decode cX8_tell 103 = .ok (.iaload, 1) := by decide +kernel
theorem dX8_tell_104 : decode cX8_tell 104 = .ok (.iload 4, 2) := by decide +kernel
theorem dX8_tell_106 : decode cX8_tell 106 = .ok (.iastore, 1) := by decide +kernel
theorem dX8_tell_107 : decode cX8_tell 107 = .ok (.goto 20, 3) := by decide +kernel
theorem dX8_tell_110 : decode cX8_tell 110 = .ok (.aload_n 1, 1) := by decide +kernel
theorem dX8_tell_111 : decode cX8_tell 111 = .ok (.getfield 132, 3) := by decide +kernel
theorem dX8_tell_114 : decode cX8_tell 114 = .ok (.aload_n 0, 1) := by decide +kernel
theorem dX8_tell_115 : decode cX8_tell 115 = .ok (.getfield 25, 3) := by decide +kernel
theorem dX8_tell_118 : decode cX8_tell 118 = .ok (.iload_n 3, 1) := by decide +kernel
theorem dX8_tell_119 : decode cX8_tell 119 = .ok (.iaload, 1) := by decide +kernel
theorem dX8_tell_120 : decode cX8_tell 120 = .ok (.bipush 75, 2) := by decide +kernel
theorem dX8_tell_122 : decode cX8_tell 122 = .ok (.isub, 1) := by decide +kernel
theorem dX8_tell_123 : decode cX8_tell 123 = .ok (.iload 4, 2) := by decide +kernel
theorem dX8_tell_125 : decode cX8_tell 125 = .ok (.ineg, 1) := by decide +kernel
theorem dX8_tell_126 : decode cX8_tell 126 = .ok (.iastore, 1) := by decide +kernel
theorem dX8_tell_127 : decode cX8_tell 127 = .ok (.iinc 3 (-1), 3) := by decide +kernel
theorem dX8_tell_130 : decode cX8_tell 130 = .ok (.goto (-123), 3) := by decide +kernel
theorem dX8_tell_133 : decode cX8_tell 133 = .ok (.aload_n 1, 1) := by decide +kernel
theorem dX8_tell_134 : decode cX8_tell 134 = .ok (.getfield 132, 3) := by decide +kernel
theorem dX8_tell_137 : decode cX8_tell 137 = .ok (.iload_n 2, 1) := by decide +kernel
theorem dX8_tell_138 : decode cX8_tell 138 = .ok (.iconst 1, 1) := by decide +kernel
theorem dX8_tell_139 : decode cX8_tell 139 = .ok (.iastore, 1) := by decide +kernel
theorem dX8_tell_140 : decode cX8_tell 140 = .ok (.aload_n 1, 1) := by decide +kernel
theorem dX8_tell_141 : decode cX8_tell 141 = .ok (.iload_n 2, 1) := by decide +kernel
theorem dX8_tell_142 : decode cX8_tell 142 = .ok (.putfield 135, 3) := by decide +kernel
theorem dX8_tell_145 : decode cX8_tell 145 = .ok (.return_, 1) := by decide +kernel
set_option maxRecDepth 20000 in
theorem ggX9_init_X4_init : GoodIn wsX9_init wsX4_init := goodIn_r _ [19, 20, 2, 3, 4, 21, 43] (by decide +kernel) (by decide +kernel)
set_option maxRecDepth 20000 in
theorem gX9_init_X4_init_n17 : GoodIn wsX9_init (wsX4_init) := ggX9_init_X4_init
set_option maxRecDepth 20000 in
theorem ggX9_init_X0_init : GoodIn wsX9_init wsX0_init := goodIn_r _ [23, 24, 2, 3, 25, 7, 8, 26, 4, 27, 28, 29, 30, 31, 32, 18, 19, 20, 21, 43, 44, 45, 46, 47, 48, 49, 50] (by decide +kernel) (by decide +kernel)
set_option maxRecDepth 20000 in
theorem gX9_init_X0_init_n24 : GoodIn wsX9_init (wsX0_init) := ggX9_init_X0_init
set_option maxRecDepth 20000 in
theorem ggX9_init_X5_init : GoodIn wsX9_init wsX5_init := goodIn_r _ [34, 35, 2, 3, 4, 36, 37, 38, 51, 52, 53] (by decide +kernel) (by decide +kernel)
set_option maxRecDepth 20000 in
theorem gX9_init_X5_init_n31 : GoodIn wsX9_init (wsX5_init) := ggX9_init_X5_init
theorem dX9_init_0 : decode cX9_init 0 = .ok (.aload_n 0, 1) := by decide +kernel
theorem dX9_init_1 : decode cX9_init 1 = .ok (.invokespecial 3, 3) := by decide +kernel
theorem dX9_init_4 : decode cX9_init 4 = .ok (.aload_n 0, 1) := by decide +kernel
theorem dX9_init_5 : decode cX9_init 5 = .ok (.iconst 5, 1) := by decide +kernel
theorem dX9_init_6 : decode cX9_init 6 = .ok (.newarray .int, 2) := by decide +kernel
theorem dX9_init_8 : decode cX9_init 8 = .ok (.putfield 9, 3) := by decide +kernel
theorem dX9_init_11 : decode cX9_init 11 = .ok (.aload_n 0, 1) := by decide +kernel
theorem dX9_init_12 : decode cX9_init 12 = .ok (.new 15, 3) := by decide +kernel
theorem dX9_init_15 : decode cX9_init 15 = .ok (.dup, 1) := by decide +kernel
theorem dX9_init_16 : decode cX9_init 16 = .ok (.invokespecial 17, 3) := by decide +kernel
theorem dX9_init_19 : decode cX9_init 19 = .ok (.putfield 18, 3) := by decide +kernel
theorem dX9_init_22 : decode cX9_init 22 = .ok (.aload_n 0, 1) := by decide +kernel
theorem dX9_init_23 : decode cX9_init 23 = .ok (.new 22, 3) := by decide +kernel
theorem dX9_init_26 : decode cX9_init 26 = .ok (.dup, 1) := by decide +kernel
theorem dX9_init_27 : decode cX9_init 27 = .ok (.invokespecial 24, 3) := by decide +kernel
theorem dX9_init_30 : decode cX9_init 30 = .ok (.putfield 25, 3) := by decide +kernel
theorem dX9_init_33 : decode cX9_init 33 = .ok (.aload_n 0, 1) := by decide +kernel
theorem dX9_init_34 : decode cX9_init 34 = .ok (.new 29, 3) := by decide +kernel
theorem dX9_init_37 : decode cX9_init 37 = .ok (.dup, 1) := by decide +kernel
theorem dX9_init_38 : decode cX9_init 38 = .ok (.invokespecial 31, 3) := by decide +kernel
theorem dX9_init_41 : decode cX9_init 41 = .ok (.putfield 32, 3) := by decide +kernel
theorem dX9_init_44 : decode cX9_init 44 = .ok (.aload_n 0, 1) := by decide +kernel
theorem dX9_init_45 : decode cX9_init 45 = .ok (.getfield 9, 3) := by decide +kernel
theorem dX9_init_48 : decode cX9_init 48 = .ok (.iconst 2, 1) := by decide +kernel
theorem dX9_init_49 : decode cX9_init 49 = .ok (.iconst 1, 1) := by decide +kernel
theorem dX9_init_50 : decode cX9_init 50 = .ok (.iastore, 1) := by decide +kernel
theorem dX9_init_51 : decode cX9_init 51 = .ok (.return_, 1) := by decide +kernel
set_option maxRecDepth 20000 in
theorem ggX9_become_X4_become : GoodIn wsX9_become wsX4_become := goodIn_r _ [13, 14, 15, 3, 4, 5, 39] (by decide +kernel) (by decide +kernel)
set_option maxRecDepth 20000 in
theorem gX9_become_X4_become : GoodIn wsX9_become (wsV RX9 42 RX4 yX4_become wsX4_become) := goodIn_app (goodIn_of _ (by decide +kernel)) ggX9_become_X4_become
set_option maxRecDepth 20000 in
theorem ggX9_become_X0_become : GoodIn wsX9_become wsX0_become := goodIn_r _ [20, 21, 22, 23, 3, 4, 5, 24, 25, 10, 11, 12, 13, 14, 15, 40, 41, 42, 43, 44, 45, 46, 39] (by decide +kernel) (by decide +kernel)
set_option maxRecDepth 20000 in
theorem gX9_become_X0_become : GoodIn wsX9_become (wsV RX9 46 RX0 yX0_become wsX0_become) := goodIn_app (goodIn_of _ (by decide +kernel)) ggX9_become_X0_become
set_option maxRecDepth 20000 in
theorem ggX9_become_X5_become : GoodIn wsX9_become wsX5_become := goodIn_r _ [30, 31, 32, 3, 4, 5, 33, 34, 47, 48, 49] (by decide +kernel) (by decide +kernel)
set_option maxRecDepth 20000 in
theorem gX9_become_X5_become : GoodIn wsX9_become (wsV RX9 49 RX5 yX5_become wsX5_become) := goodIn_app (goodIn_of _ (by decide +kernel)) ggX9_become_X5_become
theorem dX9_become_0 : decode cX9_become 0 = .ok (.aload_n 1, 1) := by decide +kernel
theorem dX9_become_1 : decode cX9_become 1 = .ok (.getfield 9, 3) := by decide +kernel
theorem dX9_become_4 : decode cX9_become 4 = .ok (.iconst 0, 1) := by decide +kernel
theorem dX9_become_5 : decode cX9_become 5 = .ok (.aload_n 0, 1) := by decide +kernel
theorem dX9_become_6 : decode cX9_become 6 = .ok (.getfield 9, 3) := by decide +kernel
theorem dX9_become_9 : decode cX9_become 9 = .ok (.iconst 0, 1) := by decide +kernel
theorem dX9_become_10 : decode cX9_become 10 = .ok (.iconst 5, 1) := by decide +kernel
theorem dX9_become_11 : decode cX9_become 11 = .ok (.invokestatic 36, 3) := by decide +kernel
theorem dX9_become_14 : decode cX9_become 14 = .ok (.aload_n 0, 1) := by decide +kernel
theorem dX9_become_15 : decode cX9_become 15 = .ok (.getfield 18, 3) := by decide +kernel
theorem dX9_become_18 : decode cX9_become 18 = .ok (.aload_n 1, 1) := by decide +kernel
theorem dX9_become_19 : decode cX9_become 19 = .ok (.getfield 18, 3) := by decide +kernel
theorem dX9_become_22 : decode cX9_become 22 = .ok (.invokevirtual 42, 3) := by decide +kernel
theorem dX9_become_25 : decode cX9_become 25 = .ok (.aload_n 0, 1) := by decide +kernel
theorem dX9_become_26 : decode cX9_become 26 = .ok (.getfield 25, 3) := by decide +kernel
theorem dX9_become_29 : decode cX9_become 29 = .ok (.aload_n 1, 1) := by decide +kernel
theorem dX9_become_30 : decode cX9_become 30 = .ok (.getfield 25, 3) := by decide +kernel
theorem dX9_become_33 : decode cX9_become 33 = .ok (.invokevirtual 46, 3) := by decide +kernel
theorem dX9_become_36 : decode cX9_become 36 = .ok (.aload_n 0, 1) := by decide +kernel
theorem dX9_become_37 : decode cX9_become 37 = .ok (.getfield 32, 3) := by decide +kernel
theorem dX9_become_40 : decode cX9_become 40 = .ok (.aload_n 1, 1) := by decide +kernel
theorem dX9_become_41 : decode cX9_become 41 = .ok (.getfield 32, 3) := by decide +kernel
theorem dX9_become_44 : decode cX9_become 44 = .ok (.invokevirtual 49, 3) := by decide +kernel
theorem dX9_become_47 : decode cX9_become 47 = .ok (.return_, 1) := by decide +kernel
theorem dX10_init_0 : decode cX10_init 0 = .ok (.aload_n 0, 1) := by decide +kernel
theorem dX10_init_1 : decode cX10_init 1 = .ok (.invokespecial 3, 3) := by decide +kernel
theorem dX10_init_4 : decode cX10_init 4 = .ok (.aload_n 0, 1) := by decide +kernel
theorem dX10_init_5 : decode cX10_init 5 = .ok (.iconst 0, 1) := by decide +kernel
theorem dX10_init_6 : decode cX10_init 6 = .ok (.putfield 9, 3) := by decide +kernel
theorem dX10_init_9 : decode cX10_init 9 = .ok (.aload_n 0, 1) := by decide +kernel
theorem dX10_init_10 : decode cX10_init 10 = .ok (.iconst 5, 1) := by decide +kernel
theorem dX10_init_11 : decode cX10_init 11 = .ok (.newarray .int, 2) := by decide +kernel
theorem dX10_init_13 : decode cX10_init 13 = .ok (.putfield 15, 3) := by decide +kernel
theorem dX10_init_16 : decode cX10_init 16 = .ok (.aload_n 0, 1) := by decide +kernel
theorem dX10_init_17 : decode cX10_init 17 = .ok (.bipush 40, 2) := by decide +kernel
theorem dX10_init_19 : decode cX10_init 19 = .ok (.newarray .int, 2) := by decide +kernel
theorem dX10_init_21 : decode cX10_init 21 = .ok (.putfield 19, 3) := by decide +kernel
theorem dX10_init_24 : decode cX10_init 24 = .ok (.aload_n 0, 1) := by decide +kernel
theorem dX10_init_25 : decode cX10_init 25 = .ok (.bipush 60, 2) := by decide +kernel
theorem dX10_init_27 : decode cX10_init 27 = .ok (.newarray .int, 2) := by decide +kernel
theorem dX10_init_29 : decode cX10_init 29 = .ok (.putfield 22, 3) := by decide +kernel
theorem dX10_init_32 : decode cX10_init 32 = .ok (.aload_n 0, 1) := by decide +kernel
theorem dX10_init_33 : decode cX10_init 33 = .ok (.iconst 0, 1) := by decide +kernel
theorem dX10_init_34 : decode cX10_init 34 = .ok (.putfield 25, 3) := by decide +kernel
theorem dX10_init_37 : decode cX10_init 37 = .ok (.aload_n 0, 1) := by decide +kernel
theorem dX10_init_38 : decode cX10_init 38 = .ok (.iconst 1, 1) := by decide +kernel
theorem dX10_init_39 : decode cX10_init 39 = .ok (.putfield 28, 3) := by decide +kernel
theorem dX10_init_42 : decode cX10_init 42 = .ok (.aload_n 0, 1) := by decide +kernel
theorem dX10_init_43 : decode cX10_init 43 = .ok (.iconst 0, 1) := by decide +kernel
theorem dX10_init_44 : decode cX10_init 44 = .ok (.putfield 31, 3) := by decide +kernel
theorem dX10_init_47 : decode cX10_init 47 = .ok (.aload_n 0, 1) := by decide +kernel
theorem dX10_init_48 : decode cX10_init 48 = .ok (.iconst 0, 1) := by decide +kernel
theorem dX10_init_49 : decode cX10_init 49 = .ok (.putfield 34, 3) := by decide +kernel
theorem dX10_init_52 : decode cX10_init 52 = .ok (.aload_n 0, 1) := by decide +kernel
theorem dX10_init_53 : decode cX10_init 53 = .ok (.iconst 0, 1) := by decide +kernel
theorem dX10_init_54 : decode cX10_init 54 = .ok (.putfield 37, 3) := by decide +kernel
theorem dX10_init_57 : decode cX10_init 57 = .ok (.return_, 1) := by decide +kernel
theorem dX10_append_0 : decode cX10_append 0 = .ok (.aload_n 0, 1) := by decide +kernel
theorem dX10_append_1 : decode cX10_append 1 = .ok (.getfield 9, 3) := by decide +kernel
theorem dX10_append_4 : decode cX10_append 4 = .ok (.bipush 60, 2) := by decide +kernel
theorem dX10_append_6 : decode cX10_append 6 = .ok (.if_icmp .ge 23, 3) := by decide +kernel
theorem dX10_append_9 : decode cX10_append 9 = .ok (.aload_n 0, 1) := by decide +kernel
theorem dX10_append_10 : decode cX10_append 10 = .ok (.getfield 22, 3) := by decide +kernel
theorem dX10_append_13 : decode cX10_append 13 = .ok (.aload_n 0, 1) := by decide +kernel
theorem dX10_append_14 : decode cX10_append 14 = .ok (.getfield 9, 3) := by decide +kernel
theorem dX10_append_17 : decode cX10_append 17 = .ok (.iload_n 1, 1) := by decide +kernel
theorem dX10_append_18 : decode cX10_append 18 = .ok (.iastore, 1) := by decide +kernel
theorem dX10_append_19 : decode cX10_append 19 = .ok (.aload_n 0, 1) := by decide +kernel
theorem dX10_append_20 : decode cX10_append 20 = .ok (.dup, 1) := by decide +kernel
theorem dX10_append_21 : decode cX10_append 21 = .ok (.getfield 9, 3) := by decide +kernel
theorem dX10_append_24 : decode cX10_append 24 = .ok (.iconst 1, 1) := by decide +kernel
theorem dX10_append_25 : decode cX10_append 25 = .ok (.iadd, 1) := by decide +kernel
theorem dX10_append_26 : decode cX10_append 26 = .ok (.putfield 9, 3) := by decide +kernel
theorem dX10_append_29 : decode cX10_append 29 = .ok (.return_, 1) := by decide +kernel
set_option maxRecDepth 20000 in
theorem ggX10_fault_J7_fill_53178 : GoodIn wsX10_fault wsJ7_fill_53178 := goodIn_r _ [7] (by decide +kernel) (by decide +kernel)
set_option maxRecDepth 20000 in
theorem gX10_fault_J7_fill_53178 : GoodIn wsX10_fault (va_wsS RX10 40 yJ7_fill_53178 wsJ7_fill_53178) := goodIn_app (goodIn_of _ (by decide +kernel)) ggX10_fault_J7_fill_53178
set_option maxRecDepth 20000 in
theorem ggX10_fault_X10_startTerm : GoodIn wsX10_fault wsX10_startTerm := goodIn_r _ [12, 13, 14, 15, 16, 48, 49, 50, 51, 52, 53, 54, 55, 56] (by decide +kernel) (by decide +kernel)
set_option maxRecDepth 20000 in
theorem gX10_fault_X10_startTerm : GoodIn wsX10_fault (wsV RX10 46 RX10 yX10_startTerm wsX10_startTerm) := goodIn_app (goodIn_of _ (by decide +kernel)) ggX10_fault_X10_startTerm
set_option maxRecDepth 20000 in
theorem ggX10_fault_X10_step : GoodIn wsX10_fault wsX10_step := goodIn_r _ [20, 21, 22, 23, 11, 24, 16, 15, 14, 25, 26, 27, 28, 29, 30, 31, 32, 33, 34, 35, 36, 37, 38, 39, 1, 13, 40, 41, 42, 43, 44, 45, 46, 47, 8, 9, 10, 12, 48, 49, 50, 51, 52, 53, 54, 55, 56] (by decide +kernel) (by decide +kernel)
set_option maxRecDepth 20000 in
theorem gX10_fault_X10_step : GoodIn wsX10_fault (wsV RX10 50 RX10 yX10_step wsX10_step) := goodIn_app (goodIn_of _ (by decide +kernel)) ggX10_fault_X10_step
set_option maxRecDepth 20000 in
theorem ggX10_fault_X10_mayEnd : GoodIn wsX10_fault wsX10_mayEnd := goodIn_r _ [35] (by decide +kernel) (by decide +kernel)
set_option maxRecDepth 20000 in
theorem gX10_fault_X10_mayEnd : GoodIn wsX10_fault (va_wsS RX10 54 yX10_mayEnd wsX10_mayEnd) := goodIn_app (goodIn_of _ (by decide +kernel)) ggX10_fault_X10_mayEnd
set_option maxRecDepth 20000 in
theorem ggX10_fault_X10_endTerm : GoodIn wsX10_fault wsX10_endTerm := goodIn_r _ [39, 16, 1, 13, 14, 40, 41, 42, 43, 44, 45, 46, 47, 48, 49, 50, 51, 52, 53, 54, 55, 56] (by decide +kernel) (by decide +kernel)
set_option maxRecDepth 20000 in
theorem gX10_fault_X10_endTerm : GoodIn wsX10_fault (wsV RX10 58 RX10 yX10_endTerm wsX10_endTerm) := goodIn_app (goodIn_of _ (by decide +kernel)) ggX10_fault_X10_endTerm
theorem dX10_fault_0 : decode cX10_fault 0 = .ok (.aload_n 0, 1) := by decide +kernel
theorem dX10_fault_1 : decode cX10_fault 1 = .ok (.getfield 15, 3) := by decide +kernel
theorem dX10_fault_4 : decode cX10_fault 4 = .ok (.iconst 0, 1) := by decide +kernel
theorem dX10_fault_5 : decode cX10_fault 5 = .ok (.invokestatic 40, 3) := by decide +kernel
theorem dX10_fault_8 : decode cX10_fault 8 = .ok (.aload_n 0, 1) := by decide +kernel
theorem dX10_fault_9 : decode cX10_fault 9 = .ok (.iconst 1, 1) := by decide +kernel
theorem dX10_fault_10 : decode cX10_fault 10 = .ok (.invokevirtual 46, 3) := by decide +kernel
theorem dX10_fault_13 : decode cX10_fault 13 = .ok (.iconst 0, 1) := by decide +kernel
theorem dX10_fault_14 : decode cX10_fault 14 = .ok (.istore_n 1, 1) := by decide +kernel
theorem dX10_fault_15 : decode cX10_fault 15 = .ok (.iconst 0, 1) := by decide +kernel
theorem dX10_fault_16 : decode cX10_fault 16 = .ok (.istore_n 2, 1) := by decide +kernel
theorem dX10_fault_17 : decode cX10_fault 17 = .ok (.iload_n 2, 1) := by decide +kernel
theorem dX10_fault_18 : decode cX10_fault 18 = .ok (.aload_n 0, 1) := by decide +kernel
theorem dX10_fault_19 : decode cX10_fault 19 = .ok (.getfield 9, 3) := by decide +kernel
theorem dX10_fault_22 : decode cX10_fault 22 = .ok (.if_icmp .ge 35, 3) := by decide +kernel
theorem dX10_fault_25 : decode cX10_fault 25 = .ok (.iload_n 2, 1) := by decide +kernel
theorem dX10_fault_26 : decode cX10_fault 26 = .ok (.bipush 60, 2) := by decide +kernel
theorem dX10_fault_28 : decode cX10_fault 28 = .ok (.if_icmp .ge 29, 3) := by decide +kernel
theorem dX10_fault_31 : decode cX10_fault 31 = .ok (.aload_n 0, 1) := by decide +kernel
theorem dX10_fault_32 : decode cX10_fault 32 = .ok (.iload_n 1, 1) := by decide +kernel
theorem dX10_fault_33 : decode cX10_fault 33 = .ok (.aload_n 0, 1) := by decide +kernel
theorem dX10_fault_34 : decode cX10_fault 34 = .ok (.getfield 22, 3) := by decide +kernel
theorem dX10_fault_37 : decode cX10_fault 37 = .ok (.iload_n 2, 1) := by decide +kernel
theorem dX10_fault_38 : decode cX10_fault 38 = .ok (.iaload, 1) := by decide +kernel
theorem dX10_fault_39 : decode cX10_fault 39 = .ok (.invokevirtual 50, 3) := by decide +kernel
theorem dX10_fault_42 : decode cX10_fault 42 = .ok (.istore_n 1, 1) := by decide +kernel
theorem dX10_fault_43 : decode cX10_fault 43 = .ok (.iload_n 1, 1) := by decide +kernel
theorem dX10_fault_44 : decode cX10_fault 44 = .ok (.bipush 6, 2) := by decide +kernel
theorem dX10_fault_46 : decode cX10_fault 46 = .ok (.if_icmp .ne 5, 3) := by decide +kernel
theorem dX10_fault_49 : decode cX10_fault 49 = .ok (.iload_n 2, 1) := by decide +kernel
theorem dX10_fault_50 : decode cX10_fault 50 = .ok (.ireturn, 1) := by decide +kernel
theorem dX10_fault_51 : decode cX10_fault 51 = .ok (.iinc 2 1, 3) := by decide +kernel
theorem dX10_fault_54 : decode cX10_fault 54 = .ok (.goto (-37), 3) := by decide +kernel
theorem dX10_fault_57 : decode cX10_fault 57 = .ok (.iload_n 1, 1) := by decide +kernel
theorem dX10_fault_58 : decode cX10_fault 58 = .ok (.invokestatic 54, 3) := by decide +kernel
theorem dX10_fault_61 : decode cX10_fault 61 = .ok (.ifCond .ne 8, 3) := by decide +kernel
theorem dX10_fault_64 : decode cX10_fault 64 = .ok (.aload_n 0, 1) := by decide +kernel
theorem dX10_fault_65 : decode cX10_fault 65 = .ok (.getfield 9, 3) := by decide +kernel
theorem dX10_fault_68 : decode cX10_fault 68 = .ok (.ireturn, 1) := by decide +kernel
theorem dX10_fault_69 : decode cX10_fault 69 = .ok (.aload_n 0, 1) := by decide +kernel
theorem dX10_fault_70 : decode cX10_fault 70 = .ok (.invokevirtual 58, 3) := by decide +kernel
theorem dX10_fault_73 : decode cX10_fault 73 = .ok (.iconst (-1), 1) := by decide +kernel
theorem dX10_fault_74 : decode cX10_fault 74 = .ok (.ireturn, 1) := by decide +kernel
theorem dX10_mayEnd_0 : decode cX10_mayEnd 0 = .ok (.iload_n 0, 1) := by decide +kernel
theorem dX10_mayEnd_1 : decode cX10_mayEnd 1 = .ok (.iconst 2, 1) := by decide +kernel
theorem dX10_mayEnd_2 : decode cX10_mayEnd 2 = .ok (.if_icmp .eq 13, 3) := by decide +kernel
theorem dX10_mayEnd_5 : decode cX10_mayEnd 5 = .ok (.iload_n 0, 1) := by decide +kernel
theorem dX10_mayEnd_6 : decode cX10_mayEnd 6 = .ok (.iconst 3, 1) := by decide +kernel
theorem dX10_mayEnd_7 : decode cX10_mayEnd 7 = .ok (.if_icmp .eq 8, 3) := by decide +kernel
theorem dX10_mayEnd_10 : decode cX10_mayEnd 10 = .ok (.iload_n 0, 1) := by decide +kernel
theorem dX10_mayEnd_11 : decode cX10_mayEnd 11 = .ok (.iconst 5, 1) := by decide +kernel
theorem dX10_mayEnd_12 : decode cX10_mayEnd 12 = .ok (.if_icmp .ne 7, 3) := by decide +kernel
theorem dX10_mayEnd_15 : decode cX10_mayEnd 15 = .ok (.iconst 1, 1) := by decide +kernel
theorem dX10_mayEnd_16 : decode cX10_mayEnd 16 = .ok (.goto 4, 3) := by decide +kernel
theorem dX10_mayEnd_19 : decode cX10_mayEnd 19 = .ok (.iconst 0, 1) := by decide +kernel
theorem dX10_mayEnd_20 : decode cX10_mayEnd 20 = .ok (.ireturn, 1) := by decide +kernel
set_option maxRecDepth 20000 in
theorem ggX10_step_X10_stepFigure : GoodIn wsX10_step wsX10_stepFigure := goodIn_r _ [5, 6, 7, 8, 38, 39, 40, 41, 42, 43, 44, 45, 46] (by decide +kernel) (by decide +kernel)
set_option maxRecDepth 20000 in
theorem gX10_step_X10_stepFigure : GoodIn wsX10_step (wsV RX10 61 RX10 yX10_stepFigure wsX10_stepFigure) := goodIn_app (goodIn_of _ (by decide +kernel)) ggX10_step_X10_stepFigure
set_option maxRecDepth 20000 in
theorem ggX10_step_X10_stepUnknown : GoodIn wsX10_step wsX10_stepUnknown := goodIn_r _ [12, 8, 6, 38, 39, 40, 41, 42, 43, 44, 45, 46] (by decide +kernel) (by decide +kernel)
set_option maxRecDepth 20000 in
theorem gX10_step_X10_stepUnknown : GoodIn wsX10_step (wsV RX10 64 RX10 yX10_stepUnknown wsX10_stepUnknown) := goodIn_app (goodIn_of _ (by decide +kernel)) ggX10_step_X10_stepUnknown
set_option maxRecDepth 20000 in
theorem ggX10_step_X10_stepSign : GoodIn wsX10_step wsX10_stepSign := goodIn_r _ [16, 17, 18, 4, 19, 20, 21, 22, 23, 6, 24, 25, 8, 26, 27, 28, 29, 30, 31, 32, 33, 34, 35, 36, 37, 7, 38, 39, 40, 41, 42, 43, 44, 45, 46] (by decide +kernel) (by decide +kernel)
set_option maxRecDepth 20000 in
theorem gX10_step_X10_stepSign : GoodIn wsX10_step (wsV RX10 68 RX10 yX10_stepSign wsX10_stepSign) := goodIn_app (goodIn_of _ (by decide +kernel)) ggX10_step_X10_stepSign
theorem dX10_step_0 : decode cX10_step 0 = .ok (.iload_n 2, 1) := by decide +kernel
theorem dX10_step_1 : decode cX10_step 1 = .ok (.bipush 48, 2) := by decide +kernel
theorem dX10_step_3 : decode cX10_step 3 = .ok (.if_icmp .lt 19, 3) := by decide +kernel
theorem dX10_step_6 : decode cX10_step 6 = .ok (.iload_n 2, 1) := by decide +kernel
theorem dX10_step_7 : decode cX10_step 7 = .ok (.bipush 57, 2) := by decide +kernel
theorem dX10_step_9 : decode cX10_step 9 = .ok (.if_icmp .gt 13, 3) := by decide +kernel
theorem dX10_step_12 : decode cX10_step 12 = .ok (.aload_n 0, 1) := by decide +kernel
theorem dX10_step_13 : decode cX10_step 13 = .ok (.iload_n 1, 1) := by decide +kernel
theorem dX10_step_14 : decode cX10_step 14 = .ok (.iload_n 2, 1) := by decide +kernel
theorem dX10_step_15 : decode cX10_step 15 = .ok (.bipush 48, 2) := by decide +kernel
theorem dX10_step_17 : decode cX10_step 17 = .ok (.isub, 1) := by decide +kernel
theorem dX10_step_18 : decode cX10_step 18 = .ok (.invokevirtual 61, 3) := by decide +kernel
theorem dX10_step_21 : decode cX10_step 21 = .ok (.ireturn, 1) := by decide +kernel
theorem dX10_step_22 : decode cX10_step 22 = .ok (.iload_n 2, 1) := by decide +kernel
theorem dX10_step_23 : decode cX10_step 23 = .ok (.lookupswitch 76 #[(43, 59), (45, 59), (94, 47), (120, 41)], 41) := by decide +kernel
theorem dX10_step_64 : decode cX10_step 64 = .ok (.aload_n 0, 1) := by decide +kernel
theorem dX10_step_65 : decode cX10_step 65 = .ok (.iload_n 1, 1) := by decide +kernel
theorem dX10_step_66 : decode cX10_step 66 = .ok (.invokevirtual 64, 3) := by decide +kernel
theorem dX10_step_69 : decode cX10_step 69 = .ok (.ireturn, 1) := by decide +kernel
theorem dX10_step_70 : decode cX10_step 70 = .ok (.iload_n 1, 1) := by decide +kernel
theorem dX10_step_71 : decode cX10_step 71 = .ok (.iconst 3, 1) := by decide +kernel
theorem dX10_step_72 : decode cX10_step 72 = .ok (.if_icmp .ne 7, 3) := by decide +kernel
theorem dX10_step_75 : decode cX10_step 75 = .ok (.iconst 4, 1) := by decide +kernel
theorem dX10_step_76 : decode cX10_step 76 = .ok (.goto 5, 3) := by decide +kernel
theorem dX10_step_79 : decode cX10_step 79 = .ok (.bipush 6, 2) := by decide +kernel
theorem dX10_step_81 : decode cX10_step 81 = .ok (.ireturn, 1) := by decide +kernel
theorem dX10_step_82 : decode cX10_step 82 = .ok (.aload_n 0, 1) := by decide +kernel
theorem dX10_step_83 : decode cX10_step 83 = .ok (.iload_n 1, 1) := by decide +kernel
theorem dX10_step_84 : decode cX10_step 84 = .ok (.iload_n 2, 1) := by decide +kernel
theorem dX10_step_85 : decode cX10_step 85 = .ok (.bipush 45, 2) := by decide +kernel
theorem dX10_step_87 : decode cX10_step 87 = .ok (.if_icmp .ne 7, 3) := by decide +kernel
theorem dX10_step_90 : decode cX10_step 90 = .ok (.iconst (-1), 1) := by decide +kernel
theorem dX10_step_91 : decode cX10_step 91 = .ok (.goto 4, 3) := by decide +kernel
theorem dX10_step_94 : decode cX10_step 94 = .ok (.iconst 1, 1) := by decide +kernel
theorem dX10_step_95 : decode cX10_step 95 = .ok (.invokevirtual 68, 3) := by decide +kernel
theorem dX10_step_98 : decode cX10_step 98 = .ok (.ireturn, 1) := by decide +kernel
theorem dX10_step_99 : decode cX10_step 99 = .ok (.bipush 6, 2) := by decide +kernel
theorem dX10_step_101 : decode cX10_step 101 = .ok (.ireturn, 1) := by decide +kernel
theorem dX10_stepFigure_0 : decode cX10_stepFigure 0 = .ok (.iload_n 1, 1) := by decide +kernel
theorem dX10_stepFigure_1 : decode cX10_stepFigure 1 = .ok (.iconst 4, 1) := by decide +kernel
theorem dX10_stepFigure_2 : decode cX10_stepFigure 2 = .ok (.if_icmp .ne 20, 3) := by decide +kernel
theorem dX10_stepFigure_5 : decode cX10_stepFigure 5 = .ok (.aload_n 0, 1) := by decide +kernel
theorem dX10_stepFigure_6 : decode cX10_stepFigure 6 = .ok (.iload_n 2, 1) := by decide +kernel
theorem dX10_stepFigure_7 : decode cX10_stepFigure 7 = .ok (.putfield 37, 3) := by decide +kernel
theorem dX10_stepFigure_10 : decode cX10_stepFigure 10 = .ok (.iload_n 2, 1) := by decide +kernel
theorem dX10_stepFigure_11 : decode cX10_stepFigure 11 = .ok (.iconst 4, 1) := by decide +kernel
theorem dX10_stepFigure_12 : decode cX10_stepFigure 12 = .ok (.if_icmp .gt 7, 3) := by decide +kernel
theorem dX10_stepFigure_15 : decode cX10_stepFigure 15 = .ok (.iconst 5, 1) := by decide +kernel
theorem dX10_stepFigure_16 : decode cX10_stepFigure 16 = .ok (.goto 5, 3) := by decide +kernel
theorem dX10_stepFigure_19 : decode cX10_stepFigure 19 = .ok (.bipush 6, 2) := by decide +kernel
theorem dX10_stepFigure_21 : decode cX10_stepFigure 21 = .ok (.ireturn, 1) := by decide +kernel
theorem dX10_stepFigure_22 : decode cX10_stepFigure 22 = .ok (.iload_n 1, 1) := by decide +kernel
theorem dX10_stepFigure_23 : decode cX10_stepFigure 23 = .ok (.ifCond .eq 21, 3) := by decide +kernel
theorem dX10_stepFigure_26 : decode cX10_stepFigure 26 = .ok (.iload_n 1, 1) := by decide +kernel
theorem dX10_stepFigure_27 : decode cX10_stepFigure 27 = .ok (.iconst 1, 1) := by decide +kernel
theorem dX10_stepFigure_28 : decode cX10_stepFigure 28 = .ok (.if_icmp .eq 16, 3) := by decide +kernel
theorem dX10_stepFigure_31 : decode cX10_stepFigure 31 = .ok (.iload_n 1, 1) := by decide +kernel
theorem dX10_stepFigure_32 : decode cX10_stepFigure 32 = .ok (.iconst 2, 1) := by decide +kernel
theorem dX10_stepFigure_33 : decode cX10_stepFigure 33 = .ok (.if_icmp .ne 36, 3) := by decide +kernel
theorem dX10_stepFigure_36 : decode cX10_stepFigure 36 = .ok (.aload_n 0, 1) := by decide +kernel
theorem dX10_stepFigure_37 : decode cX10_stepFigure 37 = .ok (.getfield 34, 3) := by decide +kernel
theorem dX10_stepFigure_40 : decode cX10_stepFigure 40 = .ok (.iconst 3, 1) := by decide +kernel
theorem dX10_stepFigure_41 : decode cX10_stepFigure 41 = .ok (.if_icmp .ge 28, 3) := by decide +kernel
theorem dX10_stepFigure_44 : decode cX10_stepFigure 44 = .ok (.aload_n 0, 1) := by decide +kernel
theorem dX10_stepFigure_45 : decode cX10_stepFigure 45 = .ok (.aload_n 0, 1) := by decide +kernel
theorem dX10_stepFigure_46 : decode cX10_stepFigure 46 = .ok (.getfield 31, 3) := by decide +kernel
theorem dX10_stepFigure_49 : decode cX10_stepFigure 49 = .ok (.bipush 10, 2) := by decide +kernel
theorem dX10_stepFigure_51 : decode cX10_stepFigure 51 = .ok (.imul, 1) := by decide +kernel
theorem dX10_stepFigure_52 : decode cX10_stepFigure 52 = .ok (.iload_n 2, 1) := by decide +kernel
theorem dX10_stepFigure_53 : decode cX10_stepFigure 53 = .ok (.iadd, 1) := by decide +kernel
theorem dX10_stepFigure_54 : decode cX10_stepFigure 54 = .ok (.putfield 31, 3) := by decide +kernel
theorem dX10_stepFigure_57 : decode cX10_stepFigure 57 = .ok (.aload_n 0, 1) := by decide +kernel
theorem dX10_stepFigure_58 : decode cX10_stepFigure 58 = .ok (.dup, 1) := by decide +kernel
theorem dX10_stepFigure_59 : decode cX10_stepFigure 59 = .ok (.getfield 34, 3) := by decide +kernel
theorem dX10_stepFigure_62 : decode cX10_stepFigure 62 = .ok (.iconst 1, 1) := by decide +kernel
theorem dX10_stepFigure_63 : decode cX10_stepFigure 63 = .ok (.iadd, 1) := by decide +kernel
theorem dX10_stepFigure_64 : decode cX10_stepFigure 64 = .ok (.putfield 34, 3) := by decide +kernel
theorem dX10_stepFigure_67 : decode cX10_stepFigure 67 = .ok (.iconst 2, 1) := by decide +kernel
theorem dX10_stepFigure_68 : decode cX10_stepFigure 68 = .ok (.ireturn, 1) := by decide +kernel
theorem dX10_stepFigure_69 : decode cX10_stepFigure 69 = .ok (.bipush 6, 2) := by decide +kernel
theorem dX10_stepFigure_71 : decode cX10_stepFigure 71 = .ok (.ireturn, 1) := by decide +kernel
theorem dX10_stepUnknown_0 : decode cX10_stepUnknown 0 = .ok (.iload_n 1, 1) := by decide +kernel
theorem dX10_stepUnknown_1 : decode cX10_stepUnknown 1 = .ok (.ifCond .eq 8, 3) := by decide +kernel
theorem dX10_stepUnknown_4 : decode cX10_stepUnknown 4 = .ok (.iload_n 1, 1) := by decide +kernel
theorem dX10_stepUnknown_5 : decode cX10_stepUnknown 5 = .ok (.iconst 1, 1) := by decide +kernel
theorem dX10_stepUnknown_6 : decode cX10_stepUnknown 6 = .ok (.if_icmp .ne 11, 3) := by decide +kernel
theorem dX10_stepUnknown_9 : decode cX10_stepUnknown 9 = .ok (.aload_n 0, 1) := by decide +kernel
theorem dX10_stepUnknown_10 : decode cX10_stepUnknown 10 = .ok (.iconst 1, 1) := by decide +kernel
theorem dX10_stepUnknown_11 : decode cX10_stepUnknown 11 = .ok (.putfield 31, 3) := by decide +kernel
theorem dX10_stepUnknown_14 : decode cX10_stepUnknown 14 = .ok (.goto 11, 3) := by decide +kernel
theorem dX10_stepUnknown_17 : decode cX10_stepUnknown 17 = .ok (.iload_n 1, 1) := by decide +kernel
theorem dX10_stepUnknown_18 : decode cX10_stepUnknown 18 = .ok (.iconst 2, 1) := by decide +kernel
theorem dX10_stepUnknown_19 : decode cX10_stepUnknown 19 = .ok (.if_icmp .eq 6, 3) := by decide +kernel
theorem dX10_stepUnknown_22 : decode cX10_stepUnknown 22 = .ok (.bipush 6, 2) := by decide +kernel
theorem dX10_stepUnknown_24 : decode cX10_stepUnknown 24 = .ok (.ireturn, 1) := by decide +kernel
theorem dX10_stepUnknown_25 : decode cX10_stepUnknown 25 = .ok (.aload_n 0, 1) := by decide +kernel
theorem dX10_stepUnknown_26 : decode cX10_stepUnknown 26 = .ok (.iconst 1, 1) := by decide +kernel
theorem dX10_stepUnknown_27 : decode cX10_stepUnknown 27 = .ok (.putfield 37, 3) := by decide +kernel
theorem dX10_stepUnknown_30 : decode cX10_stepUnknown 30 = .ok (.iconst 3, 1) := by decide +kernel
theorem dX10_stepUnknown_31 : decode cX10_stepUnknown 31 = .ok (.ireturn, 1) := by decide +kernel
set_option maxRecDepth 20000 in
theorem ggX10_stepSign_X10_mayEnd : GoodIn wsX10_stepSign wsX10_mayEnd := goodIn_r _ [4] (by decide +kernel) (by decide +kernel)
set_option maxRecDepth 20000 in
theorem gX10_stepSign_X10_mayEnd : GoodIn wsX10_stepSign (va_wsS RX10 54 yX10_mayEnd wsX10_mayEnd) := goodIn_app (goodIn_of _ (by decide +kernel)) ggX10_stepSign_X10_mayEnd
set_option maxRecDepth 20000 in
theorem ggX10_stepSign_X10_endTerm : GoodIn wsX10_stepSign wsX10_endTerm := goodIn_r _ [8, 9, 10, 11, 12, 13, 14, 15, 16, 17, 18, 19, 20, 26, 27, 28, 29, 30, 31, 32, 33, 34] (by decide +kernel) (by decide +kernel)
set_option maxRecDepth 20000 in
theorem gX10_stepSign_X10_endTerm : GoodIn wsX10_stepSign (wsV RX10 58 RX10 yX10_endTerm wsX10_endTerm) := goodIn_app (goodIn_of _ (by decide +kernel)) ggX10_stepSign_X10_endTerm
set_option maxRecDepth 20000 in
theorem ggX10_stepSign_X10_startTerm : GoodIn wsX10_stepSign wsX10_startTerm := goodIn_r _ [24, 11, 12, 25, 9, 26, 27, 28, 29, 30, 31, 32, 33, 34] (by decide +kernel) (by decide +kernel)
set_option maxRecDepth 20000 in
theorem gX10_stepSign_X10_startTerm : GoodIn wsX10_stepSign (wsV RX10 46 RX10 yX10_startTerm wsX10_startTerm) := goodIn_app (goodIn_of _ (by decide +kernel)) ggX10_stepSign_X10_startTerm
theorem dX10_stepSign_0 : decode cX10_stepSign 0 = .ok (.iload_n 1, 1) := by decide +kernel
theorem dX10_stepSign_1 : decode cX10_stepSign 1 = .ok (.invokestatic 54, 3) := by decide +kernel
theorem dX10_stepSign_4 : decode cX10_stepSign 4 = .ok (.ifCond .eq 10, 3) := by decide +kernel
theorem dX10_stepSign_7 : decode cX10_stepSign 7 = .ok (.aload_n 0, 1) := by decide +kernel
theorem dX10_stepSign_8 : decode cX10_stepSign 8 = .ok (.invokevirtual 58, 3) := by decide +kernel
theorem dX10_stepSign_11 : decode cX10_stepSign 11 = .ok (.goto 14, 3) := by decide +kernel
theorem dX10_stepSign_14 : decode cX10_stepSign 14 = .ok (.iload_n 1, 1) := by decide +kernel
theorem dX10_stepSign_15 : decode cX10_stepSign 15 = .ok (.ifCond .ne 7, 3) := by decide +kernel
theorem dX10_stepSign_18 : decode cX10_stepSign 18 = .ok (.iload_n 2, 1) := by decide +kernel
theorem dX10_stepSign_19 : decode cX10_stepSign 19 = .ok (.ifCond .le 6, 3) := by decide +kernel
theorem dX10_stepSign_22 : decode cX10_stepSign 22 = .ok (.bipush 6, 2) := by decide +kernel
theorem dX10_stepSign_24 : decode cX10_stepSign 24 = .ok (.ireturn, 1) := by decide +kernel
theorem dX10_stepSign_25 : decode cX10_stepSign 25 = .ok (.aload_n 0, 1) := by decide +kernel
theorem dX10_stepSign_26 : decode cX10_stepSign 26 = .ok (.iload_n 2, 1) := by decide +kernel
theorem dX10_stepSign_27 : decode cX10_stepSign 27 = .ok (.invokevirtual 46, 3) := by decide +kernel
theorem dX10_stepSign_30 : decode cX10_stepSign 30 = .ok (.iconst 1, 1) := by decide +kernel
theorem dX10_stepSign_31 : decode cX10_stepSign 31 = .ok (.ireturn, 1) := by decide +kernel
theorem dX10_startTerm_0 : decode cX10_startTerm 0 = .ok (.aload_n 0, 1) := by decide +kernel
theorem dX10_startTerm_1 : decode cX10_startTerm 1 = .ok (.iload_n 1, 1) := by decide +kernel
theorem dX10_startTerm_2 : decode cX10_startTerm 2 = .ok (.putfield 28, 3) := by decide +kernel
theorem dX10_startTerm_5 : decode cX10_startTerm 5 = .ok (.aload_n 0, 1) := by decide +kernel
theorem dX10_startTerm_6 : decode cX10_startTerm 6 = .ok (.iconst 0, 1) := by decide +kernel
theorem dX10_startTerm_7 : decode cX10_startTerm 7 = .ok (.putfield 31, 3) := by decide +kernel
theorem dX10_startTerm_10 : decode cX10_startTerm 10 = .ok (.aload_n 0, 1) := by decide +kernel
theorem dX10_startTerm_11 : decode cX10_startTerm 11 = .ok (.iconst 0, 1) := by decide +kernel
theorem dX10_startTerm_12 : decode cX10_startTerm 12 = .ok (.putfield 34, 3) := by decide +kernel
theorem dX10_startTerm_15 : decode cX10_startTerm 15 = .ok (.aload_n 0, 1) := by decide +kernel
theorem dX10_startTerm_16 : decode cX10_startTerm 16 = .ok (.iconst 0, 1) := by decide +kernel
theorem dX10_startTerm_17 : decode cX10_startTerm 17 = .ok (.putfield 37, 3) := by decide +kernel
theorem dX10_startTerm_20 : decode cX10_startTerm 20 = .ok (.return_, 1) := by decide +kernel
set_option maxRecDepth 20000 in
theorem ggX10_endTerm_X11_within : GoodIn wsX10_endTerm wsX11_within := goodIn_r _ [7] (by decide +kernel) (by decide +kernel)
set_option maxRecDepth 20000 in
theorem gX10_endTerm_X11_within_n71 : GoodIn wsX10_endTerm (wsX11_within) := ggX10_endTerm_X11_within
set_option maxRecDepth 20000 in
theorem ggX10_endTerm_X3_fold : GoodIn wsX10_endTerm wsX3_fold := goodIn_r _ [11, 12] (by decide +kernel) (by decide +kernel)
set_option maxRecDepth 20000 in
theorem gX10_endTerm_X3_fold : GoodIn wsX10_endTerm (va_wsS RX10 75 yX3_fold wsX3_fold) := goodIn_app (goodIn_of _ (by decide +kernel)) ggX10_endTerm_X3_fold
theorem dX10_endTerm_0 : decode cX10_endTerm 0 = .ok (.aload_n 0, 1) := by decide +kernel
theorem dX10_endTerm_1 : decode cX10_endTerm 1 = .ok (.getfield 37, 3) := by decide +kernel
theorem dX10_endTerm_4 : decode cX10_endTerm 4 = .ok (.iconst 0, 1) := by decide +kernel
theorem dX10_endTerm_5 : decode cX10_endTerm 5 = .ok (.iconst 4, 1) := by decide +kernel
theorem dX10_endTerm_6 : decode cX10_endTerm 6 = .ok (.invokestatic 71, 3) := by decide +kernel
theorem dX10_endTerm_9 : decode cX10_endTerm 9 = .ok (.ifCond .eq 37, 3) := by decide +kernel
theorem dX10_endTerm_12 : decode cX10_endTerm 12 = .ok (.aload_n 0, 1) := by decide +kernel
theorem dX10_endTerm_13 : decode cX10_endTerm 13 = .ok (.getfield 15, 3) := by decide +kernel
theorem dX10_endTerm_16 : decode cX10_endTerm 16 = .ok (.aload_n 0, 1) := by decide +kernel
theorem dX10_endTerm_17 : decode cX10_endTerm 17 = .ok (.getfield 37, 3) := by decide +kernel
theorem dX10_endTerm_20 : decode cX10_endTerm 20 = .ok (.aload_n 0, 1) := by decide +kernel
theorem dX10_endTerm_21 : decode cX10_endTerm 21 = .ok (.getfield 15, 3) := by decide +kernel
theorem dX10_endTerm_24 : decode cX10_endTerm 24 = .ok (.aload_n 0, 1) := by decide +kernel
theorem dX10_endTerm_25 : decode cX10_endTerm 25 = .ok (.getfield 37, 3) := by decide +kernel
theorem dX10_endTerm_28 : decode cX10_endTerm 28 = .ok (.iaload, 1) := by decide +kernel
theorem dX10_endTerm_29 : decode cX10_endTerm 29 = .ok (.i2l, 1) := by decide +kernel
theorem dX10_endTerm_30 : decode cX10_endTerm 30 = .ok (.aload_n 0, 1) := by decide +kernel
theorem dX10_endTerm_31 : decode cX10_endTerm 31 = .ok (.getfield 28, 3) := by decide +kernel
theorem dX10_endTerm_34 : decode cX10_endTerm 34 = .ok (.i2l, 1) := by decide +kernel
theorem dX10_endTerm_35 : decode cX10_endTerm 35 = .ok (.aload_n 0, 1) := by decide +kernel
theorem dX10_endTerm_36 : decode cX10_endTerm 36 = .ok (.getfield 31, 3) := by decide +kernel
theorem dX10_endTerm_39 : decode cX10_endTerm 39 = .ok (.i2l, 1) := by decide +kernel
theorem dX10_endTerm_40 : decode cX10_endTerm 40 = .ok (.lmul, 1) := by decide +kernel
theorem dX10_endTerm_41 : decode cX10_endTerm 41 = .ok (.ladd, 1) := by decide +kernel
theorem dX10_endTerm_42 : decode cX10_endTerm 42 = .ok (.invokestatic 75, 3) := by decide +kernel
theorem dX10_endTerm_45 : decode cX10_endTerm 45 = .ok (.iastore, 1) := by decide +kernel
theorem dX10_endTerm_46 : decode cX10_endTerm 46 = .ok (.return_, 1) := by decide +kernel
set_option maxRecDepth 20000 in
theorem ggX10_write_X10_writeTerm : GoodIn wsX10_write wsX10_writeTerm := goodIn_r _ [6, 1, 7, 8, 9, 5, 10, 11, 12, 13, 14, 15, 16, 17, 18, 19, 20, 21, 22, 23, 24] (by decide +kernel) (by decide +kernel)
set_option maxRecDepth 20000 in
theorem gX10_write_X10_writeTerm : GoodIn wsX10_write (wsV RX10 81 RX10 yX10_writeTerm wsX10_writeTerm) := goodIn_app (goodIn_of _ (by decide +kernel)) ggX10_write_X10_writeTerm
set_option maxRecDepth 20000 in
theorem ggX10_write_X10_writeByte : GoodIn wsX10_write wsX10_writeByte := goodIn_r _ [10, 1, 11, 16, 17, 18, 19, 20, 21, 22, 23, 24] (by decide +kernel) (by decide +kernel)
set_option maxRecDepth 20000 in
theorem gX10_write_X10_writeByte : GoodIn wsX10_write (wsV RX10 85 RX10 yX10_writeByte wsX10_writeByte) := goodIn_app (goodIn_of _ (by decide +kernel)) ggX10_write_X10_writeByte
theorem dX10_write_0 : decode cX10_write 0 = .ok (.aload_n 0, 1) := by decide +kernel
theorem dX10_write_1 : decode cX10_write 1 = .ok (.iconst 0, 1) := by decide +kernel
theorem dX10_write_2 : decode cX10_write 2 = .ok (.putfield 25, 3) := by decide +kernel
theorem dX10_write_5 : decode cX10_write 5 = .ok (.iconst 4, 1) := by decide +kernel
theorem dX10_write_6 : decode cX10_write 6 = .ok (.istore_n 2, 1) := by decide +kernel
theorem dX10_write_7 : decode cX10_write 7 = .ok (.iload_n 2, 1) := by decide +kernel
theorem dX10_write_8 : decode cX10_write 8 = .ok (.ifCond .lt 23, 3) := by decide +kernel
theorem dX10_write_11 : decode cX10_write 11 = .ok (.aload_n 1, 1) := by decide +kernel
theorem dX10_write_12 : decode cX10_write 12 = .ok (.iload_n 2, 1) := by decide +kernel
theorem dX10_write_13 : decode cX10_write 13 = .ok (.iaload, 1) := by decide +kernel
theorem dX10_write_14 : decode cX10_write 14 = .ok (.ifCond .eq 11, 3) := by decide +kernel
theorem dX10_write_17 : decode cX10_write 17 = .ok (.aload_n 0, 1) := by decide +kernel
theorem dX10_write_18 : decode cX10_write 18 = .ok (.aload_n 1, 1) := by decide +kernel
theorem dX10_write_19 : decode cX10_write 19 = .ok (.iload_n 2, 1) := by decide +kernel
theorem dX10_write_20 : decode cX10_write 20 = .ok (.iaload, 1) := by decide +kernel
theorem dX10_write_21 : decode cX10_write 21 = .ok (.iload_n 2, 1) := by decide +kernel
theorem dX10_write_22 : decode cX10_write 22 = .ok (.invokevirtual 81, 3) := by decide +kernel
theorem dX10_write_25 : decode cX10_write 25 = .ok (.iinc 2 (-1), 3) := by decide +kernel
theorem dX10_write_28 : decode cX10_write 28 = .ok (.goto (-21), 3) := by decide +kernel
theorem dX10_write_31 : decode cX10_write 31 = .ok (.aload_n 0, 1) := by decide +kernel
theorem dX10_write_32 : decode cX10_write 32 = .ok (.getfield 25, 3) := by decide +kernel
theorem dX10_write_35 : decode cX10_write 35 = .ok (.ifCond .ne 9, 3) := by decide +kernel
theorem dX10_write_38 : decode cX10_write 38 = .ok (.aload_n 0, 1) := by decide +kernel
theorem dX10_write_39 : decode cX10_write 39 = .ok (.bipush 48, 2) := by decide +kernel
theorem dX10_write_41 : decode cX10_write 41 = .ok (.invokevirtual 85, 3) := by decide +kernel
theorem dX10_write_44 : decode cX10_write 44 = .ok (.aload_n 0, 1) := by decide +kernel
theorem dX10_write_45 : decode cX10_write 45 = .ok (.getfield 25, 3) := by decide +kernel
theorem dX10_write_48 : decode cX10_write 48 = .ok (.ireturn, 1) := by decide +kernel
set_option maxRecDepth 20000 in
theorem ggX10_writeTerm_X10_writeByte : GoodIn wsX10_writeTerm wsX10_writeByte := goodIn_r _ [6, 1, 7, 12, 13, 14, 15, 16, 17, 18, 19, 20] (by decide +kernel) (by decide +kernel)
set_option maxRecDepth 20000 in
theorem gX10_writeTerm_X10_writeByte : GoodIn wsX10_writeTerm (wsV RX10 85 RX10 yX10_writeByte wsX10_writeByte) := goodIn_app (goodIn_of _ (by decide +kernel)) ggX10_writeTerm_X10_writeByte
set_option maxRecDepth 20000 in
theorem ggX10_writeTerm_X10_writeFigures : GoodIn wsX10_writeTerm wsX10_writeFigures := goodIn_r _ [11, 2, 3, 4, 5, 6, 1, 7, 12, 13, 14, 15, 16, 17, 18, 19, 20] (by decide +kernel) (by decide +kernel)
set_option maxRecDepth 20000 in
theorem gX10_writeTerm_X10_writeFigures : GoodIn wsX10_writeTerm (wsV RX10 88 RX10 yX10_writeFigures wsX10_writeFigures) := goodIn_app (goodIn_of _ (by decide +kernel)) ggX10_writeTerm_X10_writeFigures
theorem dX10_writeTerm_0 : decode cX10_writeTerm 0 = .ok (.iload_n 1, 1) := by decide +kernel
theorem dX10_writeTerm_1 : decode cX10_writeTerm 1 = .ok (.ifCond .ge 12, 3) := by decide +kernel
theorem dX10_writeTerm_4 : decode cX10_writeTerm 4 = .ok (.aload_n 0, 1) := by decide +kernel
theorem dX10_writeTerm_5 : decode cX10_writeTerm 5 = .ok (.bipush 45, 2) := by decide +kernel
theorem dX10_writeTerm_7 : decode cX10_writeTerm 7 = .ok (.invokevirtual 85, 3) := by decide +kernel
theorem dX10_writeTerm_10 : decode cX10_writeTerm 10 = .ok (.goto 16, 3) := by decide +kernel
theorem dX10_writeTerm_13 : decode cX10_writeTerm 13 = .ok (.aload_n 0, 1) := by decide +kernel
theorem dX10_writeTerm_14 : decode cX10_writeTerm 14 = .ok (.getfield 25, 3) := by decide +kernel
theorem dX10_writeTerm_17 : decode cX10_writeTerm 17 = .ok (.ifCond .le 9, 3) := by decide +kernel
theorem dX10_writeTerm_20 : decode cX10_writeTerm 20 = .ok (.aload_n 0, 1) := by decide +kernel
theorem dX10_writeTerm_21 : decode cX10_writeTerm 21 = .ok (.bipush 43, 2) := by decide +kernel
theorem dX10_writeTerm_23 : decode cX10_writeTerm 23 = .ok (.invokevirtual 85, 3) := by decide +kernel
theorem dX10_writeTerm_26 : decode cX10_writeTerm 26 = .ok (.iload_n 1, 1) := by decide +kernel
theorem dX10_writeTerm_27 : decode cX10_writeTerm 27 = .ok (.ifCond .ge 8, 3) := by decide +kernel
theorem dX10_writeTerm_30 : decode cX10_writeTerm 30 = .ok (.iload_n 1, 1) := by decide +kernel
theorem dX10_writeTerm_31 : decode cX10_writeTerm 31 = .ok (.ineg, 1) := by decide +kernel
theorem dX10_writeTerm_32 : decode cX10_writeTerm 32 = .ok (.goto 4, 3) := by decide +kernel
theorem dX10_writeTerm_35 : decode cX10_writeTerm 35 = .ok (.iload_n 1, 1) := by decide +kernel
theorem dX10_writeTerm_36 : decode cX10_writeTerm 36 = .ok (.istore_n 3, 1) := by decide +kernel
theorem dX10_writeTerm_37 : decode cX10_writeTerm 37 = .ok (.iload_n 3, 1) := by decide +kernel
theorem dX10_writeTerm_38 : decode cX10_writeTerm 38 = .ok (.iconst 1, 1) := by decide +kernel
theorem dX10_writeTerm_39 : decode cX10_writeTerm 39 = .ok (.if_icmp .ne 7, 3) := by decide +kernel
theorem dX10_writeTerm_42 : decode cX10_writeTerm 42 = .ok (.iload_n 2, 1) := by decide +kernel
theorem dX10_writeTerm_43 : decode cX10_writeTerm 43 = .ok (.ifCond .ne 8, 3) := by decide +kernel
theorem dX10_writeTerm_46 : decode cX10_writeTerm 46 = .ok (.aload_n 0, 1) := by decide +kernel
theorem dX10_writeTerm_47 : decode cX10_writeTerm 47 = .ok (.iload_n 3, 1) := by decide +kernel
theorem dX10_writeTerm_48 : decode cX10_writeTerm 48 = .ok (.invokevirtual 88, 3) := by decide +kernel
theorem dX10_writeTerm_51 : decode cX10_writeTerm 51 = .ok (.iload_n 2, 1) := by decide +kernel
theorem dX10_writeTerm_52 : decode cX10_writeTerm 52 = .ok (.ifCond .le 9, 3) := by decide +kernel
theorem dX10_writeTerm_55 : decode cX10_writeTerm 55 = .ok (.aload_n 0, 1) := by decide +kernel
theorem dX10_writeTerm_56 : decode cX10_writeTerm 56 = .ok (.bipush 120, 2) := by decide +kernel
theorem dX10_writeTerm_58 : decode cX10_writeTerm 58 = .ok (.invokevirtual 85, 3) := by decide +kernel
theorem dX10_writeTerm_61 : decode cX10_writeTerm 61 = .ok (.iload_n 2, 1) := by decide +kernel
theorem dX10_writeTerm_62 : decode cX10_writeTerm 62 = .ok (.iconst 1, 1) := by decide +kernel
theorem dX10_writeTerm_63 : decode cX10_writeTerm 63 = .ok (.if_icmp .le 17, 3) := by decide +kernel
theorem dX10_writeTerm_66 : decode cX10_writeTerm 66 = .ok (.aload_n 0, 1) := by decide +kernel
theorem dX10_writeTerm_67 : decode cX10_writeTerm 67 = .ok (.bipush 94, 2) := by decide +kernel
theorem dX10_writeTerm_69 : decode cX10_writeTerm 69 = .ok (.invokevirtual 85, 3) := by decide +kernel
theorem dX10_writeTerm_72 : decode cX10_writeTerm 72 = .ok (.aload_n 0, 1) := by decide +kernel
theorem dX10_writeTerm_73 : decode cX10_writeTerm 73 = .ok (.bipush 48, 2) := by decide +kernel
theorem dX10_writeTerm_75 : decode cX10_writeTerm 75 = .ok (.iload_n 2, 1) := by decide +kernel
theorem dX10_writeTerm_76 : decode cX10_writeTerm 76 = .ok (.iadd, 1) := by decide +kernel
theorem dX10_writeTerm_77 : decode cX10_writeTerm 77 = .ok (.invokevirtual 85, 3) := by decide +kernel
theorem dX10_writeTerm_80 : decode cX10_writeTerm 80 = .ok (.return_, 1) := by decide +kernel
set_option maxRecDepth 20000 in
theorem ggX10_writeFigures_X10_writeByte : GoodIn wsX10_writeFigures wsX10_writeByte := goodIn_r _ [5, 6, 7, 8, 9, 10, 11, 12, 13, 14, 15, 16] (by decide +kernel) (by decide +kernel)
set_option maxRecDepth 20000 in
theorem gX10_writeFigures_X10_writeByte : GoodIn wsX10_writeFigures (wsV RX10 85 RX10 yX10_writeByte wsX10_writeByte) := goodIn_app (goodIn_of _ (by decide +kernel)) ggX10_writeFigures_X10_writeByte
theorem dX10_writeFigures_0 : decode cX10_writeFigures 0 = .ok (.sipush 1000, 3) := by decide +kernel
theorem dX10_writeFigures_3 : decode cX10_writeFigures 3 = .ok (.istore_n 2, 1) := by decide +kernel
theorem dX10_writeFigures_4 : decode cX10_writeFigures 4 = .ok (.iload_n 2, 1) := by decide +kernel
theorem dX10_writeFigures_5 : decode cX10_writeFigures 5 = .ok (.ifCond .le 29, 3) := by decide +kernel
theorem dX10_writeFigures_8 : decode cX10_writeFigures 8 = .ok (.iload_n 1, 1) := by decide +kernel
theorem dX10_writeFigures_9 : decode cX10_writeFigures 9 = .ok (.iload_n 2, 1) := by decide +kernel
theorem dX10_writeFigures_10 : decode cX10_writeFigures 10 = .ok (.if_icmp .lt 16, 3) := by decide +kernel
theorem dX10_writeFigures_13 : decode cX10_writeFigures 13 = .ok (.aload_n 0, 1) := by decide +kernel
theorem dX10_writeFigures_14 : decode cX10_writeFigures 14 = .ok (.bipush 48, 2) := by decide +kernel
theorem dX10_writeFigures_16 : decode cX10_writeFigures 16 = .ok (.iload_n 1, 1) := by decide +kernel
theorem dX10_writeFigures_17 : decode cX10_writeFigures 17 = .ok (.iload_n 2, 1) := by decide +kernel
theorem dX10_writeFigures_18 : decode cX10_writeFigures 18 = .ok (.idiv, 1) := by decide +kernel
theorem dX10_writeFigures_19 : decode cX10_writeFigures 19 = .ok (.bipush 10, 2) := by decide +kernel
theorem dX10_writeFigures_21 : decode cX10_writeFigures 21 = .ok (.irem, 1) := by decide +kernel
theorem dX10_writeFigures_22 : decode cX10_writeFigures 22 = .ok (.iadd, 1) := by decide +kernel
theorem dX10_writeFigures_23 : decode cX10_writeFigures 23 = .ok (.invokevirtual 85, 3) := by decide +kernel
theorem dX10_writeFigures_26 : decode cX10_writeFigures 26 = .ok (.iload_n 2, 1) := by decide +kernel
theorem dX10_writeFigures_27 : decode cX10_writeFigures 27 = .ok (.bipush 10, 2) := by decide +kernel
theorem dX10_writeFigures_29 : decode cX10_writeFigures 29 = .ok (.idiv, 1) := by decide +kernel
theorem dX10_writeFigures_30 : decode cX10_writeFigures 30 = .ok (.istore_n 2, 1) := by decide +kernel
theorem dX10_writeFigures_31 : decode cX10_writeFigures 31 = .ok (.goto (-27), 3) := by decide +kernel
theorem dX10_writeFigures_34 : decode cX10_writeFigures 34 = .ok (.return_, 1) := by decide +kernel
theorem dX10_writeByte_0 : decode cX10_writeByte 0 = .ok (.aload_n 0, 1) := by decide +kernel
theorem dX10_writeByte_1 : decode cX10_writeByte 1 = .ok (.getfield 25, 3) := by decide +kernel
theorem dX10_writeByte_4 : decode cX10_writeByte 4 = .ok (.bipush 40, 2) := by decide +kernel
theorem dX10_writeByte_6 : decode cX10_writeByte 6 = .ok (.if_icmp .ge 23, 3) := by decide +kernel
theorem dX10_writeByte_9 : decode cX10_writeByte 9 = .ok (.aload_n 0, 1) := by decide +kernel
theorem dX10_writeByte_10 : decode cX10_writeByte 10 = .ok (.getfield 19, 3) := by decide +kernel
theorem dX10_writeByte_13 : decode cX10_writeByte 13 = .ok (.aload_n 0, 1) := by decide +kernel
theorem dX10_writeByte_14 : decode cX10_writeByte 14 = .ok (.getfield 25, 3) := by decide +kernel
theorem dX10_writeByte_17 : decode cX10_writeByte 17 = .ok (.iload_n 1, 1) := by decide +kernel
theorem dX10_writeByte_18 : decode cX10_writeByte 18 = .ok (.iastore, 1) := by decide +kernel
theorem dX10_writeByte_19 : decode cX10_writeByte 19 = .ok (.aload_n 0, 1) := by decide +kernel
theorem dX10_writeByte_20 : decode cX10_writeByte 20 = .ok (.dup, 1) := by decide +kernel
theorem dX10_writeByte_21 : decode cX10_writeByte 21 = .ok (.getfield 25, 3) := by decide +kernel
theorem dX10_writeByte_24 : decode cX10_writeByte 24 = .ok (.iconst 1, 1) := by decide +kernel
theorem dX10_writeByte_25 : decode cX10_writeByte 25 = .ok (.iadd, 1) := by decide +kernel
theorem dX10_writeByte_26 : decode cX10_writeByte 26 = .ok (.putfield 25, 3) := by decide +kernel
theorem dX10_writeByte_29 : decode cX10_writeByte 29 = .ok (.return_, 1) := by decide +kernel
set_option maxRecDepth 20000 in
theorem ggX11_init_X9_init : GoodIn wsX11_init wsX9_init := goodIn_r _ [40, 41, 2, 3, 35, 42, 43, 44, 45, 46, 47, 48, 49, 50, 51, 52, 53, 54, 55, 56, 57, 58, 59, 60, 61, 62, 63, 64, 65, 66, 67, 68, 69, 70, 71, 72, 73, 74, 75, 141, 142, 143, 144, 194, 195, 196, 197, 198, 199, 200, 201, 202, 203, 204] (by decide +kernel) (by decide +kernel)
set_option maxRecDepth 20000 in
theorem gX11_init_X9_init : GoodIn wsX11_init (wsX9_init) := ggX11_init_X9_init
set_option maxRecDepth 20000 in
theorem ggX11_init_X2_init : GoodIn wsX11_init wsX2_init := goodIn_r _ [77, 78, 2, 3, 35, 79, 80, 81, 82, 83, 84, 157, 158, 159, 160, 161, 162] (by decide +kernel) (by decide +kernel)
set_option maxRecDepth 20000 in
theorem gX11_init_X2_init_n27 : GoodIn wsX11_init (wsX2_init) := ggX11_init_X2_init
set_option maxRecDepth 20000 in
theorem ggX11_init_X8_init : GoodIn wsX11_init wsX8_init := goodIn_r _ [86, 87, 2, 3, 35, 88, 89, 90, 91, 92, 93, 94, 95, 96, 97, 163, 164, 165, 166, 167, 168, 169, 170, 171, 172] (by decide +kernel) (by decide +kernel)
set_option maxRecDepth 20000 in
theorem gX11_init_X8_init_n34 : GoodIn wsX11_init (wsX8_init) := ggX11_init_X8_init
set_option maxRecDepth 20000 in
theorem ggX11_init_X7_init : GoodIn wsX11_init wsX7_init := goodIn_r _ [100, 101, 2, 3, 102, 103, 104, 105, 106, 107, 173, 174, 175, 176, 177, 178] (by decide +kernel) (by decide +kernel)
set_option maxRecDepth 20000 in
theorem gX11_init_X7_init : GoodIn wsX11_init (wsX7_init) := ggX11_init_X7_init
set_option maxRecDepth 20000 in
theorem ggX11_init_X6_init : GoodIn wsX11_init wsX6_init := goodIn_r _ [110, 111, 2, 3, 35, 112, 113, 114, 115, 116, 117, 118, 119, 120, 179, 180, 181, 182] (by decide +kernel) (by decide +kernel)
set_option maxRecDepth 20000 in
theorem gX11_init_X6_init : GoodIn wsX11_init (wsX6_init) := ggX11_init_X6_init
set_option maxRecDepth 20000 in
theorem ggX11_init_X10_init : GoodIn wsX11_init wsX10_init := goodIn_r _ [122, 123, 2, 3, 124, 35, 125, 126, 127, 128, 129, 130, 131, 132, 183, 184, 185, 186, 187, 188, 189, 190, 191] (by decide +kernel) (by decide +kernel)
set_option maxRecDepth 20000 in
theorem gX11_init_X10_init_n60 : GoodIn wsX11_init (wsX10_init) := ggX11_init_X10_init
set_option maxRecDepth 20000 in
theorem ggX11_init_X1_init : GoodIn wsX11_init wsX1_init := goodIn_r _ [135, 136, 2, 3, 35, 137, 138, 139, 140, 118, 119, 120, 192, 193] (by decide +kernel) (by decide +kernel)
set_option maxRecDepth 20000 in
theorem gX11_init_X1_init : GoodIn wsX11_init (wsX1_init) := ggX11_init_X1_init
theorem dX11_init_0 : decode cX11_init 0 = .ok (.aload_n 0, 1) := by decide +kernel
theorem dX11_init_1 : decode cX11_init 1 = .ok (.invokespecial 3, 3) := by decide +kernel
theorem dX11_init_4 : decode cX11_init 4 = .ok (.aload_n 0, 1) := by decide +kernel
theorem dX11_init_5 : decode cX11_init 5 = .ok (.new 9, 3) := by decide +kernel
theorem dX11_init_8 : decode cX11_init 8 = .ok (.dup, 1) := by decide +kernel
theorem dX11_init_9 : decode cX11_init 9 = .ok (.invokespecial 11, 3) := by decide +kernel
theorem dX11_init_12 : decode cX11_init 12 = .ok (.putfield 12, 3) := by decide +kernel
theorem dX11_init_15 : decode cX11_init 15 = .ok (.aload_n 0, 1) := by decide +kernel
theorem dX11_init_16 : decode cX11_init 16 = .ok (.new 9, 3) := by decide +kernel
theorem dX11_init_19 : decode cX11_init 19 = .ok (.dup, 1) := by decide +kernel
theorem dX11_init_20 : decode cX11_init 20 = .ok (.invokespecial 11, 3) := by decide +kernel
theorem dX11_init_23 : decode cX11_init 23 = .ok (.putfield 18, 3) := by decide +kernel
theorem dX11_init_26 : decode cX11_init 26 = .ok (.aload_n 0, 1) := by decide +kernel
theorem dX11_init_27 : decode cX11_init 27 = .ok (.iconst 0, 1) := by decide +kernel
theorem dX11_init_28 : decode cX11_init 28 = .ok (.putfield 21, 3) := by decide +kernel
theorem dX11_init_31 : decode cX11_init 31 = .ok (.aload_n 0, 1) := by decide +kernel
theorem dX11_init_32 : decode cX11_init 32 = .ok (.new 25, 3) := by decide +kernel
theorem dX11_init_35 : decode cX11_init 35 = .ok (.dup, 1) := by decide +kernel
theorem dX11_init_36 : decode cX11_init 36 = .ok (.invokespecial 27, 3) := by decide +kernel
theorem dX11_init_39 : decode cX11_init 39 = .ok (.putfield 28, 3) := by decide +kernel
theorem dX11_init_42 : decode cX11_init 42 = .ok (.aload_n 0, 1) := by decide +kernel
theorem dX11_init_43 : decode cX11_init 43 = .ok (.new 32, 3) := by decide +kernel
theorem dX11_init_46 : decode cX11_init 46 = .ok (.dup, 1) := by decide +kernel
theorem dX11_init_47 : decode cX11_init 47 = .ok (.invokespecial 34, 3) := by decide +kernel
theorem dX11_init_50 : decode cX11_init 50 = .ok (.putfield 35, 3) := by decide +kernel
theorem dX11_init_53 : decode cX11_init 53 = .ok (.aload_n 0, 1) := by decide +kernel
theorem dX11_init_54 : decode cX11_init 54 = .ok (.new 39, 3) := by decide +kernel
theorem dX11_init_57 : decode cX11_init 57 = .ok (.dup, 1) := by decide +kernel
theorem dX11_init_58 : decode cX11_init 58 = .ok (.bipush 23, 2) := by decide +kernel
theorem dX11_init_60 : decode cX11_init 60 = .ok (.bipush 8, 2) := by decide +kernel
theorem dX11_init_62 : decode cX11_init 62 = .ok (.invokespecial 41, 3) := by decide +kernel
theorem dX11_init_65 : decode cX11_init 65 = .ok (.putfield 44, 3) := by decide +kernel
theorem dX11_init_68 : decode cX11_init 68 = .ok (.aload_n 0, 1) := by decide +kernel
theorem dX11_init_69 : decode cX11_init 69 = .ok (.new 39, 3) := by decide +kernel
theorem dX11_init_72 : decode cX11_init 72 = .ok (.dup, 1) := by decide +kernel
theorem dX11_init_73 : decode cX11_init 73 = .ok (.bipush 52, 2) := by decide +kernel
theorem dX11_init_75 : decode cX11_init 75 = .ok (.bipush 11, 2) := by decide +kernel
theorem dX11_init_77 : decode cX11_init 77 = .ok (.invokespecial 41, 3) := by decide +kernel
theorem dX11_init_80 : decode cX11_init 80 = .ok (.putfield 48, 3) := by decide +kernel
theorem dX11_init_83 : decode cX11_init 83 = .ok (.aload_n 0, 1) := by decide +kernel
theorem dX11_init_84 : decode cX11_init 84 = .ok (.new 51, 3) := by decide +kernel
theorem dX11_init_87 : decode cX11_init 87 = .ok (.dup, 1) := by decide +kernel
theorem dX11_init_88 : decode cX11_init 88 = .ok (.invokespecial 53, 3) := by decide +kernel
theorem dX11_init_91 : decode cX11_init 91 = .ok (.putfield 54, 3) := by decide +kernel
theorem dX11_init_94 : decode cX11_init 94 = .ok (.aload_n 0, 1) := by decide +kernel
theorem dX11_init_95 : decode cX11_init 95 = .ok (.new 58, 3) := by decide +kernel
theorem dX11_init_98 : decode cX11_init 98 = .ok (.dup, 1) := by decide +kernel
theorem dX11_init_99 : decode cX11_init 99 = .ok (.invokespecial 60, 3) := by decide +kernel
theorem dX11_init_102 : decode cX11_init 102 = .ok (.putfield 61, 3) := by decide +kernel
theorem dX11_init_105 : decode cX11_init 105 = .ok (.aload_n 0, 1) := by decide +kernel
theorem dX11_init_106 : decode cX11_init 106 = .ok (.new 65, 3) := by decide +kernel
theorem dX11_init_109 : decode cX11_init 109 = .ok (.dup, 1) := by decide +kernel
theorem dX11_init_110 : decode cX11_init 110 = .ok (.invokespecial 67, 3) := by decide +kernel
theorem dX11_init_113 : decode cX11_init 113 = .ok (.putfield 68, 3) := by decide +kernel
theorem dX11_init_116 : decode cX11_init 116 = .ok (.aload_n 0, 1) := by decide +kernel
theorem dX11_init_117 : decode cX11_init 117 = .ok (.iconst 5, 1) := by decide +kernel
theorem dX11_init_118 : decode cX11_init 118 = .ok (.newarray .int, 2) := by decide +kernel
theorem dX11_init_120 : decode cX11_init 120 = .ok (.putfield 72, 3) := by decide +kernel
theorem dX11_init_123 : decode cX11_init 123 = .ok (.aload_n 0, 1) := by decide +kernel
theorem dX11_init_124 : decode cX11_init 124 = .ok (.iconst 5, 1) := by decide +kernel
theorem dX11_init_125 : decode cX11_init 125 = .ok (.newarray .int, 2) := by decide +kernel
theorem dX11_init_127 : decode cX11_init 127 = .ok (.putfield 76, 3) := by decide +kernel
theorem dX11_init_130 : decode cX11_init 130 = .ok (.return_, 1) := by decide +kernel
set_option maxRecDepth 20000 in
theorem ggX11_set_X11_within : GoodIn wsX11_set wsX11_within := goodIn_r _ [7] (by decide +kernel) (by decide +kernel)
set_option maxRecDepth 20000 in
theorem gX11_set_X11_within : GoodIn wsX11_set (va_wsS RX11 79 yX11_within wsX11_within) := goodIn_app (goodIn_of _ (by decide +kernel)) ggX11_set_X11_within
theorem dX11_set_0 : decode cX11_set 0 = .ok (.iload_n 1, 1) := by decide +kernel
theorem dX11_set_1 : decode cX11_set 1 = .ok (.iconst 0, 1) := by decide +kernel
theorem dX11_set_2 : decode cX11_set 2 = .ok (.iconst 4, 1) := by decide +kernel
theorem dX11_set_3 : decode cX11_set 3 = .ok (.invokestatic 79, 3) := by decide +kernel
theorem dX11_set_6 : decode cX11_set 6 = .ok (.ifCond .ne 5, 3) := by decide +kernel
theorem dX11_set_9 : decode cX11_set 9 = .ok (.iconst (-1), 1) := by decide +kernel
theorem dX11_set_10 : decode cX11_set 10 = .ok (.ireturn, 1) := by decide +kernel
theorem dX11_set_11 : decode cX11_set 11 = .ok (.iload_n 2, 1) := by decide +kernel
theorem dX11_set_12 : decode cX11_set 12 = .ok (.sipush (-5003), 3) := by decide +kernel
theorem dX11_set_15 : decode cX11_set 15 = .ok (.sipush 5003, 3) := by decide +kernel
theorem dX11_set_18 : decode cX11_set 18 = .ok (.invokestatic 79, 3) := by decide +kernel
theorem dX11_set_21 : decode cX11_set 21 = .ok (.ifCond .ne 6, 3) := by decide +kernel
theorem dX11_set_24 : decode cX11_set 24 = .ok (.bipush (-2), 2) := by decide +kernel
theorem dX11_set_26 : decode cX11_set 26 = .ok (.ireturn, 1) := by decide +kernel
theorem dX11_set_27 : decode cX11_set 27 = .ok (.aload_n 0, 1) := by decide +kernel
theorem dX11_set_28 : decode cX11_set 28 = .ok (.getfield 12, 3) := by decide +kernel
theorem dX11_set_31 : decode cX11_set 31 = .ok (.getfield 83, 3) := by decide +kernel
theorem dX11_set_34 : decode cX11_set 34 = .ok (.iload_n 1, 1) := by decide +kernel
theorem dX11_set_35 : decode cX11_set 35 = .ok (.iaload, 1) := by decide +kernel
theorem dX11_set_36 : decode cX11_set 36 = .ok (.istore_n 3, 1) := by decide +kernel
theorem dX11_set_37 : decode cX11_set 37 = .ok (.aload_n 0, 1) := by decide +kernel
theorem dX11_set_38 : decode cX11_set 38 = .ok (.getfield 12, 3) := by decide +kernel
theorem dX11_set_41 : decode cX11_set 41 = .ok (.getfield 83, 3) := by decide +kernel
theorem dX11_set_44 : decode cX11_set 44 = .ok (.iload_n 1, 1) := by decide +kernel
theorem dX11_set_45 : decode cX11_set 45 = .ok (.iload_n 2, 1) := by decide +kernel
theorem dX11_set_46 : decode cX11_set 46 = .ok (.iastore, 1) := by decide +kernel
theorem dX11_set_47 : decode cX11_set 47 = .ok (.ldc 86, 2) := by decide +kernel
theorem dX11_set_49 : decode cX11_set 49 = .ok (.iload_n 3, 1) := by decide +kernel
theorem dX11_set_50 : decode cX11_set 50 = .ok (.iadd, 1) := by decide +kernel
theorem dX11_set_51 : decode cX11_set 51 = .ok (.ireturn, 1) := by decide +kernel
set_option maxRecDepth 20000 in
theorem ggX11_of_X11_within : GoodIn wsX11_of wsX11_within := goodIn_r _ [7] (by decide +kernel) (by decide +kernel)
set_option maxRecDepth 20000 in
theorem gX11_of_X11_within : GoodIn wsX11_of (va_wsS RX11 79 yX11_within wsX11_within) := goodIn_app (goodIn_of _ (by decide +kernel)) ggX11_of_X11_within
theorem dX11_of_0 : decode cX11_of 0 = .ok (.iload_n 1, 1) := by decide +kernel
theorem dX11_of_1 : decode cX11_of 1 = .ok (.iconst 0, 1) := by decide +kernel
theorem dX11_of_2 : decode cX11_of 2 = .ok (.iconst 4, 1) := by decide +kernel
theorem dX11_of_3 : decode cX11_of 3 = .ok (.invokestatic 79, 3) := by decide +kernel
theorem dX11_of_6 : decode cX11_of 6 = .ok (.ifCond .eq 18, 3) := by decide +kernel
theorem dX11_of_9 : decode cX11_of 9 = .ok (.ldc 86, 2) := by decide +kernel
theorem dX11_of_11 : decode cX11_of 11 = .ok (.aload_n 0, 1) := by decide +kernel
theorem dX11_of_12 : decode cX11_of 12 = .ok (.getfield 12, 3) := by decide +kernel
theorem dX11_of_15 : decode cX11_of 15 = .ok (.getfield 83, 3) := by decide +kernel
theorem dX11_of_18 : decode cX11_of 18 = .ok (.iload_n 1, 1) := by decide +kernel
theorem dX11_of_19 : decode cX11_of 19 = .ok (.iaload, 1) := by decide +kernel
theorem dX11_of_20 : decode cX11_of 20 = .ok (.iadd, 1) := by decide +kernel
theorem dX11_of_21 : decode cX11_of 21 = .ok (.goto 4, 3) := by decide +kernel
theorem dX11_of_24 : decode cX11_of 24 = .ok (.iconst (-1), 1) := by decide +kernel
theorem dX11_of_25 : decode cX11_of 25 = .ok (.ireturn, 1) := by decide +kernel
set_option maxRecDepth 20000 in
theorem ggX11_degree_X3_highest : GoodIn wsX11_degree wsX3_highest := goodIn_r _ [6] (by decide +kernel) (by decide +kernel)
set_option maxRecDepth 20000 in
theorem gX11_degree_X3_highest : GoodIn wsX11_degree (va_wsS RX11 87 yX3_highest wsX3_highest) := goodIn_app (goodIn_of _ (by decide +kernel)) ggX11_degree_X3_highest
theorem dX11_degree_0 : decode cX11_degree 0 = .ok (.aload_n 0, 1) := by decide +kernel
theorem dX11_degree_1 : decode cX11_degree 1 = .ok (.getfield 12, 3) := by decide +kernel
theorem dX11_degree_4 : decode cX11_degree 4 = .ok (.getfield 83, 3) := by decide +kernel
theorem dX11_degree_7 : decode cX11_degree 7 = .ok (.invokestatic 87, 3) := by decide +kernel
theorem dX11_degree_10 : decode cX11_degree 10 = .ok (.ireturn, 1) := by decide +kernel
set_option maxRecDepth 20000 in
theorem ggX11_put_X4_names : GoodIn wsX11_put wsX4_names := goodIn_r _ [8, 9, 10, 11] (by decide +kernel) (by decide +kernel)
set_option maxRecDepth 20000 in
theorem gX11_put_X4_names : GoodIn wsX11_put (va_wsS RX11 93 yX4_names wsX4_names) := goodIn_app (goodIn_of _ (by decide +kernel)) ggX11_put_X4_names
set_option maxRecDepth 20000 in
theorem ggX11_put_X11_within : GoodIn wsX11_put wsX11_within := goodIn_r _ [11] (by decide +kernel) (by decide +kernel)
set_option maxRecDepth 20000 in
theorem gX11_put_X11_within : GoodIn wsX11_put (va_wsS RX11 79 yX11_within wsX11_within) := goodIn_app (goodIn_of _ (by decide +kernel)) ggX11_put_X11_within
set_option maxRecDepth 20000 in
theorem ggX11_put_X4_index : GoodIn wsX11_put wsX4_index := goodIn_r _ [15] (by decide +kernel) (by decide +kernel)
set_option maxRecDepth 20000 in
theorem gX11_put_X4_index : GoodIn wsX11_put (va_wsS RX11 98 yX4_index wsX4_index) := goodIn_app (goodIn_of _ (by decide +kernel)) ggX11_put_X4_index
theorem dX11_put_0 : decode cX11_put 0 = .ok (.iload_n 1, 1) := by decide +kernel
theorem dX11_put_1 : decode cX11_put 1 = .ok (.iload_n 2, 1) := by decide +kernel
theorem dX11_put_2 : decode cX11_put 2 = .ok (.iload_n 3, 1) := by decide +kernel
theorem dX11_put_3 : decode cX11_put 3 = .ok (.invokestatic 93, 3) := by decide +kernel
theorem dX11_put_6 : decode cX11_put 6 = .ok (.ifCond .ne 5, 3) := by decide +kernel
theorem dX11_put_9 : decode cX11_put 9 = .ok (.iconst (-1), 1) := by decide +kernel
theorem dX11_put_10 : decode cX11_put 10 = .ok (.ireturn, 1) := by decide +kernel
theorem dX11_put_11 : decode cX11_put 11 = .ok (.iload 4, 2) := by decide +kernel
theorem dX11_put_13 : decode cX11_put 13 = .ok (.sipush (-5003), 3) := by decide +kernel
theorem dX11_put_16 : decode cX11_put 16 = .ok (.sipush 5003, 3) := by decide +kernel
theorem dX11_put_19 : decode cX11_put 19 = .ok (.invokestatic 79, 3) := by decide +kernel
theorem dX11_put_22 : decode cX11_put 22 = .ok (.ifCond .ne 6, 3) := by decide +kernel
theorem dX11_put_25 : decode cX11_put 25 = .ok (.bipush (-2), 2) := by decide +kernel
theorem dX11_put_27 : decode cX11_put 27 = .ok (.ireturn, 1) := by decide +kernel
theorem dX11_put_28 : decode cX11_put 28 = .ok (.iload_n 1, 1) := by decide +kernel
theorem dX11_put_29 : decode cX11_put 29 = .ok (.iload_n 2, 1) := by decide +kernel
theorem dX11_put_30 : decode cX11_put 30 = .ok (.iload_n 3, 1) := by decide +kernel
theorem dX11_put_31 : decode cX11_put 31 = .ok (.invokestatic 98, 3) := by decide +kernel
theorem dX11_put_34 : decode cX11_put 34 = .ok (.istore 5, 2) := by decide +kernel
theorem dX11_put_36 : decode cX11_put 36 = .ok (.aload_n 0, 1) := by decide +kernel
theorem dX11_put_37 : decode cX11_put 37 = .ok (.getfield 12, 3) := by decide +kernel
theorem dX11_put_40 : decode cX11_put 40 = .ok (.getfield 102, 3) := by decide +kernel
theorem dX11_put_43 : decode cX11_put 43 = .ok (.getfield 106, 3) := by decide +kernel
theorem dX11_put_46 : decode cX11_put 46 = .ok (.iload 5, 2) := by decide +kernel
theorem dX11_put_48 : decode cX11_put 48 = .ok (.iaload, 1) := by decide +kernel
theorem dX11_put_49 : decode cX11_put 49 = .ok (.istore 6, 2) := by decide +kernel
theorem dX11_put_51 : decode cX11_put 51 = .ok (.aload_n 0, 1) := by decide +kernel
theorem dX11_put_52 : decode cX11_put 52 = .ok (.getfield 12, 3) := by decide +kernel
theorem dX11_put_55 : decode cX11_put 55 = .ok (.getfield 102, 3) := by decide +kernel
theorem dX11_put_58 : decode cX11_put 58 = .ok (.getfield 106, 3) := by decide +kernel
theorem dX11_put_61 : decode cX11_put 61 = .ok (.iload 5, 2) := by decide +kernel
theorem dX11_put_63 : decode cX11_put 63 = .ok (.iload 4, 2) := by decide +kernel
theorem dX11_put_65 : decode cX11_put 65 = .ok (.iastore, 1) := by decide +kernel
theorem dX11_put_66 : decode cX11_put 66 = .ok (.ldc 86, 2) := by decide +kernel
theorem dX11_put_68 : decode cX11_put 68 = .ok (.iload 6, 2) := by decide +kernel
theorem dX11_put_70 : decode cX11_put 70 = .ok (.iadd, 1) := by decide +kernel
theorem dX11_put_71 : decode cX11_put 71 = .ok (.ireturn, 1) := by decide +kernel
set_option maxRecDepth 20000 in
theorem ggX11_get_X4_names : GoodIn wsX11_get wsX4_names := goodIn_r _ [8, 9, 10, 11] (by decide +kernel) (by decide +kernel)
set_option maxRecDepth 20000 in
theorem gX11_get_X4_names : GoodIn wsX11_get (va_wsS RX11 93 yX4_names wsX4_names) := goodIn_app (goodIn_of _ (by decide +kernel)) ggX11_get_X4_names
set_option maxRecDepth 20000 in
theorem ggX11_get_X4_index : GoodIn wsX11_get wsX4_index := goodIn_r _ [14] (by decide +kernel) (by decide +kernel)
set_option maxRecDepth 20000 in
theorem gX11_get_X4_index : GoodIn wsX11_get (va_wsS RX11 98 yX4_index wsX4_index) := goodIn_app (goodIn_of _ (by decide +kernel)) ggX11_get_X4_index
theorem dX11_get_0 : decode cX11_get 0 = .ok (.iload_n 1, 1) := by decide +kernel
theorem dX11_get_1 : decode cX11_get 1 = .ok (.iload_n 2, 1) := by decide +kernel
theorem dX11_get_2 : decode cX11_get 2 = .ok (.iload_n 3, 1) := by decide +kernel
theorem dX11_get_3 : decode cX11_get 3 = .ok (.invokestatic 93, 3) := by decide +kernel
theorem dX11_get_6 : decode cX11_get 6 = .ok (.ifCond .eq 26, 3) := by decide +kernel
theorem dX11_get_9 : decode cX11_get 9 = .ok (.ldc 86, 2) := by decide +kernel
theorem dX11_get_11 : decode cX11_get 11 = .ok (.aload_n 0, 1) := by decide +kernel
theorem dX11_get_12 : decode cX11_get 12 = .ok (.getfield 12, 3) := by decide +kernel
theorem dX11_get_15 : decode cX11_get 15 = .ok (.getfield 102, 3) := by decide +kernel
theorem dX11_get_18 : decode cX11_get 18 = .ok (.getfield 106, 3) := by decide +kernel
theorem dX11_get_21 : decode cX11_get 21 = .ok (.iload_n 1, 1) := by decide +kernel
theorem dX11_get_22 : decode cX11_get 22 = .ok (.iload_n 2, 1) := by decide +kernel
theorem dX11_get_23 : decode cX11_get 23 = .ok (.iload_n 3, 1) := by decide +kernel
theorem dX11_get_24 : decode cX11_get 24 = .ok (.invokestatic 98, 3) := by decide +kernel
theorem dX11_get_27 : decode cX11_get 27 = .ok (.iaload, 1) := by decide +kernel
theorem dX11_get_28 : decode cX11_get 28 = .ok (.iadd, 1) := by decide +kernel
theorem dX11_get_29 : decode cX11_get 29 = .ok (.goto 4, 3) := by decide +kernel
theorem dX11_get_32 : decode cX11_get 32 = .ok (.iconst (-1), 1) := by decide +kernel
theorem dX11_get_33 : decode cX11_get 33 = .ok (.ireturn, 1) := by decide +kernel
set_option maxRecDepth 20000 in
theorem ggX11_clear_X3_others : GoodIn wsX11_clear wsX3_others := goodIn_r _ [7] (by decide +kernel) (by decide +kernel)
set_option maxRecDepth 20000 in
theorem gX11_clear_X3_others : GoodIn wsX11_clear (va_wsS RX11 109 yX3_others wsX3_others) := goodIn_app (goodIn_of _ (by decide +kernel)) ggX11_clear_X3_others
set_option maxRecDepth 20000 in
theorem ggX11_clear_J7_fill_53178 : GoodIn wsX11_clear wsJ7_fill_53178 := goodIn_r _ [11] (by decide +kernel) (by decide +kernel)
set_option maxRecDepth 20000 in
theorem gX11_clear_J7_fill_53178 : GoodIn wsX11_clear (va_wsS RX11 112 yJ7_fill_53178 wsJ7_fill_53178) := goodIn_app (goodIn_of _ (by decide +kernel)) ggX11_clear_J7_fill_53178
theorem dX11_clear_0 : decode cX11_clear 0 = .ok (.aload_n 0, 1) := by decide +kernel
theorem dX11_clear_1 : decode cX11_clear 1 = .ok (.getfield 12, 3) := by decide +kernel
theorem dX11_clear_4 : decode cX11_clear 4 = .ok (.getfield 102, 3) := by decide +kernel
theorem dX11_clear_7 : decode cX11_clear 7 = .ok (.getfield 106, 3) := by decide +kernel
theorem dX11_clear_10 : decode cX11_clear 10 = .ok (.invokestatic 109, 3) := by decide +kernel
theorem dX11_clear_13 : decode cX11_clear 13 = .ok (.istore_n 1, 1) := by decide +kernel
theorem dX11_clear_14 : decode cX11_clear 14 = .ok (.aload_n 0, 1) := by decide +kernel
theorem dX11_clear_15 : decode cX11_clear 15 = .ok (.getfield 12, 3) := by decide +kernel
theorem dX11_clear_18 : decode cX11_clear 18 = .ok (.getfield 102, 3) := by decide +kernel
theorem dX11_clear_21 : decode cX11_clear 21 = .ok (.getfield 106, 3) := by decide +kernel
theorem dX11_clear_24 : decode cX11_clear 24 = .ok (.iconst 0, 1) := by decide +kernel
theorem dX11_clear_25 : decode cX11_clear 25 = .ok (.invokestatic 112, 3) := by decide +kernel
theorem dX11_clear_28 : decode cX11_clear 28 = .ok (.iload_n 1, 1) := by decide +kernel
theorem dX11_clear_29 : decode cX11_clear 29 = .ok (.ireturn, 1) := by decide +kernel
set_option maxRecDepth 20000 in
theorem ggX11_order_X4_topDerivative : GoodIn wsX11_order wsX4_topDerivative := goodIn_r _ [7, 8, 9, 10, 11, 12, 29] (by decide +kernel) (by decide +kernel)
set_option maxRecDepth 20000 in
theorem gX11_order_X4_topDerivative : GoodIn wsX11_order (wsV RX11 118 RX4 yX4_topDerivative wsX4_topDerivative) := goodIn_app (goodIn_of _ (by decide +kernel)) ggX11_order_X4_topDerivative
theorem dX11_order_0 : decode cX11_order 0 = .ok (.aload_n 0, 1) := by decide +kernel
theorem dX11_order_1 : decode cX11_order 1 = .ok (.getfield 12, 3) := by decide +kernel
theorem dX11_order_4 : decode cX11_order 4 = .ok (.getfield 102, 3) := by decide +kernel
theorem dX11_order_7 : decode cX11_order 7 = .ok (.invokevirtual 118, 3) := by decide +kernel
theorem dX11_order_10 : decode cX11_order 10 = .ok (.ireturn, 1) := by decide +kernel
set_option maxRecDepth 20000 in
theorem ggX11_work_X11_within : GoodIn wsX11_work wsX11_within := goodIn_r _ [10] (by decide +kernel) (by decide +kernel)
set_option maxRecDepth 20000 in
theorem gX11_work_X11_within : GoodIn wsX11_work (va_wsS RX11 79 yX11_within wsX11_within) := goodIn_app (goodIn_of _ (by decide +kernel)) ggX11_work_X11_within
set_option maxRecDepth 20000 in
theorem ggX11_work_X2_apply : GoodIn wsX11_work wsX2_apply := goodIn_r _ [15, 16, 17, 18, 19, 20, 21, 22, 23, 14, 24, 25, 26, 27, 28, 29, 30, 31, 32, 33, 34, 35, 36, 37, 38, 39, 40, 41, 42, 43, 44, 45, 46, 47, 48, 49, 50, 51, 52, 53, 54, 55, 56, 57, 58, 59, 60, 61, 62, 63, 80, 81, 82, 83, 84, 85, 86] (by decide +kernel) (by decide +kernel)
set_option maxRecDepth 20000 in
theorem gX11_work_X2_apply : GoodIn wsX11_work (wsV RX11 122 RX2 yX2_apply wsX2_apply) := goodIn_app (goodIn_of _ (by decide +kernel)) ggX11_work_X2_apply
theorem dX11_work_0 : decode cX11_work 0 = .ok (.iload_n 1, 1) := by decide +kernel
theorem dX11_work_1 : decode cX11_work 1 = .ok (.iconst 0, 1) := by decide +kernel
theorem dX11_work_2 : decode cX11_work 2 = .ok (.bipush 24, 2) := by decide +kernel
theorem dX11_work_4 : decode cX11_work 4 = .ok (.invokestatic 79, 3) := by decide +kernel
theorem dX11_work_7 : decode cX11_work 7 = .ok (.ifCond .eq 13, 3) := by decide +kernel
theorem dX11_work_10 : decode cX11_work 10 = .ok (.iload_n 2, 1) := by decide +kernel
theorem dX11_work_11 : decode cX11_work 11 = .ok (.iconst 0, 1) := by decide +kernel
theorem dX11_work_12 : decode cX11_work 12 = .ok (.bipush 8, 2) := by decide +kernel
theorem dX11_work_14 : decode cX11_work 14 = .ok (.invokestatic 79, 3) := by decide +kernel
theorem dX11_work_17 : decode cX11_work 17 = .ok (.ifCond .ne 5, 3) := by decide +kernel
theorem dX11_work_20 : decode cX11_work 20 = .ok (.iconst (-1), 1) := by decide +kernel
theorem dX11_work_21 : decode cX11_work 21 = .ok (.ireturn, 1) := by decide +kernel
theorem dX11_work_22 : decode cX11_work 22 = .ok (.aload_n 0, 1) := by decide +kernel
theorem dX11_work_23 : decode cX11_work 23 = .ok (.getfield 28, 3) := by decide +kernel
theorem dX11_work_26 : decode cX11_work 26 = .ok (.aload_n 0, 1) := by decide +kernel
theorem dX11_work_27 : decode cX11_work 27 = .ok (.getfield 12, 3) := by decide +kernel
theorem dX11_work_30 : decode cX11_work 30 = .ok (.getfield 102, 3) := by decide +kernel
theorem dX11_work_33 : decode cX11_work 33 = .ok (.aload_n 0, 1) := by decide +kernel
theorem dX11_work_34 : decode cX11_work 34 = .ok (.getfield 12, 3) := by decide +kernel
theorem dX11_work_37 : decode cX11_work 37 = .ok (.getfield 83, 3) := by decide +kernel
theorem dX11_work_40 : decode cX11_work 40 = .ok (.invokevirtual 122, 3) := by decide +kernel
theorem dX11_work_43 : decode cX11_work 43 = .ok (.ldc 86, 2) := by decide +kernel
theorem dX11_work_45 : decode cX11_work 45 = .ok (.aload_n 0, 1) := by decide +kernel
theorem dX11_work_46 : decode cX11_work 46 = .ok (.getfield 28, 3) := by decide +kernel
theorem dX11_work_49 : decode cX11_work 49 = .ok (.getfield 126, 3) := by decide +kernel
theorem dX11_work_52 : decode cX11_work 52 = .ok (.iload_n 1, 1) := by decide +kernel
theorem dX11_work_53 : decode cX11_work 53 = .ok (.bipush 9, 2) := by decide +kernel
theorem dX11_work_55 : decode cX11_work 55 = .ok (.imul, 1) := by decide +kernel
theorem dX11_work_56 : decode cX11_work 56 = .ok (.iload_n 2, 1) := by decide +kernel
theorem dX11_work_57 : decode cX11_work 57 = .ok (.iadd, 1) := by decide +kernel
theorem dX11_work_58 : decode cX11_work 58 = .ok (.iaload, 1) := by decide +kernel
theorem dX11_work_59 : decode cX11_work 59 = .ok (.iadd, 1) := by decide +kernel
theorem dX11_work_60 : decode cX11_work 60 = .ok (.ireturn, 1) := by decide +kernel
set_option maxRecDepth 20000 in
theorem ggX11_right_X11_within : GoodIn wsX11_right wsX11_within := goodIn_r _ [10] (by decide +kernel) (by decide +kernel)
set_option maxRecDepth 20000 in
theorem gX11_right_X11_within : GoodIn wsX11_right (va_wsS RX11 79 yX11_within wsX11_within) := goodIn_app (goodIn_of _ (by decide +kernel)) ggX11_right_X11_within
set_option maxRecDepth 20000 in
theorem ggX11_right_X3_highest : GoodIn wsX11_right wsX3_highest := goodIn_r _ [14] (by decide +kernel) (by decide +kernel)
set_option maxRecDepth 20000 in
theorem gX11_right_X3_highest : GoodIn wsX11_right (va_wsS RX11 87 yX3_highest wsX3_highest) := goodIn_app (goodIn_of _ (by decide +kernel)) ggX11_right_X3_highest
set_option maxRecDepth 20000 in
theorem ggX11_right_X2_toPowerOfS : GoodIn wsX11_right wsX2_toPowerOfS := goodIn_r _ [19, 20, 21, 22, 23, 24, 25, 18, 26, 27, 28, 29, 30, 31, 32, 33, 34, 35, 36, 37, 38, 39, 40, 41, 42, 12, 13, 14, 43, 44, 45, 46, 47, 48, 49, 50, 51, 52, 53, 54, 55, 56, 57, 58, 59, 60, 61, 62, 63, 64, 65, 66, 67, 68, 69, 70, 71, 72, 73, 74, 75, 76, 77, 78, 79, 80, 81, 82, 83, 84, 85, 86, 103, 104, 105, 106, 107, 108, 109] (by decide +kernel) (by decide +kernel)
set_option maxRecDepth 20000 in
theorem gX11_right_X2_toPowerOfS : GoodIn wsX11_right (wsV RX11 129 RX2 yX2_toPowerOfS wsX2_toPowerOfS) := goodIn_app (goodIn_of _ (by decide +kernel)) ggX11_right_X2_toPowerOfS
theorem dX11_right_0 : decode cX11_right 0 = .ok (.iload_n 1, 1) := by decide +kernel
theorem dX11_right_1 : decode cX11_right 1 = .ok (.iconst (-1), 1) := by decide +kernel
theorem dX11_right_2 : decode cX11_right 2 = .ok (.bipush 8, 2) := by decide +kernel
theorem dX11_right_4 : decode cX11_right 4 = .ok (.invokestatic 79, 3) := by decide +kernel
theorem dX11_right_7 : decode cX11_right 7 = .ok (.ifCond .ne 5, 3) := by decide +kernel
theorem dX11_right_10 : decode cX11_right 10 = .ok (.iconst (-1), 1) := by decide +kernel
theorem dX11_right_11 : decode cX11_right 11 = .ok (.ireturn, 1) := by decide +kernel
theorem dX11_right_12 : decode cX11_right 12 = .ok (.aload_n 0, 1) := by decide +kernel
theorem dX11_right_13 : decode cX11_right 13 = .ok (.getfield 12, 3) := by decide +kernel
theorem dX11_right_16 : decode cX11_right 16 = .ok (.getfield 83, 3) := by decide +kernel
theorem dX11_right_19 : decode cX11_right 19 = .ok (.invokestatic 87, 3) := by decide +kernel
theorem dX11_right_22 : decode cX11_right 22 = .ok (.iconst 1, 1) := by decide +kernel
theorem dX11_right_23 : decode cX11_right 23 = .ok (.if_icmp .ge 6, 3) := by decide +kernel
theorem dX11_right_26 : decode cX11_right 26 = .ok (.bipush (-3), 2) := by decide +kernel
theorem dX11_right_28 : decode cX11_right 28 = .ok (.ireturn, 1) := by decide +kernel
theorem dX11_right_29 : decode cX11_right 29 = .ok (.aload_n 0, 1) := by decide +kernel
theorem dX11_right_30 : decode cX11_right 30 = .ok (.getfield 28, 3) := by decide +kernel
theorem dX11_right_33 : decode cX11_right 33 = .ok (.aload_n 0, 1) := by decide +kernel
theorem dX11_right_34 : decode cX11_right 34 = .ok (.getfield 12, 3) := by decide +kernel
theorem dX11_right_37 : decode cX11_right 37 = .ok (.getfield 102, 3) := by decide +kernel
theorem dX11_right_40 : decode cX11_right 40 = .ok (.aload_n 0, 1) := by decide +kernel
theorem dX11_right_41 : decode cX11_right 41 = .ok (.getfield 12, 3) := by decide +kernel
theorem dX11_right_44 : decode cX11_right 44 = .ok (.getfield 83, 3) := by decide +kernel
theorem dX11_right_47 : decode cX11_right 47 = .ok (.invokevirtual 129, 3) := by decide +kernel
theorem dX11_right_50 : decode cX11_right 50 = .ok (.ifCond .ne 6, 3) := by decide +kernel
theorem dX11_right_53 : decode cX11_right 53 = .ok (.bipush (-5), 2) := by decide +kernel
theorem dX11_right_55 : decode cX11_right 55 = .ok (.ireturn, 1) := by decide +kernel
theorem dX11_right_56 : decode cX11_right 56 = .ok (.iload_n 1, 1) := by decide +kernel
theorem dX11_right_57 : decode cX11_right 57 = .ok (.iconst (-1), 1) := by decide +kernel
theorem dX11_right_58 : decode cX11_right 58 = .ok (.if_icmp .ne 16, 3) := by decide +kernel
theorem dX11_right_61 : decode cX11_right 61 = .ok (.aload_n 0, 1) := by decide +kernel
theorem dX11_right_62 : decode cX11_right 62 = .ok (.getfield 28, 3) := by decide +kernel
theorem dX11_right_65 : decode cX11_right 65 = .ok (.getfield 133, 3) := by decide +kernel
theorem dX11_right_68 : decode cX11_right 68 = .ok (.invokestatic 87, 3) := by decide +kernel
theorem dX11_right_71 : decode cX11_right 71 = .ok (.goto 15, 3) := by decide +kernel
theorem dX11_right_74 : decode cX11_right 74 = .ok (.ldc 86, 2) := by decide +kernel
theorem dX11_right_76 : decode cX11_right 76 = .ok (.aload_n 0, 1) := by decide +kernel
theorem dX11_right_77 : decode cX11_right 77 = .ok (.getfield 28, 3) := by decide +kernel
theorem dX11_right_80 : decode cX11_right 80 = .ok (.getfield 133, 3) := by decide +kernel
theorem dX11_right_83 : decode cX11_right 83 = .ok (.iload_n 1, 1) := by decide +kernel
theorem dX11_right_84 : decode cX11_right 84 = .ok (.iaload, 1) := by decide +kernel
theorem dX11_right_85 : decode cX11_right 85 = .ok (.iadd, 1) := by decide +kernel
theorem dX11_right_86 : decode cX11_right 86 = .ok (.ireturn, 1) := by decide +kernel
set_option maxRecDepth 20000 in
theorem ggX11_search_X11_within : GoodIn wsX11_search wsX11_within := goodIn_r _ [10] (by decide +kernel) (by decide +kernel)
set_option maxRecDepth 20000 in
theorem gX11_search_X11_within : GoodIn wsX11_search (va_wsS RX11 79 yX11_within wsX11_within) := goodIn_app (goodIn_of _ (by decide +kernel)) ggX11_search_X11_within
set_option maxRecDepth 20000 in
theorem ggX11_search_X3_highest : GoodIn wsX11_search wsX3_highest := goodIn_r _ [14] (by decide +kernel) (by decide +kernel)
set_option maxRecDepth 20000 in
theorem gX11_search_X3_highest : GoodIn wsX11_search (va_wsS RX11 87 yX3_highest wsX3_highest) := goodIn_app (goodIn_of _ (by decide +kernel)) ggX11_search_X3_highest
set_option maxRecDepth 20000 in
theorem ggX11_search_X8_seek : GoodIn wsX11_search wsX8_seek := goodIn_r _ [19, 20, 21, 22, 23, 24, 25, 26, 27, 28, 29, 30, 31, 32, 33, 34, 35, 36, 37, 38, 39, 40, 41, 42, 43, 44, 45, 46, 47, 48, 49, 50, 51, 52, 53, 54, 13, 55, 56, 57, 58, 59, 60, 61, 62, 63, 64, 65, 66, 18, 67, 68, 69, 70, 71, 72, 73, 74, 75, 76, 77, 78, 79, 80, 81, 82, 12, 14, 83, 84, 85, 86, 87, 88, 89, 90, 91, 92, 93, 94, 95, 96, 97, 98, 99, 100, 101, 102, 103, 104, 105, 106, 107, 108, 109, 110, 111, 135, 136, 137, 138, 139, 140, 141, 142, 143, 144, 124, 125, 126, 127, 128, 129, 130, 131, 132, 133, 134, 145, 146, 147, 148, 149, 150, 151] (by decide +kernel) (by decide +kernel)
set_option maxRecDepth 20000 in
theorem gX11_search_X8_seek : GoodIn wsX11_search (wsV RX11 136 RX8 yX8_seek wsX8_seek) := goodIn_app (goodIn_of _ (by decide +kernel)) ggX11_search_X8_seek
theorem dX11_search_0 : decode cX11_search 0 = .ok (.iload_n 1, 1) := by decide +kernel
theorem dX11_search_1 : decode cX11_search 1 = .ok (.iconst 1, 1) := by decide +kernel
theorem dX11_search_2 : decode cX11_search 2 = .ok (.iconst 4, 1) := by decide +kernel
theorem dX11_search_3 : decode cX11_search 3 = .ok (.invokestatic 79, 3) := by decide +kernel
theorem dX11_search_6 : decode cX11_search 6 = .ok (.ifCond .eq 21, 3) := by decide +kernel
theorem dX11_search_9 : decode cX11_search 9 = .ok (.iload_n 2, 1) := by decide +kernel
theorem dX11_search_10 : decode cX11_search 10 = .ok (.iconst 0, 1) := by decide +kernel
theorem dX11_search_11 : decode cX11_search 11 = .ok (.iconst 4, 1) := by decide +kernel
theorem dX11_search_12 : decode cX11_search 12 = .ok (.invokestatic 79, 3) := by decide +kernel
theorem dX11_search_15 : decode cX11_search 15 = .ok (.ifCond .eq 12, 3) := by decide +kernel
theorem dX11_search_18 : decode cX11_search 18 = .ok (.iload_n 3, 1) := by decide +kernel
theorem dX11_search_19 : decode cX11_search 19 = .ok (.iconst 0, 1) := by decide +kernel
theorem dX11_search_20 : decode cX11_search 20 = .ok (.iconst 2, 1) := by decide +kernel
theorem dX11_search_21 : decode cX11_search 21 = .ok (.invokestatic 79, 3) := by decide +kernel
theorem dX11_search_24 : decode cX11_search 24 = .ok (.ifCond .ne 6, 3) := by decide +kernel
theorem dX11_search_27 : decode cX11_search 27 = .ok (.bipush (-2), 2) := by decide +kernel
theorem dX11_search_29 : decode cX11_search 29 = .ok (.ireturn, 1) := by decide +kernel
theorem dX11_search_30 : decode cX11_search 30 = .ok (.aload_n 0, 1) := by decide +kernel
theorem dX11_search_31 : decode cX11_search 31 = .ok (.getfield 12, 3) := by decide +kernel
theorem dX11_search_34 : decode cX11_search 34 = .ok (.getfield 83, 3) := by decide +kernel
theorem dX11_search_37 : decode cX11_search 37 = .ok (.invokestatic 87, 3) := by decide +kernel
theorem dX11_search_40 : decode cX11_search 40 = .ok (.iconst 1, 1) := by decide +kernel
theorem dX11_search_41 : decode cX11_search 41 = .ok (.if_icmp .ge 6, 3) := by decide +kernel
theorem dX11_search_44 : decode cX11_search 44 = .ok (.bipush (-3), 2) := by decide +kernel
theorem dX11_search_46 : decode cX11_search 46 = .ok (.ireturn, 1) := by decide +kernel
theorem dX11_search_47 : decode cX11_search 47 = .ok (.aload_n 0, 1) := by decide +kernel
theorem dX11_search_48 : decode cX11_search 48 = .ok (.getfield 35, 3) := by decide +kernel
theorem dX11_search_51 : decode cX11_search 51 = .ok (.aload_n 0, 1) := by decide +kernel
theorem dX11_search_52 : decode cX11_search 52 = .ok (.getfield 28, 3) := by decide +kernel
theorem dX11_search_55 : decode cX11_search 55 = .ok (.aload_n 0, 1) := by decide +kernel
theorem dX11_search_56 : decode cX11_search 56 = .ok (.getfield 12, 3) := by decide +kernel
theorem dX11_search_59 : decode cX11_search 59 = .ok (.iload_n 1, 1) := by decide +kernel
theorem dX11_search_60 : decode cX11_search 60 = .ok (.iload_n 2, 1) := by decide +kernel
theorem dX11_search_61 : decode cX11_search 61 = .ok (.iload_n 3, 1) := by decide +kernel
theorem dX11_search_62 : decode cX11_search 62 = .ok (.invokevirtual 136, 3) := by decide +kernel
theorem dX11_search_65 : decode cX11_search 65 = .ok (.ifCond .eq 16, 3) := by decide +kernel
theorem dX11_search_68 : decode cX11_search 68 = .ok (.aload_n 0, 1) := by decide +kernel
theorem dX11_search_69 : decode cX11_search 69 = .ok (.getfield 12, 3) := by decide +kernel
theorem dX11_search_72 : decode cX11_search 72 = .ok (.getfield 140, 3) := by decide +kernel
theorem dX11_search_75 : decode cX11_search 75 = .ok (.getfield 144, 3) := by decide +kernel
theorem dX11_search_78 : decode cX11_search 78 = .ok (.goto 5, 3) := by decide +kernel
theorem dX11_search_81 : decode cX11_search 81 = .ok (.bipush (-5), 2) := by decide +kernel
theorem dX11_search_83 : decode cX11_search 83 = .ok (.ireturn, 1) := by decide +kernel
set_option maxRecDepth 20000 in
theorem ggX11_found_X0_isThere : GoodIn wsX11_found wsX0_isThere := goodIn_r _ [10, 11, 32, 33, 34, 35, 36, 37, 38] (by decide +kernel) (by decide +kernel)
set_option maxRecDepth 20000 in
theorem gX11_found_X0_isThere : GoodIn wsX11_found (wsV RX11 150 RX0 yX0_isThere wsX0_isThere) := goodIn_app (goodIn_of _ (by decide +kernel)) ggX11_found_X0_isThere
set_option maxRecDepth 20000 in
theorem ggX11_found_X11_within : GoodIn wsX11_found wsX11_within := goodIn_r _ [15] (by decide +kernel) (by decide +kernel)
set_option maxRecDepth 20000 in
theorem gX11_found_X11_within : GoodIn wsX11_found (va_wsS RX11 79 yX11_within wsX11_within) := goodIn_app (goodIn_of _ (by decide +kernel)) ggX11_found_X11_within
theorem dX11_found_0 : decode cX11_found 0 = .ok (.aload_n 0, 1) := by decide +kernel
theorem dX11_found_1 : decode cX11_found 1 = .ok (.getfield 12, 3) := by decide +kernel
theorem dX11_found_4 : decode cX11_found 4 = .ok (.getfield 140, 3) := by decide +kernel
theorem dX11_found_7 : decode cX11_found 7 = .ok (.invokevirtual 150, 3) := by decide +kernel
theorem dX11_found_10 : decode cX11_found 10 = .ok (.ifCond .ne 6, 3) := by decide +kernel
theorem dX11_found_13 : decode cX11_found 13 = .ok (.bipush (-3), 2) := by decide +kernel
theorem dX11_found_15 : decode cX11_found 15 = .ok (.ireturn, 1) := by decide +kernel
theorem dX11_found_16 : decode cX11_found 16 = .ok (.iload_n 1, 1) := by decide +kernel
theorem dX11_found_17 : decode cX11_found 17 = .ok (.iconst (-1), 1) := by decide +kernel
theorem dX11_found_18 : decode cX11_found 18 = .ok (.aload_n 0, 1) := by decide +kernel
theorem dX11_found_19 : decode cX11_found 19 = .ok (.getfield 12, 3) := by decide +kernel
theorem dX11_found_22 : decode cX11_found 22 = .ok (.getfield 140, 3) := by decide +kernel
theorem dX11_found_25 : decode cX11_found 25 = .ok (.getfield 144, 3) := by decide +kernel
theorem dX11_found_28 : decode cX11_found 28 = .ok (.invokestatic 79, 3) := by decide +kernel
theorem dX11_found_31 : decode cX11_found 31 = .ok (.ifCond .ne 5, 3) := by decide +kernel
theorem dX11_found_34 : decode cX11_found 34 = .ok (.iconst (-1), 1) := by decide +kernel
theorem dX11_found_35 : decode cX11_found 35 = .ok (.ireturn, 1) := by decide +kernel
theorem dX11_found_36 : decode cX11_found 36 = .ok (.iload_n 1, 1) := by decide +kernel
theorem dX11_found_37 : decode cX11_found 37 = .ok (.iconst (-1), 1) := by decide +kernel
theorem dX11_found_38 : decode cX11_found 38 = .ok (.if_icmp .ne 16, 3) := by decide +kernel
theorem dX11_found_41 : decode cX11_found 41 = .ok (.aload_n 0, 1) := by decide +kernel
theorem dX11_found_42 : decode cX11_found 42 = .ok (.getfield 12, 3) := by decide +kernel
theorem dX11_found_45 : decode cX11_found 45 = .ok (.getfield 140, 3) := by decide +kernel
theorem dX11_found_48 : decode cX11_found 48 = .ok (.getfield 144, 3) := by decide +kernel
theorem dX11_found_51 : decode cX11_found 51 = .ok (.goto 18, 3) := by decide +kernel
theorem dX11_found_54 : decode cX11_found 54 = .ok (.ldc 86, 2) := by decide +kernel
theorem dX11_found_56 : decode cX11_found 56 = .ok (.aload_n 0, 1) := by decide +kernel
theorem dX11_found_57 : decode cX11_found 57 = .ok (.getfield 12, 3) := by decide +kernel
theorem dX11_found_60 : decode cX11_found 60 = .ok (.getfield 140, 3) := by decide +kernel
theorem dX11_found_63 : decode cX11_found 63 = .ok (.getfield 154, 3) := by decide +kernel
theorem dX11_found_66 : decode cX11_found 66 = .ok (.iload_n 1, 1) := by decide +kernel
theorem dX11_found_67 : decode cX11_found 67 = .ok (.iaload, 1) := by decide +kernel
theorem dX11_found_68 : decode cX11_found 68 = .ok (.iadd, 1) := by decide +kernel
theorem dX11_found_69 : decode cX11_found 69 = .ok (.ireturn, 1) := by decide +kernel
set_option maxRecDepth 20000 in
theorem ggX11_foundOf_X4_names : GoodIn wsX11_foundOf wsX4_names := goodIn_r _ [9, 10, 11, 12] (by decide +kernel) (by decide +kernel)
set_option maxRecDepth 20000 in
theorem gX11_foundOf_X4_names : GoodIn wsX11_foundOf (va_wsS RX11 93 yX4_names wsX4_names) := goodIn_app (goodIn_of _ (by decide +kernel)) ggX11_foundOf_X4_names
set_option maxRecDepth 20000 in
theorem ggX11_foundOf_X0_isThere : GoodIn wsX11_foundOf wsX0_isThere := goodIn_r _ [17, 18, 38, 39, 40, 41, 42, 43, 44] (by decide +kernel) (by decide +kernel)
set_option maxRecDepth 20000 in
theorem gX11_foundOf_X0_isThere : GoodIn wsX11_foundOf (wsV RX11 150 RX0 yX0_isThere wsX0_isThere) := goodIn_app (goodIn_of _ (by decide +kernel)) ggX11_foundOf_X0_isThere
set_option maxRecDepth 20000 in
theorem ggX11_foundOf_X4_index : GoodIn wsX11_foundOf wsX4_index := goodIn_r _ [21] (by decide +kernel) (by decide +kernel)
set_option maxRecDepth 20000 in
theorem gX11_foundOf_X4_index : GoodIn wsX11_foundOf (va_wsS RX11 98 yX4_index wsX4_index) := goodIn_app (goodIn_of _ (by decide +kernel)) ggX11_foundOf_X4_index
theorem dX11_foundOf_0 : decode cX11_foundOf 0 = .ok (.iload_n 1, 1) := by decide +kernel
theorem dX11_foundOf_1 : decode cX11_foundOf 1 = .ok (.iload_n 2, 1) := by decide +kernel
theorem dX11_foundOf_2 : decode cX11_foundOf 2 = .ok (.iload_n 3, 1) := by decide +kernel
theorem dX11_foundOf_3 : decode cX11_foundOf 3 = .ok (.invokestatic 93, 3) := by decide +kernel
theorem dX11_foundOf_6 : decode cX11_foundOf 6 = .ok (.ifCond .ne 5, 3) := by decide +kernel
theorem dX11_foundOf_9 : decode cX11_foundOf 9 = .ok (.iconst (-1), 1) := by decide +kernel
theorem dX11_foundOf_10 : decode cX11_foundOf 10 = .ok (.ireturn, 1) := by decide +kernel
theorem dX11_foundOf_11 : decode cX11_foundOf 11 = .ok (.aload_n 0, 1) := by decide +kernel
theorem dX11_foundOf_12 : decode cX11_foundOf 12 = .ok (.getfield 12, 3) := by decide +kernel
theorem dX11_foundOf_15 : decode cX11_foundOf 15 = .ok (.getfield 140, 3) := by decide +kernel
theorem dX11_foundOf_18 : decode cX11_foundOf 18 = .ok (.invokevirtual 150, 3) := by decide +kernel
theorem dX11_foundOf_21 : decode cX11_foundOf 21 = .ok (.ifCond .ne 6, 3) := by decide +kernel
theorem dX11_foundOf_24 : decode cX11_foundOf 24 = .ok (.bipush (-3), 2) := by decide +kernel
theorem dX11_foundOf_26 : decode cX11_foundOf 26 = .ok (.ireturn, 1) := by decide +kernel
theorem dX11_foundOf_27 : decode cX11_foundOf 27 = .ok (.ldc 86, 2) := by decide +kernel
theorem dX11_foundOf_29 : decode cX11_foundOf 29 = .ok (.aload_n 0, 1) := by decide +kernel
theorem dX11_foundOf_30 : decode cX11_foundOf 30 = .ok (.getfield 12, 3) := by decide +kernel
theorem dX11_foundOf_33 : decode cX11_foundOf 33 = .ok (.getfield 140, 3) := by decide +kernel
theorem dX11_foundOf_36 : decode cX11_foundOf 36 = .ok (.getfield 155, 3) := by decide +kernel
theorem dX11_foundOf_39 : decode cX11_foundOf 39 = .ok (.getfield 106, 3) := by decide +kernel
theorem dX11_foundOf_42 : decode cX11_foundOf 42 = .ok (.iload_n 1, 1) := by decide +kernel
theorem dX11_foundOf_43 : decode cX11_foundOf 43 = .ok (.iload_n 2, 1) := by decide +kernel
theorem dX11_foundOf_44 : decode cX11_foundOf 44 = .ok (.iload_n 3, 1) := by decide +kernel
theorem dX11_foundOf_45 : decode cX11_foundOf 45 = .ok (.invokestatic 98, 3) := by decide +kernel
theorem dX11_foundOf_48 : decode cX11_foundOf 48 = .ok (.iaload, 1) := by decide +kernel
theorem dX11_foundOf_49 : decode cX11_foundOf 49 = .ok (.iadd, 1) := by decide +kernel
theorem dX11_foundOf_50 : decode cX11_foundOf 50 = .ok (.ireturn, 1) := by decide +kernel
set_option maxRecDepth 20000 in
theorem ggX11_take_X0_isThere : GoodIn wsX11_take wsX0_isThere := goodIn_r _ [9, 10, 45, 46, 47, 48, 49, 50, 51] (by decide +kernel) (by decide +kernel)
set_option maxRecDepth 20000 in
theorem gX11_take_X0_isThere : GoodIn wsX11_take (wsV RX11 150 RX0 yX0_isThere wsX0_isThere) := goodIn_app (goodIn_of _ (by decide +kernel)) ggX11_take_X0_isThere
set_option maxRecDepth 20000 in
theorem ggX11_take_X4_become : GoodIn wsX11_take wsX4_become := goodIn_r _ [15, 16, 17, 18, 19, 20, 52] (by decide +kernel) (by decide +kernel)
set_option maxRecDepth 20000 in
theorem gX11_take_X4_become : GoodIn wsX11_take (wsV RX11 156 RX4 yX4_become wsX4_become) := goodIn_app (goodIn_of _ (by decide +kernel)) ggX11_take_X4_become
set_option maxRecDepth 20000 in
theorem ggX11_take_X4_topDerivative : GoodIn wsX11_take wsX4_topDerivative := goodIn_r _ [24, 16, 25, 26, 27, 28, 52] (by decide +kernel) (by decide +kernel)
set_option maxRecDepth 20000 in
theorem gX11_take_X4_topDerivative : GoodIn wsX11_take (wsV RX11 118 RX4 yX4_topDerivative wsX4_topDerivative) := goodIn_app (goodIn_of _ (by decide +kernel)) ggX11_take_X4_topDerivative
theorem dX11_take_0 : decode cX11_take 0 = .ok (.aload_n 0, 1) := by decide +kernel
theorem dX11_take_1 : decode cX11_take 1 = .ok (.getfield 12, 3) := by decide +kernel
theorem dX11_take_4 : decode cX11_take 4 = .ok (.getfield 140, 3) := by decide +kernel
theorem dX11_take_7 : decode cX11_take 7 = .ok (.invokevirtual 150, 3) := by decide +kernel
theorem dX11_take_10 : decode cX11_take 10 = .ok (.ifCond .ne 6, 3) := by decide +kernel
theorem dX11_take_13 : decode cX11_take 13 = .ok (.bipush (-3), 2) := by decide +kernel
theorem dX11_take_15 : decode cX11_take 15 = .ok (.ireturn, 1) := by decide +kernel
theorem dX11_take_16 : decode cX11_take 16 = .ok (.aload_n 0, 1) := by decide +kernel
theorem dX11_take_17 : decode cX11_take 17 = .ok (.getfield 12, 3) := by decide +kernel
theorem dX11_take_20 : decode cX11_take 20 = .ok (.getfield 102, 3) := by decide +kernel
theorem dX11_take_23 : decode cX11_take 23 = .ok (.aload_n 0, 1) := by decide +kernel
theorem dX11_take_24 : decode cX11_take 24 = .ok (.getfield 12, 3) := by decide +kernel
theorem dX11_take_27 : decode cX11_take 27 = .ok (.getfield 140, 3) := by decide +kernel
theorem dX11_take_30 : decode cX11_take 30 = .ok (.getfield 155, 3) := by decide +kernel
theorem dX11_take_33 : decode cX11_take 33 = .ok (.invokevirtual 156, 3) := by decide +kernel
theorem dX11_take_36 : decode cX11_take 36 = .ok (.aload_n 0, 1) := by decide +kernel
theorem dX11_take_37 : decode cX11_take 37 = .ok (.getfield 12, 3) := by decide +kernel
theorem dX11_take_40 : decode cX11_take 40 = .ok (.getfield 102, 3) := by decide +kernel
theorem dX11_take_43 : decode cX11_take 43 = .ok (.invokevirtual 118, 3) := by decide +kernel
theorem dX11_take_46 : decode cX11_take 46 = .ok (.ireturn, 1) := by decide +kernel
set_option maxRecDepth 20000 in
theorem ggX11_roots_X0_isThere : GoodIn wsX11_roots wsX0_isThere := goodIn_r _ [7, 8, 62, 63, 64, 65, 66, 67, 68] (by decide +kernel) (by decide +kernel)
set_option maxRecDepth 20000 in
theorem gX11_roots_X0_isThere : GoodIn wsX11_roots (wsV RX11 150 RX0 yX0_isThere wsX0_isThere) := goodIn_app (goodIn_of _ (by decide +kernel)) ggX11_roots_X0_isThere
set_option maxRecDepth 20000 in
theorem ggX11_roots_X0_gatherRoots : GoodIn wsX11_roots wsX0_gatherRoots := goodIn_r _ [12, 13, 14, 15, 16, 17, 18, 19, 20, 21, 22, 23, 24, 25, 6, 26, 27, 28, 29, 30, 31, 32, 33, 34, 35, 36, 37, 8, 38, 39, 40, 41, 42, 43, 44, 45, 62, 63, 64, 65, 66, 67, 68] (by decide +kernel) (by decide +kernel)
set_option maxRecDepth 20000 in
theorem gX11_roots_X0_gatherRoots : GoodIn wsX11_roots (wsV RX11 160 RX0 yX0_gatherRoots wsX0_gatherRoots) := goodIn_app (goodIn_of _ (by decide +kernel)) ggX11_roots_X0_gatherRoots
theorem dX11_roots_0 : decode cX11_roots 0 = .ok (.aload_n 0, 1) := by decide +kernel
theorem dX11_roots_1 : decode cX11_roots 1 = .ok (.getfield 12, 3) := by decide +kernel
theorem dX11_roots_4 : decode cX11_roots 4 = .ok (.getfield 140, 3) := by decide +kernel
theorem dX11_roots_7 : decode cX11_roots 7 = .ok (.invokevirtual 150, 3) := by decide +kernel
theorem dX11_roots_10 : decode cX11_roots 10 = .ok (.ifCond .eq 16, 3) := by decide +kernel
theorem dX11_roots_13 : decode cX11_roots 13 = .ok (.aload_n 0, 1) := by decide +kernel
theorem dX11_roots_14 : decode cX11_roots 14 = .ok (.getfield 12, 3) := by decide +kernel
theorem dX11_roots_17 : decode cX11_roots 17 = .ok (.getfield 140, 3) := by decide +kernel
theorem dX11_roots_20 : decode cX11_roots 20 = .ok (.invokevirtual 160, 3) := by decide +kernel
theorem dX11_roots_23 : decode cX11_roots 23 = .ok (.goto 5, 3) := by decide +kernel
theorem dX11_roots_26 : decode cX11_roots 26 = .ok (.bipush (-3), 2) := by decide +kernel
theorem dX11_roots_28 : decode cX11_roots 28 = .ok (.ireturn, 1) := by decide +kernel
set_option maxRecDepth 20000 in
theorem ggX11_root_X0_isThere : GoodIn wsX11_root wsX0_isThere := goodIn_r _ [10, 11, 69, 70, 71, 72, 73, 74, 75] (by decide +kernel) (by decide +kernel)
set_option maxRecDepth 20000 in
theorem gX11_root_X0_isThere : GoodIn wsX11_root (wsV RX11 150 RX0 yX0_isThere wsX0_isThere) := goodIn_app (goodIn_of _ (by decide +kernel)) ggX11_root_X0_isThere
set_option maxRecDepth 20000 in
theorem ggX11_root_X0_gatherRoots : GoodIn wsX11_root wsX0_gatherRoots := goodIn_r _ [15, 16, 17, 18, 19, 20, 21, 22, 23, 24, 25, 26, 27, 28, 9, 29, 30, 31, 32, 33, 34, 35, 36, 37, 38, 39, 40, 11, 41, 42, 43, 44, 45, 46, 47, 48, 69, 70, 71, 72, 73, 74, 75] (by decide +kernel) (by decide +kernel)
set_option maxRecDepth 20000 in
theorem gX11_root_X0_gatherRoots : GoodIn wsX11_root (wsV RX11 160 RX0 yX0_gatherRoots wsX0_gatherRoots) := goodIn_app (goodIn_of _ (by decide +kernel)) ggX11_root_X0_gatherRoots
set_option maxRecDepth 20000 in
theorem ggX11_root_X11_within : GoodIn wsX11_root wsX11_within := goodIn_r _ [52] (by decide +kernel) (by decide +kernel)
set_option maxRecDepth 20000 in
theorem gX11_root_X11_within : GoodIn wsX11_root (va_wsS RX11 79 yX11_within wsX11_within) := goodIn_app (goodIn_of _ (by decide +kernel)) ggX11_root_X11_within
theorem dX11_root_0 : decode cX11_root 0 = .ok (.aload_n 0, 1) := by decide +kernel
theorem dX11_root_1 : decode cX11_root 1 = .ok (.getfield 12, 3) := by decide +kernel
theorem dX11_root_4 : decode cX11_root 4 = .ok (.getfield 140, 3) := by decide +kernel
theorem dX11_root_7 : decode cX11_root 7 = .ok (.invokevirtual 150, 3) := by decide +kernel
theorem dX11_root_10 : decode cX11_root 10 = .ok (.ifCond .ne 6, 3) := by decide +kernel
theorem dX11_root_13 : decode cX11_root 13 = .ok (.bipush (-3), 2) := by decide +kernel
theorem dX11_root_15 : decode cX11_root 15 = .ok (.ireturn, 1) := by decide +kernel
theorem dX11_root_16 : decode cX11_root 16 = .ok (.iload_n 1, 1) := by decide +kernel
theorem dX11_root_17 : decode cX11_root 17 = .ok (.iconst 0, 1) := by decide +kernel
theorem dX11_root_18 : decode cX11_root 18 = .ok (.aload_n 0, 1) := by decide +kernel
theorem dX11_root_19 : decode cX11_root 19 = .ok (.getfield 12, 3) := by decide +kernel
theorem dX11_root_22 : decode cX11_root 22 = .ok (.getfield 140, 3) := by decide +kernel
theorem dX11_root_25 : decode cX11_root 25 = .ok (.invokevirtual 160, 3) := by decide +kernel
theorem dX11_root_28 : decode cX11_root 28 = .ok (.iconst 1, 1) := by decide +kernel
theorem dX11_root_29 : decode cX11_root 29 = .ok (.isub, 1) := by decide +kernel
theorem dX11_root_30 : decode cX11_root 30 = .ok (.invokestatic 79, 3) := by decide +kernel
theorem dX11_root_33 : decode cX11_root 33 = .ok (.ifCond .ne 5, 3) := by decide +kernel
theorem dX11_root_36 : decode cX11_root 36 = .ok (.iconst (-1), 1) := by decide +kernel
theorem dX11_root_37 : decode cX11_root 37 = .ok (.ireturn, 1) := by decide +kernel
theorem dX11_root_38 : decode cX11_root 38 = .ok (.iload_n 2, 1) := by decide +kernel
theorem dX11_root_39 : decode cX11_root 39 = .ok (.tableswitch 64 0 2 #[25, 38, 51], 25) := by decide +kernel
theorem dX11_root_64 : decode cX11_root 64 = .ok (.aload_n 0, 1) := by decide +kernel
theorem dX11_root_65 : decode cX11_root 65 = .ok (.getfield 12, 3) := by decide +kernel
theorem dX11_root_68 : decode cX11_root 68 = .ok (.getfield 140, 3) := by decide +kernel
theorem dX11_root_71 : decode cX11_root 71 = .ok (.getfield 163, 3) := by decide +kernel
theorem dX11_root_74 : decode cX11_root 74 = .ok (.iload_n 1, 1) := by decide +kernel
theorem dX11_root_75 : decode cX11_root 75 = .ok (.iaload, 1) := by decide +kernel
theorem dX11_root_76 : decode cX11_root 76 = .ok (.ireturn, 1) := by decide +kernel
theorem dX11_root_77 : decode cX11_root 77 = .ok (.aload_n 0, 1) := by decide +kernel
theorem dX11_root_78 : decode cX11_root 78 = .ok (.getfield 12, 3) := by decide +kernel
theorem dX11_root_81 : decode cX11_root 81 = .ok (.getfield 140, 3) := by decide +kernel
theorem dX11_root_84 : decode cX11_root 84 = .ok (.getfield 166, 3) := by decide +kernel
theorem dX11_root_87 : decode cX11_root 87 = .ok (.iload_n 1, 1) := by decide +kernel
theorem dX11_root_88 : decode cX11_root 88 = .ok (.iaload, 1) := by decide +kernel
theorem dX11_root_89 : decode cX11_root 89 = .ok (.ireturn, 1) := by decide +kernel
theorem dX11_root_90 : decode cX11_root 90 = .ok (.aload_n 0, 1) := by decide +kernel
theorem dX11_root_91 : decode cX11_root 91 = .ok (.getfield 12, 3) := by decide +kernel
theorem dX11_root_94 : decode cX11_root 94 = .ok (.getfield 140, 3) := by decide +kernel
theorem dX11_root_97 : decode cX11_root 97 = .ok (.getfield 169, 3) := by decide +kernel
theorem dX11_root_100 : decode cX11_root 100 = .ok (.iload_n 1, 1) := by decide +kernel
theorem dX11_root_101 : decode cX11_root 101 = .ok (.iaload, 1) := by decide +kernel
theorem dX11_root_102 : decode cX11_root 102 = .ok (.ireturn, 1) := by decide +kernel
theorem dX11_root_103 : decode cX11_root 103 = .ok (.iconst (-1), 1) := by decide +kernel
theorem dX11_root_104 : decode cX11_root 104 = .ok (.ireturn, 1) := by decide +kernel
set_option maxRecDepth 20000 in
theorem ggX11_easy_X11_within : GoodIn wsX11_easy wsX11_within := goodIn_r _ [6] (by decide +kernel) (by decide +kernel)
set_option maxRecDepth 20000 in
theorem gX11_easy_X11_within : GoodIn wsX11_easy (va_wsS RX11 79 yX11_within wsX11_within) := goodIn_app (goodIn_of _ (by decide +kernel)) ggX11_easy_X11_within
set_option maxRecDepth 20000 in
theorem ggX11_easy_J7_fill_53178 : GoodIn wsX11_easy wsJ7_fill_53178 := goodIn_r _ [10] (by decide +kernel) (by decide +kernel)
set_option maxRecDepth 20000 in
theorem gX11_easy_J7_fill_53178 : GoodIn wsX11_easy (va_wsS RX11 112 yJ7_fill_53178 wsJ7_fill_53178) := goodIn_app (goodIn_of _ (by decide +kernel)) ggX11_easy_J7_fill_53178
set_option maxRecDepth 20000 in
theorem ggX11_easy_X3_inverse : GoodIn wsX11_easy wsX3_inverse := goodIn_r _ [14, 15, 16, 13, 17, 18] (by decide +kernel) (by decide +kernel)
set_option maxRecDepth 20000 in
theorem gX11_easy_X3_inverse : GoodIn wsX11_easy (va_wsS RX11 172 yX3_inverse wsX3_inverse) := goodIn_app (goodIn_of _ (by decide +kernel)) ggX11_easy_X3_inverse
set_option maxRecDepth 20000 in
theorem ggX11_easy_X3_fold : GoodIn wsX11_easy wsX3_fold := goodIn_r _ [17, 18] (by decide +kernel) (by decide +kernel)
set_option maxRecDepth 20000 in
theorem gX11_easy_X3_fold : GoodIn wsX11_easy (va_wsS RX11 176 yX3_fold wsX3_fold) := goodIn_app (goodIn_of _ (by decide +kernel)) ggX11_easy_X3_fold
theorem dX11_easy_0 : decode cX11_easy 0 = .ok (.iload_n 1, 1) := by decide +kernel
theorem dX11_easy_1 : decode cX11_easy 1 = .ok (.iconst 1, 1) := by decide +kernel
theorem dX11_easy_2 : decode cX11_easy 2 = .ok (.iconst 4, 1) := by decide +kernel
theorem dX11_easy_3 : decode cX11_easy 3 = .ok (.invokestatic 79, 3) := by decide +kernel
theorem dX11_easy_6 : decode cX11_easy 6 = .ok (.ifCond .ne 6, 3) := by decide +kernel
theorem dX11_easy_9 : decode cX11_easy 9 = .ok (.bipush (-2), 2) := by decide +kernel
theorem dX11_easy_11 : decode cX11_easy 11 = .ok (.ireturn, 1) := by decide +kernel
theorem dX11_easy_12 : decode cX11_easy 12 = .ok (.iload_n 2, 1) := by decide +kernel
theorem dX11_easy_13 : decode cX11_easy 13 = .ok (.iconst 0, 1) := by decide +kernel
theorem dX11_easy_14 : decode cX11_easy 14 = .ok (.iload_n 1, 1) := by decide +kernel
theorem dX11_easy_15 : decode cX11_easy 15 = .ok (.invokestatic 79, 3) := by decide +kernel
theorem dX11_easy_18 : decode cX11_easy 18 = .ok (.ifCond .ne 5, 3) := by decide +kernel
theorem dX11_easy_21 : decode cX11_easy 21 = .ok (.iconst (-1), 1) := by decide +kernel
theorem dX11_easy_22 : decode cX11_easy 22 = .ok (.ireturn, 1) := by decide +kernel
theorem dX11_easy_23 : decode cX11_easy 23 = .ok (.aload_n 0, 1) := by decide +kernel
theorem dX11_easy_24 : decode cX11_easy 24 = .ok (.getfield 76, 3) := by decide +kernel
theorem dX11_easy_27 : decode cX11_easy 27 = .ok (.iconst 0, 1) := by decide +kernel
theorem dX11_easy_28 : decode cX11_easy 28 = .ok (.invokestatic 112, 3) := by decide +kernel
theorem dX11_easy_31 : decode cX11_easy 31 = .ok (.aload_n 0, 1) := by decide +kernel
theorem dX11_easy_32 : decode cX11_easy 32 = .ok (.getfield 76, 3) := by decide +kernel
theorem dX11_easy_35 : decode cX11_easy 35 = .ok (.iconst 0, 1) := by decide +kernel
theorem dX11_easy_36 : decode cX11_easy 36 = .ok (.iconst 1, 1) := by decide +kernel
theorem dX11_easy_37 : decode cX11_easy 37 = .ok (.iastore, 1) := by decide +kernel
theorem dX11_easy_38 : decode cX11_easy 38 = .ok (.iload_n 1, 1) := by decide +kernel
theorem dX11_easy_39 : decode cX11_easy 39 = .ok (.invokestatic 172, 3) := by decide +kernel
theorem dX11_easy_42 : decode cX11_easy 42 = .ok (.istore_n 3, 1) := by decide +kernel
theorem dX11_easy_43 : decode cX11_easy 43 = .ok (.iconst 1, 1) := by decide +kernel
theorem dX11_easy_44 : decode cX11_easy 44 = .ok (.istore 4, 2) := by decide +kernel
theorem dX11_easy_46 : decode cX11_easy 46 = .ok (.iload 4, 2) := by decide +kernel
theorem dX11_easy_48 : decode cX11_easy 48 = .ok (.iload_n 1, 1) := by decide +kernel
theorem dX11_easy_49 : decode cX11_easy 49 = .ok (.if_icmp .gt 81, 3) := by decide +kernel
theorem dX11_easy_52 : decode cX11_easy 52 = .ok (.iload 4, 2) := by decide +kernel
theorem dX11_easy_54 : decode cX11_easy 54 = .ok (.i2l, 1) := by decide +kernel
theorem dX11_easy_55 : decode cX11_easy 55 = .ok (.iload_n 3, 1) := by decide +kernel
theorem dX11_easy_56 : decode cX11_easy 56 = .ok (.i2l, 1) := by decide +kernel
theorem dX11_easy_57 : decode cX11_easy 57 = .ok (.lmul, 1) := by decide +kernel
theorem dX11_easy_58 : decode cX11_easy 58 = .ok (.invokestatic 176, 3) := by decide +kernel
theorem dX11_easy_61 : decode cX11_easy 61 = .ok (.istore 5, 2) := by decide +kernel
theorem dX11_easy_63 : decode cX11_easy 63 = .ok (.iload 4, 2) := by decide +kernel
theorem dX11_easy_65 : decode cX11_easy 65 = .ok (.istore 6, 2) := by decide +kernel
theorem dX11_easy_67 : decode cX11_easy 67 = .ok (.iload 6, 2) := by decide +kernel
theorem dX11_easy_69 : decode cX11_easy 69 = .ok (.ifCond .lt 55, 3) := by decide +kernel
theorem dX11_easy_72 : decode cX11_easy 72 = .ok (.iload 6, 2) := by decide +kernel
theorem dX11_easy_74 : decode cX11_easy 74 = .ok (.ifCond .le 16, 3) := by decide +kernel
theorem dX11_easy_77 : decode cX11_easy 77 = .ok (.aload_n 0, 1) := by decide +kernel
theorem dX11_easy_78 : decode cX11_easy 78 = .ok (.getfield 76, 3) := by decide +kernel
theorem dX11_easy_81 : decode cX11_easy 81 = .ok (.iload 6, 2) := by decide +kernel
theorem dX11_easy_83 : decode cX11_easy 83 = .ok (.iconst 1, 1) := by decide +kernel
theorem dX11_easy_84 : decode cX11_easy 84 = .ok (.isub, 1) := by decide +kernel
theorem dX11_easy_85 : decode cX11_easy 85 = .ok (.iaload, 1) := by decide +kernel
theorem dX11_easy_86 : decode cX11_easy 86 = .ok (.i2l, 1) := by decide +kernel
theorem dX11_easy_87 : decode cX11_easy 87 = .ok (.goto 4, 3) := by decide +kernel
theorem dX11_easy_90 : decode cX11_easy 90 = .ok (.lconst 0, 1) := by decide +kernel
theorem dX11_easy_91 : decode cX11_easy 91 = .ok (.lstore 7, 2) := by decide +kernel
theorem dX11_easy_93 : decode cX11_easy 93 = .ok (.aload_n 0, 1) := by decide +kernel
theorem dX11_easy_94 : decode cX11_easy 94 = .ok (.getfield 76, 3) := by decide +kernel
theorem dX11_easy_97 : decode cX11_easy 97 = .ok (.iload 6, 2) := by decide +kernel
theorem dX11_easy_99 : decode cX11_easy 99 = .ok (.lload 7, 2) := by decide +kernel
theorem dX11_easy_101 : decode cX11_easy 101 = .ok (.iload 5, 2) := by decide +kernel
theorem dX11_easy_103 : decode cX11_easy 103 = .ok (.i2l, 1) := by decide +kernel
theorem dX11_easy_104 : decode cX11_easy 104 = .ok (.aload_n 0, 1) := by decide +kernel
theorem dX11_easy_105 : decode cX11_easy 105 = .ok (.getfield 76, 3) := by decide +kernel
theorem dX11_easy_108 : decode cX11_easy 108 = .ok (.iload 6, 2) := by decide +kernel
theorem dX11_easy_110 : decode cX11_easy 110 = .ok (.iaload, 1) := by decide +kernel
theorem dX11_easy_111 : decode cX11_easy 111 = .ok (.i2l, 1) := by decide +kernel
theorem dX11_easy_112 : decode cX11_easy 112 = .ok (.lmul, 1) := by decide +kernel
theorem dX11_easy_113 : decode cX11_easy 113 = .ok (.ladd, 1) := by decide +kernel
theorem dX11_easy_114 : decode cX11_easy 114 = .ok (.invokestatic 176, 3) := by decide +kernel
theorem dX11_easy_117 : decode cX11_easy 117 = .ok (.iastore, 1) := by decide +kernel
theorem dX11_easy_118 : decode cX11_easy 118 = .ok (.iinc 6 (-1), 3) := by decide +kernel
theorem dX11_easy_121 : decode cX11_easy 121 = .ok (.goto (-54), 3) := by decide +kernel
theorem dX11_easy_124 : decode cX11_easy 124 = .ok (.iinc 4 1, 3) := by decide +kernel
theorem dX11_easy_127 : decode cX11_easy 127 = .ok (.goto (-81), 3) := by decide +kernel
theorem dX11_easy_130 : decode cX11_easy 130 = .ok (.ldc 86, 2) := by decide +kernel
theorem dX11_easy_132 : decode cX11_easy 132 = .ok (.aload_n 0, 1) := by decide +kernel
theorem dX11_easy_133 : decode cX11_easy 133 = .ok (.getfield 76, 3) := by decide +kernel
theorem dX11_easy_136 : decode cX11_easy 136 = .ok (.iload_n 2, 1) := by decide +kernel
theorem dX11_easy_137 : decode cX11_easy 137 = .ok (.iaload, 1) := by decide +kernel
theorem dX11_easy_138 : decode cX11_easy 138 = .ok (.iadd, 1) := by decide +kernel
theorem dX11_easy_139 : decode cX11_easy 139 = .ok (.ireturn, 1) := by decide +kernel
set_option maxRecDepth 20000 in
theorem ggX11_direct_X11_within : GoodIn wsX11_direct wsX11_within := goodIn_r _ [10] (by decide +kernel) (by decide +kernel)
set_option maxRecDepth 20000 in
theorem gX11_direct_X11_within : GoodIn wsX11_direct (va_wsS RX11 79 yX11_within wsX11_within) := goodIn_app (goodIn_of _ (by decide +kernel)) ggX11_direct_X11_within
set_option maxRecDepth 20000 in
theorem ggX11_direct_X2_applyToWhole : GoodIn wsX11_direct wsX2_applyToWhole := goodIn_r _ [15, 16, 17, 18, 19, 20, 21, 22, 23, 24, 25, 26, 27, 28, 29, 30, 31, 32, 33, 34, 35, 36, 37, 38, 14, 39, 40, 41, 42, 43, 44, 45, 46, 47, 48, 49, 66, 67, 68, 69, 70, 71, 72] (by decide +kernel) (by decide +kernel)
set_option maxRecDepth 20000 in
theorem gX11_direct_X2_applyToWhole : GoodIn wsX11_direct (wsV RX11 180 RX2 yX2_applyToWhole wsX2_applyToWhole) := goodIn_app (goodIn_of _ (by decide +kernel)) ggX11_direct_X2_applyToWhole
theorem dX11_direct_0 : decode cX11_direct 0 = .ok (.iload_n 1, 1) := by decide +kernel
theorem dX11_direct_1 : decode cX11_direct 1 = .ok (.iconst 0, 1) := by decide +kernel
theorem dX11_direct_2 : decode cX11_direct 2 = .ok (.iconst 3, 1) := by decide +kernel
theorem dX11_direct_3 : decode cX11_direct 3 = .ok (.invokestatic 79, 3) := by decide +kernel
theorem dX11_direct_6 : decode cX11_direct 6 = .ok (.ifCond .ne 6, 3) := by decide +kernel
theorem dX11_direct_9 : decode cX11_direct 9 = .ok (.bipush (-2), 2) := by decide +kernel
theorem dX11_direct_11 : decode cX11_direct 11 = .ok (.ireturn, 1) := by decide +kernel
theorem dX11_direct_12 : decode cX11_direct 12 = .ok (.iload_n 2, 1) := by decide +kernel
theorem dX11_direct_13 : decode cX11_direct 13 = .ok (.iconst 0, 1) := by decide +kernel
theorem dX11_direct_14 : decode cX11_direct 14 = .ok (.bipush 20, 2) := by decide +kernel
theorem dX11_direct_16 : decode cX11_direct 16 = .ok (.invokestatic 79, 3) := by decide +kernel
theorem dX11_direct_19 : decode cX11_direct 19 = .ok (.ifCond .ne 5, 3) := by decide +kernel
theorem dX11_direct_22 : decode cX11_direct 22 = .ok (.iconst (-1), 1) := by decide +kernel
theorem dX11_direct_23 : decode cX11_direct 23 = .ok (.ireturn, 1) := by decide +kernel
theorem dX11_direct_24 : decode cX11_direct 24 = .ok (.aload_n 0, 1) := by decide +kernel
theorem dX11_direct_25 : decode cX11_direct 25 = .ok (.getfield 28, 3) := by decide +kernel
theorem dX11_direct_28 : decode cX11_direct 28 = .ok (.aload_n 0, 1) := by decide +kernel
theorem dX11_direct_29 : decode cX11_direct 29 = .ok (.getfield 12, 3) := by decide +kernel
theorem dX11_direct_32 : decode cX11_direct 32 = .ok (.getfield 102, 3) := by decide +kernel
theorem dX11_direct_35 : decode cX11_direct 35 = .ok (.aload_n 0, 1) := by decide +kernel
theorem dX11_direct_36 : decode cX11_direct 36 = .ok (.getfield 12, 3) := by decide +kernel
theorem dX11_direct_39 : decode cX11_direct 39 = .ok (.getfield 83, 3) := by decide +kernel
theorem dX11_direct_42 : decode cX11_direct 42 = .ok (.iload_n 1, 1) := by decide +kernel
theorem dX11_direct_43 : decode cX11_direct 43 = .ok (.invokevirtual 180, 3) := by decide +kernel
theorem dX11_direct_46 : decode cX11_direct 46 = .ok (.ldc 86, 2) := by decide +kernel
theorem dX11_direct_48 : decode cX11_direct 48 = .ok (.aload_n 0, 1) := by decide +kernel
theorem dX11_direct_49 : decode cX11_direct 49 = .ok (.getfield 28, 3) := by decide +kernel
theorem dX11_direct_52 : decode cX11_direct 52 = .ok (.getfield 184, 3) := by decide +kernel
theorem dX11_direct_55 : decode cX11_direct 55 = .ok (.iload_n 2, 1) := by decide +kernel
theorem dX11_direct_56 : decode cX11_direct 56 = .ok (.iaload, 1) := by decide +kernel
theorem dX11_direct_57 : decode cX11_direct 57 = .ok (.iadd, 1) := by decide +kernel
theorem dX11_direct_58 : decode cX11_direct 58 = .ok (.ireturn, 1) := by decide +kernel
set_option maxRecDepth 20000 in
theorem ggX11_checked_X11_within : GoodIn wsX11_checked wsX11_within := goodIn_r _ [9] (by decide +kernel) (by decide +kernel)
set_option maxRecDepth 20000 in
theorem gX11_checked_X11_within : GoodIn wsX11_checked (va_wsS RX11 79 yX11_within wsX11_within) := goodIn_app (goodIn_of _ (by decide +kernel)) ggX11_checked_X11_within
set_option maxRecDepth 20000 in
theorem ggX11_checked_X0_isThere : GoodIn wsX11_checked wsX0_isThere := goodIn_r _ [14, 15, 81, 82, 83, 84, 85, 86, 87] (by decide +kernel) (by decide +kernel)
set_option maxRecDepth 20000 in
theorem gX11_checked_X0_isThere : GoodIn wsX11_checked (wsV RX11 150 RX0 yX0_isThere wsX0_isThere) := goodIn_app (goodIn_of _ (by decide +kernel)) ggX11_checked_X0_isThere
set_option maxRecDepth 20000 in
theorem ggX11_checked_X2_applyToWhole : GoodIn wsX11_checked wsX2_applyToWhole := goodIn_r _ [20, 21, 22, 23, 24, 25, 26, 27, 28, 29, 30, 31, 32, 33, 34, 35, 36, 37, 38, 39, 40, 41, 42, 43, 19, 44, 45, 46, 47, 48, 49, 50, 51, 52, 53, 54, 88, 89, 90, 91, 92, 93, 94] (by decide +kernel) (by decide +kernel)
set_option maxRecDepth 20000 in
theorem gX11_checked_X2_applyToWhole : GoodIn wsX11_checked (wsV RX11 180 RX2 yX2_applyToWhole wsX2_applyToWhole) := goodIn_app (goodIn_of _ (by decide +kernel)) ggX11_checked_X2_applyToWhole
set_option maxRecDepth 20000 in
theorem ggX11_checked_X0_at : GoodIn wsX11_checked wsX0_at := goodIn_r _ [58, 59, 60, 35, 25, 36, 37, 81, 82, 83, 84, 85, 86, 87] (by decide +kernel) (by decide +kernel)
set_option maxRecDepth 20000 in
theorem gX11_checked_X0_at : GoodIn wsX11_checked (wsV RX11 187 RX0 yX0_at wsX0_at) := goodIn_app (goodIn_of _ (by decide +kernel)) ggX11_checked_X0_at
set_option maxRecDepth 20000 in
theorem ggX11_checked_X2_wholeIs : GoodIn wsX11_checked wsX2_wholeIs := goodIn_r _ [64, 21, 22, 23, 24, 25, 26, 27, 28, 29, 30, 31, 32, 33, 34, 35, 36, 37, 50, 88, 89, 90, 91, 92, 93] (by decide +kernel) (by decide +kernel)
set_option maxRecDepth 20000 in
theorem gX11_checked_X2_wholeIs : GoodIn wsX11_checked (wsV RX11 190 RX2 yX2_wholeIs wsX2_wholeIs) := goodIn_app (goodIn_of _ (by decide +kernel)) ggX11_checked_X2_wholeIs
theorem dX11_checked_0 : decode cX11_checked 0 = .ok (.iload_n 1, 1) := by decide +kernel
theorem dX11_checked_1 : decode cX11_checked 1 = .ok (.iconst 0, 1) := by decide +kernel
theorem dX11_checked_2 : decode cX11_checked 2 = .ok (.iconst 3, 1) := by decide +kernel
theorem dX11_checked_3 : decode cX11_checked 3 = .ok (.invokestatic 79, 3) := by decide +kernel
theorem dX11_checked_6 : decode cX11_checked 6 = .ok (.ifCond .ne 6, 3) := by decide +kernel
theorem dX11_checked_9 : decode cX11_checked 9 = .ok (.bipush (-2), 2) := by decide +kernel
theorem dX11_checked_11 : decode cX11_checked 11 = .ok (.ireturn, 1) := by decide +kernel
theorem dX11_checked_12 : decode cX11_checked 12 = .ok (.aload_n 0, 1) := by decide +kernel
theorem dX11_checked_13 : decode cX11_checked 13 = .ok (.getfield 12, 3) := by decide +kernel
theorem dX11_checked_16 : decode cX11_checked 16 = .ok (.getfield 140, 3) := by decide +kernel
theorem dX11_checked_19 : decode cX11_checked 19 = .ok (.invokevirtual 150, 3) := by decide +kernel
theorem dX11_checked_22 : decode cX11_checked 22 = .ok (.ifCond .ne 6, 3) := by decide +kernel
theorem dX11_checked_25 : decode cX11_checked 25 = .ok (.bipush (-3), 2) := by decide +kernel
theorem dX11_checked_27 : decode cX11_checked 27 = .ok (.ireturn, 1) := by decide +kernel
theorem dX11_checked_28 : decode cX11_checked 28 = .ok (.aload_n 0, 1) := by decide +kernel
theorem dX11_checked_29 : decode cX11_checked 29 = .ok (.getfield 28, 3) := by decide +kernel
theorem dX11_checked_32 : decode cX11_checked 32 = .ok (.aload_n 0, 1) := by decide +kernel
theorem dX11_checked_33 : decode cX11_checked 33 = .ok (.getfield 12, 3) := by decide +kernel
theorem dX11_checked_36 : decode cX11_checked 36 = .ok (.getfield 102, 3) := by decide +kernel
theorem dX11_checked_39 : decode cX11_checked 39 = .ok (.aload_n 0, 1) := by decide +kernel
theorem dX11_checked_40 : decode cX11_checked 40 = .ok (.getfield 12, 3) := by decide +kernel
theorem dX11_checked_43 : decode cX11_checked 43 = .ok (.getfield 83, 3) := by decide +kernel
theorem dX11_checked_46 : decode cX11_checked 46 = .ok (.iload_n 1, 1) := by decide +kernel
theorem dX11_checked_47 : decode cX11_checked 47 = .ok (.invokevirtual 180, 3) := by decide +kernel
theorem dX11_checked_50 : decode cX11_checked 50 = .ok (.aload_n 0, 1) := by decide +kernel
theorem dX11_checked_51 : decode cX11_checked 51 = .ok (.getfield 28, 3) := by decide +kernel
theorem dX11_checked_54 : decode cX11_checked 54 = .ok (.aload_n 0, 1) := by decide +kernel
theorem dX11_checked_55 : decode cX11_checked 55 = .ok (.getfield 12, 3) := by decide +kernel
theorem dX11_checked_58 : decode cX11_checked 58 = .ok (.getfield 140, 3) := by decide +kernel
theorem dX11_checked_61 : decode cX11_checked 61 = .ok (.iload_n 1, 1) := by decide +kernel
theorem dX11_checked_62 : decode cX11_checked 62 = .ok (.invokevirtual 187, 3) := by decide +kernel
theorem dX11_checked_65 : decode cX11_checked 65 = .ok (.aload_n 0, 1) := by decide +kernel
theorem dX11_checked_66 : decode cX11_checked 66 = .ok (.getfield 12, 3) := by decide +kernel
theorem dX11_checked_69 : decode cX11_checked 69 = .ok (.getfield 83, 3) := by decide +kernel
theorem dX11_checked_72 : decode cX11_checked 72 = .ok (.iload_n 1, 1) := by decide +kernel
theorem dX11_checked_73 : decode cX11_checked 73 = .ok (.invokevirtual 190, 3) := by decide +kernel
theorem dX11_checked_76 : decode cX11_checked 76 = .ok (.ifCond .eq 7, 3) := by decide +kernel
theorem dX11_checked_79 : decode cX11_checked 79 = .ok (.iconst 1, 1) := by decide +kernel
theorem dX11_checked_80 : decode cX11_checked 80 = .ok (.goto 4, 3) := by decide +kernel
theorem dX11_checked_83 : decode cX11_checked 83 = .ok (.iconst 0, 1) := by decide +kernel
theorem dX11_checked_84 : decode cX11_checked 84 = .ok (.ireturn, 1) := by decide +kernel
set_option maxRecDepth 20000 in
theorem ggX11_value_X11_floatPattern : GoodIn wsX11_value wsX11_floatPattern := goodIn_r _ [7, 8] (by decide +kernel) (by decide +kernel)
set_option maxRecDepth 20000 in
theorem gX11_value_X11_floatPattern : GoodIn wsX11_value (va_wsS RX11 194 yX11_floatPattern wsX11_floatPattern) := goodIn_app (goodIn_of _ (by decide +kernel)) ggX11_value_X11_floatPattern
set_option maxRecDepth 20000 in
theorem ggX11_value_X7_atPoint : GoodIn wsX11_value wsX7_atPoint := goodIn_r _ [13, 14, 15, 16, 12, 17, 18, 19, 20, 21, 22, 23, 24, 25, 26, 27, 28, 29, 30, 31, 32, 33, 34, 35, 36, 37, 38, 39, 40, 41, 42, 43, 44, 45, 46, 47, 48, 49, 50, 51, 52, 53, 54, 55, 56, 57, 58, 59, 60, 61, 62, 63, 80, 81, 82, 83, 84, 85] (by decide +kernel) (by decide +kernel)
set_option maxRecDepth 20000 in
theorem gX11_value_X7_atPoint : GoodIn wsX11_value (wsV RX11 198 RX7 yX7_atPoint wsX7_atPoint) := goodIn_app (goodIn_of _ (by decide +kernel)) ggX11_value_X7_atPoint
theorem dX11_value_0 : decode cX11_value 0 = .ok (.aload_n 0, 1) := by decide +kernel
theorem dX11_value_1 : decode cX11_value 1 = .ok (.getfield 44, 3) := by decide +kernel
theorem dX11_value_4 : decode cX11_value 4 = .ok (.aload_n 0, 1) := by decide +kernel
theorem dX11_value_5 : decode cX11_value 5 = .ok (.getfield 12, 3) := by decide +kernel
theorem dX11_value_8 : decode cX11_value 8 = .ok (.getfield 83, 3) := by decide +kernel
theorem dX11_value_11 : decode cX11_value 11 = .ok (.iload_n 1, 1) := by decide +kernel
theorem dX11_value_12 : decode cX11_value 12 = .ok (.invokestatic 194, 3) := by decide +kernel
theorem dX11_value_15 : decode cX11_value 15 = .ok (.invokevirtual 198, 3) := by decide +kernel
theorem dX11_value_18 : decode cX11_value 18 = .ok (.l2i, 1) := by decide +kernel
theorem dX11_value_19 : decode cX11_value 19 = .ok (.ireturn, 1) := by decide +kernel
set_option maxRecDepth 20000 in
theorem ggX11_slope_X11_floatPattern : GoodIn wsX11_slope wsX11_floatPattern := goodIn_r _ [7, 8] (by decide +kernel) (by decide +kernel)
set_option maxRecDepth 20000 in
theorem gX11_slope_X11_floatPattern : GoodIn wsX11_slope (va_wsS RX11 194 yX11_floatPattern wsX11_floatPattern) := goodIn_app (goodIn_of _ (by decide +kernel)) ggX11_slope_X11_floatPattern
set_option maxRecDepth 20000 in
theorem ggX11_slope_X7_risingAt : GoodIn wsX11_slope wsX7_risingAt := goodIn_r _ [13, 14, 15, 16, 12, 17, 18, 19, 20, 21, 22, 23, 24, 25, 26, 27, 28, 29, 30, 31, 32, 33, 34, 35, 36, 37, 38, 39, 40, 41, 42, 43, 44, 45, 46, 47, 48, 49, 50, 51, 52, 53, 54, 55, 56, 57, 58, 59, 60, 61, 62, 63, 80, 81, 82, 83, 84, 85] (by decide +kernel) (by decide +kernel)
set_option maxRecDepth 20000 in
theorem gX11_slope_X7_risingAt : GoodIn wsX11_slope (wsV RX11 202 RX7 yX7_risingAt wsX7_risingAt) := goodIn_app (goodIn_of _ (by decide +kernel)) ggX11_slope_X7_risingAt
theorem dX11_slope_0 : decode cX11_slope 0 = .ok (.aload_n 0, 1) := by decide +kernel
theorem dX11_slope_1 : decode cX11_slope 1 = .ok (.getfield 44, 3) := by decide +kernel
theorem dX11_slope_4 : decode cX11_slope 4 = .ok (.aload_n 0, 1) := by decide +kernel
theorem dX11_slope_5 : decode cX11_slope 5 = .ok (.getfield 12, 3) := by decide +kernel
theorem dX11_slope_8 : decode cX11_slope 8 = .ok (.getfield 83, 3) := by decide +kernel
theorem dX11_slope_11 : decode cX11_slope 11 = .ok (.iload_n 1, 1) := by decide +kernel
theorem dX11_slope_12 : decode cX11_slope 12 = .ok (.invokestatic 194, 3) := by decide +kernel
theorem dX11_slope_15 : decode cX11_slope 15 = .ok (.invokevirtual 202, 3) := by decide +kernel
theorem dX11_slope_18 : decode cX11_slope 18 = .ok (.l2i, 1) := by decide +kernel
theorem dX11_slope_19 : decode cX11_slope 19 = .ok (.ireturn, 1) := by decide +kernel
set_option maxRecDepth 20000 in
theorem ggX11_steps_X11_within : GoodIn wsX11_steps wsX11_within := goodIn_r _ [7] (by decide +kernel) (by decide +kernel)
set_option maxRecDepth 20000 in
theorem gX11_steps_X11_within : GoodIn wsX11_steps (va_wsS RX11 79 yX11_within wsX11_within) := goodIn_app (goodIn_of _ (by decide +kernel)) ggX11_steps_X11_within
set_option maxRecDepth 20000 in
theorem ggX11_steps_X11_floatPattern : GoodIn wsX11_steps wsX11_floatPattern := goodIn_r _ [10, 11] (by decide +kernel) (by decide +kernel)
set_option maxRecDepth 20000 in
theorem gX11_steps_X11_floatPattern : GoodIn wsX11_steps (va_wsS RX11 194 yX11_floatPattern wsX11_floatPattern) := goodIn_app (goodIn_of _ (by decide +kernel)) ggX11_steps_X11_floatPattern
set_option maxRecDepth 20000 in
theorem ggX11_steps_X7_towardsNought : GoodIn wsX11_steps wsX7_towardsNought := goodIn_r _ [16, 17, 18, 19, 20, 21, 22, 15, 23, 24, 25, 26, 27, 28, 29, 30, 31, 32, 33, 34, 35, 36, 37, 38, 39, 40, 41, 42, 43, 44, 45, 46, 47, 48, 49, 50, 51, 52, 53, 54, 55, 56, 57, 58, 59, 60, 61, 62, 63, 64, 65, 66, 67, 68, 69, 70, 71, 72, 73, 74, 75, 76, 77, 78, 95, 96, 97, 98, 99, 100] (by decide +kernel) (by decide +kernel)
set_option maxRecDepth 20000 in
theorem gX11_steps_X7_towardsNought : GoodIn wsX11_steps (wsV RX11 205 RX7 yX7_towardsNought wsX7_towardsNought) := goodIn_app (goodIn_of _ (by decide +kernel)) ggX11_steps_X7_towardsNought
theorem dX11_steps_0 : decode cX11_steps 0 = .ok (.iload_n 2, 1) := by decide +kernel
theorem dX11_steps_1 : decode cX11_steps 1 = .ok (.iconst 0, 1) := by decide +kernel
theorem dX11_steps_2 : decode cX11_steps 2 = .ok (.bipush 20, 2) := by decide +kernel
theorem dX11_steps_4 : decode cX11_steps 4 = .ok (.invokestatic 79, 3) := by decide +kernel
theorem dX11_steps_7 : decode cX11_steps 7 = .ok (.ifCond .eq 26, 3) := by decide +kernel
theorem dX11_steps_10 : decode cX11_steps 10 = .ok (.aload_n 0, 1) := by decide +kernel
theorem dX11_steps_11 : decode cX11_steps 11 = .ok (.getfield 44, 3) := by decide +kernel
theorem dX11_steps_14 : decode cX11_steps 14 = .ok (.aload_n 0, 1) := by decide +kernel
theorem dX11_steps_15 : decode cX11_steps 15 = .ok (.getfield 12, 3) := by decide +kernel
theorem dX11_steps_18 : decode cX11_steps 18 = .ok (.getfield 83, 3) := by decide +kernel
theorem dX11_steps_21 : decode cX11_steps 21 = .ok (.iload_n 1, 1) := by decide +kernel
theorem dX11_steps_22 : decode cX11_steps 22 = .ok (.invokestatic 194, 3) := by decide +kernel
theorem dX11_steps_25 : decode cX11_steps 25 = .ok (.iload_n 2, 1) := by decide +kernel
theorem dX11_steps_26 : decode cX11_steps 26 = .ok (.invokevirtual 205, 3) := by decide +kernel
theorem dX11_steps_29 : decode cX11_steps 29 = .ok (.l2i, 1) := by decide +kernel
theorem dX11_steps_30 : decode cX11_steps 30 = .ok (.goto 5, 3) := by decide +kernel
theorem dX11_steps_33 : decode cX11_steps 33 = .ok (.bipush (-2), 2) := by decide +kernel
theorem dX11_steps_35 : decode cX11_steps 35 = .ok (.ireturn, 1) := by decide +kernel
set_option maxRecDepth 20000 in
theorem ggX11_cut_X11_floatPattern : GoodIn wsX11_cut wsX11_floatPattern := goodIn_r _ [7, 8] (by decide +kernel) (by decide +kernel)
set_option maxRecDepth 20000 in
theorem gX11_cut_X11_floatPattern : GoodIn wsX11_cut (va_wsS RX11 194 yX11_floatPattern wsX11_floatPattern) := goodIn_app (goodIn_of _ (by decide +kernel)) ggX11_cut_X11_floatPattern
set_option maxRecDepth 20000 in
theorem ggX11_cut_X7_atPoint : GoodIn wsX11_cut wsX7_atPoint := goodIn_r _ [13, 14, 15, 16, 12, 17, 18, 19, 20, 21, 22, 23, 24, 25, 26, 27, 28, 29, 30, 31, 32, 33, 34, 35, 36, 37, 38, 39, 40, 41, 42, 43, 44, 45, 46, 47, 48, 49, 50, 51, 52, 53, 54, 55, 56, 57, 58, 59, 60, 61, 62, 63, 86, 87, 88, 89, 90, 91] (by decide +kernel) (by decide +kernel)
set_option maxRecDepth 20000 in
theorem gX11_cut_X7_atPoint : GoodIn wsX11_cut (wsV RX11 198 RX7 yX7_atPoint wsX7_atPoint) := goodIn_app (goodIn_of _ (by decide +kernel)) ggX11_cut_X7_atPoint
set_option maxRecDepth 20000 in
theorem ggX11_cut_X7_cutToInt : GoodIn wsX11_cut wsX7_cutToInt := goodIn_r _ [67, 19, 18, 68, 69, 21, 22, 23, 12, 24, 39, 40, 41, 42, 29, 43, 30, 31, 32, 33, 25, 26, 27, 28, 86, 87, 88, 89, 90, 91] (by decide +kernel) (by decide +kernel)
set_option maxRecDepth 20000 in
theorem gX11_cut_X7_cutToInt : GoodIn wsX11_cut (wsV RX11 209 RX7 yX7_cutToInt wsX7_cutToInt) := goodIn_app (goodIn_of _ (by decide +kernel)) ggX11_cut_X7_cutToInt
theorem dX11_cut_0 : decode cX11_cut 0 = .ok (.aload_n 0, 1) := by decide +kernel
theorem dX11_cut_1 : decode cX11_cut 1 = .ok (.getfield 44, 3) := by decide +kernel
theorem dX11_cut_4 : decode cX11_cut 4 = .ok (.aload_n 0, 1) := by decide +kernel
theorem dX11_cut_5 : decode cX11_cut 5 = .ok (.getfield 44, 3) := by decide +kernel
theorem dX11_cut_8 : decode cX11_cut 8 = .ok (.aload_n 0, 1) := by decide +kernel
theorem dX11_cut_9 : decode cX11_cut 9 = .ok (.getfield 12, 3) := by decide +kernel
theorem dX11_cut_12 : decode cX11_cut 12 = .ok (.getfield 83, 3) := by decide +kernel
theorem dX11_cut_15 : decode cX11_cut 15 = .ok (.iload_n 1, 1) := by decide +kernel
theorem dX11_cut_16 : decode cX11_cut 16 = .ok (.invokestatic 194, 3) := by decide +kernel
theorem dX11_cut_19 : decode cX11_cut 19 = .ok (.invokevirtual 198, 3) := by decide +kernel
theorem dX11_cut_22 : decode cX11_cut 22 = .ok (.invokevirtual 209, 3) := by decide +kernel
theorem dX11_cut_25 : decode cX11_cut 25 = .ok (.ireturn, 1) := by decide +kernel
set_option maxRecDepth 20000 in
theorem ggX11_valued_X7_atPoint : GoodIn wsX11_valued wsX7_atPoint := goodIn_r _ [8, 9, 10, 11, 7, 12, 13, 14, 15, 16, 17, 18, 19, 20, 21, 22, 23, 24, 25, 26, 27, 28, 29, 30, 31, 32, 33, 34, 35, 36, 37, 38, 39, 40, 41, 42, 43, 44, 45, 46, 47, 48, 49, 50, 51, 52, 53, 54, 55, 56, 57, 58, 75, 76, 77, 78, 79, 80] (by decide +kernel) (by decide +kernel)
set_option maxRecDepth 20000 in
theorem gX11_valued_X7_atPoint : GoodIn wsX11_valued (wsV RX11 198 RX7 yX7_atPoint wsX7_atPoint) := goodIn_app (goodIn_of _ (by decide +kernel)) ggX11_valued_X7_atPoint
theorem dX11_valued_0 : decode cX11_valued 0 = .ok (.aload_n 0, 1) := by decide +kernel
theorem dX11_valued_1 : decode cX11_valued 1 = .ok (.getfield 48, 3) := by decide +kernel
theorem dX11_valued_4 : decode cX11_valued 4 = .ok (.aload_n 0, 1) := by decide +kernel
theorem dX11_valued_5 : decode cX11_valued 5 = .ok (.getfield 12, 3) := by decide +kernel
theorem dX11_valued_8 : decode cX11_valued 8 = .ok (.getfield 83, 3) := by decide +kernel
theorem dX11_valued_11 : decode cX11_valued 11 = .ok (.lload_n 1, 1) := by decide +kernel
theorem dX11_valued_12 : decode cX11_valued 12 = .ok (.invokevirtual 198, 3) := by decide +kernel
theorem dX11_valued_15 : decode cX11_valued 15 = .ok (.lreturn, 1) := by decide +kernel
set_option maxRecDepth 20000 in
theorem ggX11_narrowed_X7_atPoint : GoodIn wsX11_narrowed wsX7_atPoint := goodIn_r _ [9, 10, 11, 12, 8, 13, 14, 15, 16, 17, 18, 19, 20, 21, 22, 23, 24, 25, 26, 27, 28, 29, 30, 31, 32, 33, 34, 35, 36, 37, 38, 39, 40, 41, 42, 43, 44, 45, 46, 47, 48, 49, 50, 51, 52, 53, 54, 55, 56, 57, 58, 59, 80, 81, 82, 83, 84, 85] (by decide +kernel) (by decide +kernel)
set_option maxRecDepth 20000 in
theorem gX11_narrowed_X7_atPoint : GoodIn wsX11_narrowed (wsV RX11 198 RX7 yX7_atPoint wsX7_atPoint) := goodIn_app (goodIn_of _ (by decide +kernel)) ggX11_narrowed_X7_atPoint
set_option maxRecDepth 20000 in
theorem ggX11_narrowed_X7_likeOther : GoodIn wsX11_narrowed wsX7_likeOther := goodIn_r _ [63, 15, 16, 14, 17, 18, 19, 8, 20, 35, 36, 37, 38, 25, 39, 26, 27, 28, 29, 21, 22, 23, 24, 40, 41, 42, 43, 44, 80, 81, 82, 83, 84, 85] (by decide +kernel) (by decide +kernel)
set_option maxRecDepth 20000 in
theorem gX11_narrowed_X7_likeOther : GoodIn wsX11_narrowed (wsV RX11 212 RX7 yX7_likeOther wsX7_likeOther) := goodIn_app (goodIn_of _ (by decide +kernel)) ggX11_narrowed_X7_likeOther
theorem dX11_narrowed_0 : decode cX11_narrowed 0 = .ok (.aload_n 0, 1) := by decide +kernel
theorem dX11_narrowed_1 : decode cX11_narrowed 1 = .ok (.getfield 44, 3) := by decide +kernel
theorem dX11_narrowed_4 : decode cX11_narrowed 4 = .ok (.aload_n 0, 1) := by decide +kernel
theorem dX11_narrowed_5 : decode cX11_narrowed 5 = .ok (.getfield 48, 3) := by decide +kernel
theorem dX11_narrowed_8 : decode cX11_narrowed 8 = .ok (.aload_n 0, 1) := by decide +kernel
theorem dX11_narrowed_9 : decode cX11_narrowed 9 = .ok (.getfield 48, 3) := by decide +kernel
theorem dX11_narrowed_12 : decode cX11_narrowed 12 = .ok (.aload_n 0, 1) := by decide +kernel
theorem dX11_narrowed_13 : decode cX11_narrowed 13 = .ok (.getfield 12, 3) := by decide +kernel
theorem dX11_narrowed_16 : decode cX11_narrowed 16 = .ok (.getfield 83, 3) := by decide +kernel
theorem dX11_narrowed_19 : decode cX11_narrowed 19 = .ok (.lload_n 1, 1) := by decide +kernel
theorem dX11_narrowed_20 : decode cX11_narrowed 20 = .ok (.invokevirtual 198, 3) := by decide +kernel
theorem dX11_narrowed_23 : decode cX11_narrowed 23 = .ok (.invokevirtual 212, 3) := by decide +kernel
theorem dX11_narrowed_26 : decode cX11_narrowed 26 = .ok (.l2i, 1) := by decide +kernel
theorem dX11_narrowed_27 : decode cX11_narrowed 27 = .ok (.ireturn, 1) := by decide +kernel
set_option maxRecDepth 20000 in
theorem ggX11_plan_X11_within : GoodIn wsX11_plan wsX11_within := goodIn_r _ [7] (by decide +kernel) (by decide +kernel)
set_option maxRecDepth 20000 in
theorem gX11_plan_X11_within : GoodIn wsX11_plan (va_wsS RX11 79 yX11_within wsX11_within) := goodIn_app (goodIn_of _ (by decide +kernel)) ggX11_plan_X11_within
set_option maxRecDepth 20000 in
theorem ggX11_plan_X5_append : GoodIn wsX11_plan wsX5_append := goodIn_r _ [12, 13, 14, 15, 32, 33, 34] (by decide +kernel) (by decide +kernel)
set_option maxRecDepth 20000 in
theorem gX11_plan_X5_append : GoodIn wsX11_plan (wsV RX11 225 RX5 yX5_append wsX5_append) := goodIn_app (goodIn_of _ (by decide +kernel)) ggX11_plan_X5_append
theorem dX11_plan_0 : decode cX11_plan 0 = .ok (.iload_n 1, 1) := by decide +kernel
theorem dX11_plan_1 : decode cX11_plan 1 = .ok (.iconst 0, 1) := by decide +kernel
theorem dX11_plan_2 : decode cX11_plan 2 = .ok (.iconst 4, 1) := by decide +kernel
theorem dX11_plan_3 : decode cX11_plan 3 = .ok (.invokestatic 79, 3) := by decide +kernel
theorem dX11_plan_6 : decode cX11_plan 6 = .ok (.ifCond .ne 5, 3) := by decide +kernel
theorem dX11_plan_9 : decode cX11_plan 9 = .ok (.iconst (-1), 1) := by decide +kernel
theorem dX11_plan_10 : decode cX11_plan 10 = .ok (.ireturn, 1) := by decide +kernel
theorem dX11_plan_11 : decode cX11_plan 11 = .ok (.iload_n 2, 1) := by decide +kernel
theorem dX11_plan_12 : decode cX11_plan 12 = .ok (.bipush (-99), 2) := by decide +kernel
theorem dX11_plan_14 : decode cX11_plan 14 = .ok (.bipush 99, 2) := by decide +kernel
theorem dX11_plan_16 : decode cX11_plan 16 = .ok (.invokestatic 79, 3) := by decide +kernel
theorem dX11_plan_19 : decode cX11_plan 19 = .ok (.ifCond .ne 6, 3) := by decide +kernel
theorem dX11_plan_22 : decode cX11_plan 22 = .ok (.bipush (-2), 2) := by decide +kernel
theorem dX11_plan_24 : decode cX11_plan 24 = .ok (.ireturn, 1) := by decide +kernel
theorem dX11_plan_25 : decode cX11_plan 25 = .ok (.aload_n 0, 1) := by decide +kernel
theorem dX11_plan_26 : decode cX11_plan 26 = .ok (.getfield 12, 3) := by decide +kernel
theorem dX11_plan_29 : decode cX11_plan 29 = .ok (.getfield 218, 3) := by decide +kernel
theorem dX11_plan_32 : decode cX11_plan 32 = .ok (.getfield 222, 3) := by decide +kernel
theorem dX11_plan_35 : decode cX11_plan 35 = .ok (.bipush 8, 2) := by decide +kernel
theorem dX11_plan_37 : decode cX11_plan 37 = .ok (.if_icmp .lt 6, 3) := by decide +kernel
theorem dX11_plan_40 : decode cX11_plan 40 = .ok (.bipush (-4), 2) := by decide +kernel
theorem dX11_plan_42 : decode cX11_plan 42 = .ok (.ireturn, 1) := by decide +kernel
