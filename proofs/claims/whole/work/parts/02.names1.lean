set_option maxRecDepth 20000 in
theorem ggX0_init_X4_init : GoodIn wsX0_init wsX4_init := goodIn_r _ [16, 17, 2, 3, 8, 18, 19] (by decide +kernel) (by decide +kernel)
set_option maxRecDepth 20000 in
theorem gX0_init_X4_init_n11 : GoodIn wsX0_init (wsX4_init) := ggX0_init_X4_init
theorem dX0_init_0 : decode cX0_init 0 = .ok (.aload_n 0, 1) := by decide +kernel
theorem dX0_init_1 : decode cX0_init 1 = .ok (.invokespecial 3, 3) := by decide +kernel
theorem dX0_init_4 : decode cX0_init 4 = .ok (.aload_n 0, 1) := by decide +kernel
theorem dX0_init_5 : decode cX0_init 5 = .ok (.new 9, 3) := by decide +kernel
theorem dX0_init_8 : decode cX0_init 8 = .ok (.dup, 1) := by decide +kernel
theorem dX0_init_9 : decode cX0_init 9 = .ok (.invokespecial 11, 3) := by decide +kernel
theorem dX0_init_12 : decode cX0_init 12 = .ok (.putfield 12, 3) := by decide +kernel
theorem dX0_init_15 : decode cX0_init 15 = .ok (.aload_n 0, 1) := by decide +kernel
theorem dX0_init_16 : decode cX0_init 16 = .ok (.bipush 9, 2) := by decide +kernel
theorem dX0_init_18 : decode cX0_init 18 = .ok (.newarray .int, 2) := by decide +kernel
theorem dX0_init_20 : decode cX0_init 20 = .ok (.putfield 18, 3) := by decide +kernel
theorem dX0_init_23 : decode cX0_init 23 = .ok (.aload_n 0, 1) := by decide +kernel
theorem dX0_init_24 : decode cX0_init 24 = .ok (.iconst (-1), 1) := by decide +kernel
theorem dX0_init_25 : decode cX0_init 25 = .ok (.putfield 22, 3) := by decide +kernel
theorem dX0_init_28 : decode cX0_init 28 = .ok (.aload_n 0, 1) := by decide +kernel
theorem dX0_init_29 : decode cX0_init 29 = .ok (.bipush 9, 2) := by decide +kernel
theorem dX0_init_31 : decode cX0_init 31 = .ok (.newarray .int, 2) := by decide +kernel
theorem dX0_init_33 : decode cX0_init 33 = .ok (.putfield 26, 3) := by decide +kernel
theorem dX0_init_36 : decode cX0_init 36 = .ok (.aload_n 0, 1) := by decide +kernel
theorem dX0_init_37 : decode cX0_init 37 = .ok (.bipush 9, 2) := by decide +kernel
theorem dX0_init_39 : decode cX0_init 39 = .ok (.newarray .int, 2) := by decide +kernel
theorem dX0_init_41 : decode cX0_init 41 = .ok (.putfield 29, 3) := by decide +kernel
theorem dX0_init_44 : decode cX0_init 44 = .ok (.aload_n 0, 1) := by decide +kernel
theorem dX0_init_45 : decode cX0_init 45 = .ok (.bipush 9, 2) := by decide +kernel
theorem dX0_init_47 : decode cX0_init 47 = .ok (.newarray .int, 2) := by decide +kernel
theorem dX0_init_49 : decode cX0_init 49 = .ok (.putfield 32, 3) := by decide +kernel
theorem dX0_init_52 : decode cX0_init 52 = .ok (.aload_n 0, 1) := by decide +kernel
theorem dX0_init_53 : decode cX0_init 53 = .ok (.bipush 9, 2) := by decide +kernel
theorem dX0_init_55 : decode cX0_init 55 = .ok (.newarray .int, 2) := by decide +kernel
theorem dX0_init_57 : decode cX0_init 57 = .ok (.putfield 35, 3) := by decide +kernel
theorem dX0_init_60 : decode cX0_init 60 = .ok (.return_, 1) := by decide +kernel
theorem dX0_isThere_0 : decode cX0_isThere 0 = .ok (.aload_n 0, 1) := by decide +kernel
theorem dX0_isThere_1 : decode cX0_isThere 1 = .ok (.getfield 22, 3) := by decide +kernel
theorem dX0_isThere_4 : decode cX0_isThere 4 = .ok (.ifCond .lt 7, 3) := by decide +kernel
theorem dX0_isThere_7 : decode cX0_isThere 7 = .ok (.iconst 1, 1) := by decide +kernel
theorem dX0_isThere_8 : decode cX0_isThere 8 = .ok (.goto 4, 3) := by decide +kernel
theorem dX0_isThere_11 : decode cX0_isThere 11 = .ok (.iconst 0, 1) := by decide +kernel
theorem dX0_isThere_12 : decode cX0_isThere 12 = .ok (.ireturn, 1) := by decide +kernel
set_option maxRecDepth 20000 in
theorem ggX0_become_X4_become : GoodIn wsX0_become wsX4_become := goodIn_r _ [12, 13, 14, 4, 5, 6, 22] (by decide +kernel) (by decide +kernel)
set_option maxRecDepth 20000 in
theorem gX0_become_X4_become : GoodIn wsX0_become (wsV RX0 38 RX4 yX4_become wsX4_become) := goodIn_app (goodIn_of _ (by decide +kernel)) ggX0_become_X4_become
theorem dX0_become_0 : decode cX0_become 0 = .ok (.aload_n 0, 1) := by decide +kernel
theorem dX0_become_1 : decode cX0_become 1 = .ok (.getfield 12, 3) := by decide +kernel
theorem dX0_become_4 : decode cX0_become 4 = .ok (.aload_n 1, 1) := by decide +kernel
theorem dX0_become_5 : decode cX0_become 5 = .ok (.getfield 12, 3) := by decide +kernel
theorem dX0_become_8 : decode cX0_become 8 = .ok (.invokevirtual 38, 3) := by decide +kernel
theorem dX0_become_11 : decode cX0_become 11 = .ok (.aload_n 1, 1) := by decide +kernel
theorem dX0_become_12 : decode cX0_become 12 = .ok (.getfield 18, 3) := by decide +kernel
theorem dX0_become_15 : decode cX0_become 15 = .ok (.iconst 0, 1) := by decide +kernel
theorem dX0_become_16 : decode cX0_become 16 = .ok (.aload_n 0, 1) := by decide +kernel
theorem dX0_become_17 : decode cX0_become 17 = .ok (.getfield 18, 3) := by decide +kernel
theorem dX0_become_20 : decode cX0_become 20 = .ok (.iconst 0, 1) := by decide +kernel
theorem dX0_become_21 : decode cX0_become 21 = .ok (.bipush 9, 2) := by decide +kernel
theorem dX0_become_23 : decode cX0_become 23 = .ok (.invokestatic 42, 3) := by decide +kernel
theorem dX0_become_26 : decode cX0_become 26 = .ok (.aload_n 0, 1) := by decide +kernel
theorem dX0_become_27 : decode cX0_become 27 = .ok (.aload_n 1, 1) := by decide +kernel
theorem dX0_become_28 : decode cX0_become 28 = .ok (.getfield 22, 3) := by decide +kernel
theorem dX0_become_31 : decode cX0_become 31 = .ok (.putfield 22, 3) := by decide +kernel
theorem dX0_become_34 : decode cX0_become 34 = .ok (.return_, 1) := by decide +kernel
set_option maxRecDepth 20000 in
theorem ggX0_forget_J7_fill_53178 : GoodIn wsX0_forget wsJ7_fill_53178 := goodIn_r _ [8] (by decide +kernel) (by decide +kernel)
set_option maxRecDepth 20000 in
theorem gX0_forget_J7_fill_53178 : GoodIn wsX0_forget (va_wsS RX0 51 yJ7_fill_53178 wsJ7_fill_53178) := goodIn_app (goodIn_of _ (by decide +kernel)) ggX0_forget_J7_fill_53178
theorem dX0_forget_0 : decode cX0_forget 0 = .ok (.aload_n 0, 1) := by decide +kernel
theorem dX0_forget_1 : decode cX0_forget 1 = .ok (.getfield 12, 3) := by decide +kernel
theorem dX0_forget_4 : decode cX0_forget 4 = .ok (.getfield 48, 3) := by decide +kernel
theorem dX0_forget_7 : decode cX0_forget 7 = .ok (.iconst 0, 1) := by decide +kernel
theorem dX0_forget_8 : decode cX0_forget 8 = .ok (.invokestatic 51, 3) := by decide +kernel
theorem dX0_forget_11 : decode cX0_forget 11 = .ok (.aload_n 0, 1) := by decide +kernel
theorem dX0_forget_12 : decode cX0_forget 12 = .ok (.getfield 18, 3) := by decide +kernel
theorem dX0_forget_15 : decode cX0_forget 15 = .ok (.iconst 0, 1) := by decide +kernel
theorem dX0_forget_16 : decode cX0_forget 16 = .ok (.invokestatic 51, 3) := by decide +kernel
theorem dX0_forget_19 : decode cX0_forget 19 = .ok (.aload_n 0, 1) := by decide +kernel
theorem dX0_forget_20 : decode cX0_forget 20 = .ok (.iconst (-1), 1) := by decide +kernel
theorem dX0_forget_21 : decode cX0_forget 21 = .ok (.putfield 22, 3) := by decide +kernel
theorem dX0_forget_24 : decode cX0_forget 24 = .ok (.return_, 1) := by decide +kernel
set_option maxRecDepth 20000 in
theorem ggX0_at_X3_fold : GoodIn wsX0_at wsX3_fold := goodIn_r _ [5, 6] (by decide +kernel) (by decide +kernel)
set_option maxRecDepth 20000 in
theorem gX0_at_X3_fold : GoodIn wsX0_at (va_wsS RX0 57 yX3_fold wsX3_fold) := goodIn_app (goodIn_of _ (by decide +kernel)) ggX0_at_X3_fold
theorem dX0_at_0 : decode cX0_at 0 = .ok (.lconst 0, 1) := by decide +kernel
theorem dX0_at_1 : decode cX0_at 1 = .ok (.lstore_n 2, 1) := by decide +kernel
theorem dX0_at_2 : decode cX0_at 2 = .ok (.bipush 8, 2) := by decide +kernel
theorem dX0_at_4 : decode cX0_at 4 = .ok (.istore 4, 2) := by decide +kernel
theorem dX0_at_6 : decode cX0_at 6 = .ok (.iload 4, 2) := by decide +kernel
theorem dX0_at_8 : decode cX0_at 8 = .ok (.ifCond .lt 27, 3) := by decide +kernel
theorem dX0_at_11 : decode cX0_at 11 = .ok (.lload_n 2, 1) := by decide +kernel
theorem dX0_at_12 : decode cX0_at 12 = .ok (.iload_n 1, 1) := by decide +kernel
theorem dX0_at_13 : decode cX0_at 13 = .ok (.i2l, 1) := by decide +kernel
theorem dX0_at_14 : decode cX0_at 14 = .ok (.lmul, 1) := by decide +kernel
theorem dX0_at_15 : decode cX0_at 15 = .ok (.aload_n 0, 1) := by decide +kernel
theorem dX0_at_16 : decode cX0_at 16 = .ok (.getfield 18, 3) := by decide +kernel
theorem dX0_at_19 : decode cX0_at 19 = .ok (.iload 4, 2) := by decide +kernel
theorem dX0_at_21 : decode cX0_at 21 = .ok (.iaload, 1) := by decide +kernel
theorem dX0_at_22 : decode cX0_at 22 = .ok (.i2l, 1) := by decide +kernel
theorem dX0_at_23 : decode cX0_at 23 = .ok (.ladd, 1) := by decide +kernel
theorem dX0_at_24 : decode cX0_at 24 = .ok (.invokestatic 57, 3) := by decide +kernel
theorem dX0_at_27 : decode cX0_at 27 = .ok (.i2l, 1) := by decide +kernel
theorem dX0_at_28 : decode cX0_at 28 = .ok (.lstore_n 2, 1) := by decide +kernel
theorem dX0_at_29 : decode cX0_at 29 = .ok (.iinc 4 (-1), 3) := by decide +kernel
theorem dX0_at_32 : decode cX0_at 32 = .ok (.goto (-26), 3) := by decide +kernel
theorem dX0_at_35 : decode cX0_at 35 = .ok (.lload_n 2, 1) := by decide +kernel
theorem dX0_at_36 : decode cX0_at 36 = .ok (.l2i, 1) := by decide +kernel
theorem dX0_at_37 : decode cX0_at 37 = .ok (.ireturn, 1) := by decide +kernel
set_option maxRecDepth 20000 in
theorem ggX0_gatherRoots_X3_inverse : GoodIn wsX0_gatherRoots wsX3_inverse := goodIn_r _ [7, 8, 9, 6, 10, 11] (by decide +kernel) (by decide +kernel)
set_option maxRecDepth 20000 in
theorem gX0_gatherRoots_X3_inverse : GoodIn wsX0_gatherRoots (va_wsS RX0 63 yX3_inverse wsX3_inverse) := goodIn_app (goodIn_of _ (by decide +kernel)) ggX0_gatherRoots_X3_inverse
set_option maxRecDepth 20000 in
theorem ggX0_gatherRoots_X0_lowest : GoodIn wsX0_gatherRoots wsX0_lowest := goodIn_r _ [15] (by decide +kernel) (by decide +kernel)
set_option maxRecDepth 20000 in
theorem gX0_gatherRoots_X0_lowest : GoodIn wsX0_gatherRoots (va_wsS RX0 67 yX0_lowest wsX0_lowest) := goodIn_app (goodIn_of _ (by decide +kernel)) ggX0_gatherRoots_X0_lowest
set_option maxRecDepth 20000 in
theorem ggX0_gatherRoots_X3_fold : GoodIn wsX0_gatherRoots wsX3_fold := goodIn_r _ [10, 11] (by decide +kernel) (by decide +kernel)
set_option maxRecDepth 20000 in
theorem gX0_gatherRoots_X3_fold : GoodIn wsX0_gatherRoots (va_wsS RX0 57 yX3_fold wsX3_fold) := goodIn_app (goodIn_of _ (by decide +kernel)) ggX0_gatherRoots_X3_fold
set_option maxRecDepth 20000 in
theorem ggX0_gatherRoots_X0_timesDivided : GoodIn wsX0_gatherRoots wsX0_timesDivided := goodIn_r _ [20, 21, 22, 23, 24, 25, 26, 27, 28, 29, 30, 14, 31, 16, 9, 6, 10, 11, 32, 33, 34, 35, 36, 37, 38, 39, 40, 41, 42] (by decide +kernel) (by decide +kernel)
set_option maxRecDepth 20000 in
theorem gX0_gatherRoots_X0_timesDivided : GoodIn wsX0_gatherRoots (wsV RX0 71 RX0 yX0_timesDivided wsX0_timesDivided) := goodIn_app (goodIn_of _ (by decide +kernel)) ggX0_gatherRoots_X0_timesDivided
theorem dX0_gatherRoots_0 : decode cX0_gatherRoots 0 = .ok (.iconst 0, 1) := by decide +kernel
theorem dX0_gatherRoots_1 : decode cX0_gatherRoots 1 = .ok (.istore_n 1, 1) := by decide +kernel
theorem dX0_gatherRoots_2 : decode cX0_gatherRoots 2 = .ok (.iconst 1, 1) := by decide +kernel
theorem dX0_gatherRoots_3 : decode cX0_gatherRoots 3 = .ok (.istore_n 2, 1) := by decide +kernel
theorem dX0_gatherRoots_4 : decode cX0_gatherRoots 4 = .ok (.iload_n 2, 1) := by decide +kernel
theorem dX0_gatherRoots_5 : decode cX0_gatherRoots 5 = .ok (.bipush 6, 2) := by decide +kernel
theorem dX0_gatherRoots_7 : decode cX0_gatherRoots 7 = .ok (.if_icmp .gt 96, 3) := by decide +kernel
theorem dX0_gatherRoots_10 : decode cX0_gatherRoots 10 = .ok (.iload_n 2, 1) := by decide +kernel
theorem dX0_gatherRoots_11 : decode cX0_gatherRoots 11 = .ok (.invokestatic 63, 3) := by decide +kernel
theorem dX0_gatherRoots_14 : decode cX0_gatherRoots 14 = .ok (.istore_n 3, 1) := by decide +kernel
theorem dX0_gatherRoots_15 : decode cX0_gatherRoots 15 = .ok (.iconst 0, 1) := by decide +kernel
theorem dX0_gatherRoots_16 : decode cX0_gatherRoots 16 = .ok (.istore 4, 2) := by decide +kernel
theorem dX0_gatherRoots_18 : decode cX0_gatherRoots 18 = .ok (.iload 4, 2) := by decide +kernel
theorem dX0_gatherRoots_20 : decode cX0_gatherRoots 20 = .ok (.bipush 24, 2) := by decide +kernel
theorem dX0_gatherRoots_22 : decode cX0_gatherRoots 22 = .ok (.if_icmp .gt 75, 3) := by decide +kernel
theorem dX0_gatherRoots_25 : decode cX0_gatherRoots 25 = .ok (.iload 4, 2) := by decide +kernel
theorem dX0_gatherRoots_27 : decode cX0_gatherRoots 27 = .ok (.iload_n 2, 1) := by decide +kernel
theorem dX0_gatherRoots_28 : decode cX0_gatherRoots 28 = .ok (.invokestatic 67, 3) := by decide +kernel
theorem dX0_gatherRoots_31 : decode cX0_gatherRoots 31 = .ok (.ifCond .eq 20, 3) := by decide +kernel
theorem dX0_gatherRoots_34 : decode cX0_gatherRoots 34 = .ok (.aload_n 0, 1) := by decide +kernel
theorem dX0_gatherRoots_35 : decode cX0_gatherRoots 35 = .ok (.iload 4, 2) := by decide +kernel
theorem dX0_gatherRoots_37 : decode cX0_gatherRoots 37 = .ok (.i2l, 1) := by decide +kernel
theorem dX0_gatherRoots_38 : decode cX0_gatherRoots 38 = .ok (.lneg, 1) := by decide +kernel
theorem dX0_gatherRoots_39 : decode cX0_gatherRoots 39 = .ok (.iload_n 3, 1) := by decide +kernel
theorem dX0_gatherRoots_40 : decode cX0_gatherRoots 40 = .ok (.i2l, 1) := by decide +kernel
theorem dX0_gatherRoots_41 : decode cX0_gatherRoots 41 = .ok (.lmul, 1) := by decide +kernel
theorem dX0_gatherRoots_42 : decode cX0_gatherRoots 42 = .ok (.invokestatic 57, 3) := by decide +kernel
theorem dX0_gatherRoots_45 : decode cX0_gatherRoots 45 = .ok (.invokevirtual 71, 3) := by decide +kernel
theorem dX0_gatherRoots_48 : decode cX0_gatherRoots 48 = .ok (.goto 4, 3) := by decide +kernel
theorem dX0_gatherRoots_51 : decode cX0_gatherRoots 51 = .ok (.iconst 0, 1) := by decide +kernel
theorem dX0_gatherRoots_52 : decode cX0_gatherRoots 52 = .ok (.istore 5, 2) := by decide +kernel
theorem dX0_gatherRoots_54 : decode cX0_gatherRoots 54 = .ok (.iload 5, 2) := by decide +kernel
theorem dX0_gatherRoots_56 : decode cX0_gatherRoots 56 = .ok (.ifCond .le 35, 3) := by decide +kernel
theorem dX0_gatherRoots_59 : decode cX0_gatherRoots 59 = .ok (.iload_n 1, 1) := by decide +kernel
theorem dX0_gatherRoots_60 : decode cX0_gatherRoots 60 = .ok (.bipush 9, 2) := by decide +kernel
theorem dX0_gatherRoots_62 : decode cX0_gatherRoots 62 = .ok (.if_icmp .ge 29, 3) := by decide +kernel
theorem dX0_gatherRoots_65 : decode cX0_gatherRoots 65 = .ok (.aload_n 0, 1) := by decide +kernel
theorem dX0_gatherRoots_66 : decode cX0_gatherRoots 66 = .ok (.getfield 26, 3) := by decide +kernel
theorem dX0_gatherRoots_69 : decode cX0_gatherRoots 69 = .ok (.iload_n 1, 1) := by decide +kernel
theorem dX0_gatherRoots_70 : decode cX0_gatherRoots 70 = .ok (.iload 4, 2) := by decide +kernel
theorem dX0_gatherRoots_72 : decode cX0_gatherRoots 72 = .ok (.iastore, 1) := by decide +kernel
theorem dX0_gatherRoots_73 : decode cX0_gatherRoots 73 = .ok (.aload_n 0, 1) := by decide +kernel
theorem dX0_gatherRoots_74 : decode cX0_gatherRoots 74 = .ok (.getfield 29, 3) := by decide +kernel
theorem dX0_gatherRoots_77 : decode cX0_gatherRoots 77 = .ok (.iload_n 1, 1) := by decide +kernel
theorem dX0_gatherRoots_78 : decode cX0_gatherRoots 78 = .ok (.iload_n 2, 1) := by decide +kernel
theorem dX0_gatherRoots_79 : decode cX0_gatherRoots 79 = .ok (.iastore, 1) := by decide +kernel
theorem dX0_gatherRoots_80 : decode cX0_gatherRoots 80 = .ok (.aload_n 0, 1) := by decide +kernel
theorem dX0_gatherRoots_81 : decode cX0_gatherRoots 81 = .ok (.getfield 32, 3) := by decide +kernel
theorem dX0_gatherRoots_84 : decode cX0_gatherRoots 84 = .ok (.iload_n 1, 1) := by decide +kernel
theorem dX0_gatherRoots_85 : decode cX0_gatherRoots 85 = .ok (.iload 5, 2) := by decide +kernel
theorem dX0_gatherRoots_87 : decode cX0_gatherRoots 87 = .ok (.iastore, 1) := by decide +kernel
theorem dX0_gatherRoots_88 : decode cX0_gatherRoots 88 = .ok (.iinc 1 1, 3) := by decide +kernel
theorem dX0_gatherRoots_91 : decode cX0_gatherRoots 91 = .ok (.iinc 4 1, 3) := by decide +kernel
theorem dX0_gatherRoots_94 : decode cX0_gatherRoots 94 = .ok (.goto (-76), 3) := by decide +kernel
theorem dX0_gatherRoots_97 : decode cX0_gatherRoots 97 = .ok (.iinc 2 1, 3) := by decide +kernel
theorem dX0_gatherRoots_100 : decode cX0_gatherRoots 100 = .ok (.goto (-96), 3) := by decide +kernel
theorem dX0_gatherRoots_103 : decode cX0_gatherRoots 103 = .ok (.iload_n 1, 1) := by decide +kernel
theorem dX0_gatherRoots_104 : decode cX0_gatherRoots 104 = .ok (.ireturn, 1) := by decide +kernel
theorem dX0_lowest_0 : decode cX0_lowest 0 = .ok (.iconst 2, 1) := by decide +kernel
theorem dX0_lowest_1 : decode cX0_lowest 1 = .ok (.istore_n 2, 1) := by decide +kernel
theorem dX0_lowest_2 : decode cX0_lowest 2 = .ok (.iload_n 2, 1) := by decide +kernel
theorem dX0_lowest_3 : decode cX0_lowest 3 = .ok (.iload_n 1, 1) := by decide +kernel
theorem dX0_lowest_4 : decode cX0_lowest 4 = .ok (.if_icmp .gt 23, 3) := by decide +kernel
theorem dX0_lowest_7 : decode cX0_lowest 7 = .ok (.iload_n 0, 1) := by decide +kernel
theorem dX0_lowest_8 : decode cX0_lowest 8 = .ok (.iload_n 2, 1) := by decide +kernel
theorem dX0_lowest_9 : decode cX0_lowest 9 = .ok (.irem, 1) := by decide +kernel
theorem dX0_lowest_10 : decode cX0_lowest 10 = .ok (.ifCond .ne 11, 3) := by decide +kernel
theorem dX0_lowest_13 : decode cX0_lowest 13 = .ok (.iload_n 1, 1) := by decide +kernel
theorem dX0_lowest_14 : decode cX0_lowest 14 = .ok (.iload_n 2, 1) := by decide +kernel
theorem dX0_lowest_15 : decode cX0_lowest 15 = .ok (.irem, 1) := by decide +kernel
theorem dX0_lowest_16 : decode cX0_lowest 16 = .ok (.ifCond .ne 5, 3) := by decide +kernel
theorem dX0_lowest_19 : decode cX0_lowest 19 = .ok (.iconst 0, 1) := by decide +kernel
theorem dX0_lowest_20 : decode cX0_lowest 20 = .ok (.ireturn, 1) := by decide +kernel
theorem dX0_lowest_21 : decode cX0_lowest 21 = .ok (.iinc 2 1, 3) := by decide +kernel
theorem dX0_lowest_24 : decode cX0_lowest 24 = .ok (.goto (-22), 3) := by decide +kernel
theorem dX0_lowest_27 : decode cX0_lowest 27 = .ok (.iconst 1, 1) := by decide +kernel
theorem dX0_lowest_28 : decode cX0_lowest 28 = .ok (.ireturn, 1) := by decide +kernel
set_option maxRecDepth 20000 in
theorem ggX0_timesDivided_X0_at : GoodIn wsX0_timesDivided wsX0_at := goodIn_r _ [12, 1, 13, 14, 15, 16, 17, 22, 23, 24, 25, 26, 27, 28] (by decide +kernel) (by decide +kernel)
set_option maxRecDepth 20000 in
theorem gX0_timesDivided_X0_at : GoodIn wsX0_timesDivided (wsV RX0 74 RX0 yX0_at wsX0_at) := goodIn_app (goodIn_of _ (by decide +kernel)) ggX0_timesDivided_X0_at
set_option maxRecDepth 20000 in
theorem ggX0_timesDivided_X0_dividesRest : GoodIn wsX0_timesDivided wsX0_dividesRest := goodIn_r _ [21, 2, 3, 4, 5, 6, 13, 14, 15, 16, 17, 22, 23, 24, 25, 26, 27, 28] (by decide +kernel) (by decide +kernel)
set_option maxRecDepth 20000 in
theorem gX0_timesDivided_X0_dividesRest : GoodIn wsX0_timesDivided (wsV RX0 77 RX0 yX0_dividesRest wsX0_dividesRest) := goodIn_app (goodIn_of _ (by decide +kernel)) ggX0_timesDivided_X0_dividesRest
theorem dX0_timesDivided_0 : decode cX0_timesDivided 0 = .ok (.aload_n 0, 1) := by decide +kernel
theorem dX0_timesDivided_1 : decode cX0_timesDivided 1 = .ok (.iload_n 1, 1) := by decide +kernel
theorem dX0_timesDivided_2 : decode cX0_timesDivided 2 = .ok (.invokevirtual 74, 3) := by decide +kernel
theorem dX0_timesDivided_5 : decode cX0_timesDivided 5 = .ok (.ifCond .eq 5, 3) := by decide +kernel
theorem dX0_timesDivided_8 : decode cX0_timesDivided 8 = .ok (.iconst 0, 1) := by decide +kernel
theorem dX0_timesDivided_9 : decode cX0_timesDivided 9 = .ok (.ireturn, 1) := by decide +kernel
theorem dX0_timesDivided_10 : decode cX0_timesDivided 10 = .ok (.aload_n 0, 1) := by decide +kernel
theorem dX0_timesDivided_11 : decode cX0_timesDivided 11 = .ok (.getfield 18, 3) := by decide +kernel
theorem dX0_timesDivided_14 : decode cX0_timesDivided 14 = .ok (.iconst 0, 1) := by decide +kernel
theorem dX0_timesDivided_15 : decode cX0_timesDivided 15 = .ok (.aload_n 0, 1) := by decide +kernel
theorem dX0_timesDivided_16 : decode cX0_timesDivided 16 = .ok (.getfield 35, 3) := by decide +kernel
theorem dX0_timesDivided_19 : decode cX0_timesDivided 19 = .ok (.iconst 0, 1) := by decide +kernel
theorem dX0_timesDivided_20 : decode cX0_timesDivided 20 = .ok (.bipush 9, 2) := by decide +kernel
theorem dX0_timesDivided_22 : decode cX0_timesDivided 22 = .ok (.invokestatic 42, 3) := by decide +kernel
theorem dX0_timesDivided_25 : decode cX0_timesDivided 25 = .ok (.iconst 0, 1) := by decide +kernel
theorem dX0_timesDivided_26 : decode cX0_timesDivided 26 = .ok (.istore_n 2, 1) := by decide +kernel
theorem dX0_timesDivided_27 : decode cX0_timesDivided 27 = .ok (.iload_n 2, 1) := by decide +kernel
theorem dX0_timesDivided_28 : decode cX0_timesDivided 28 = .ok (.aload_n 0, 1) := by decide +kernel
theorem dX0_timesDivided_29 : decode cX0_timesDivided 29 = .ok (.getfield 22, 3) := by decide +kernel
theorem dX0_timesDivided_32 : decode cX0_timesDivided 32 = .ok (.if_icmp .ge 17, 3) := by decide +kernel
theorem dX0_timesDivided_35 : decode cX0_timesDivided 35 = .ok (.aload_n 0, 1) := by decide +kernel
theorem dX0_timesDivided_36 : decode cX0_timesDivided 36 = .ok (.iload_n 1, 1) := by decide +kernel
theorem dX0_timesDivided_37 : decode cX0_timesDivided 37 = .ok (.invokevirtual 77, 3) := by decide +kernel
theorem dX0_timesDivided_40 : decode cX0_timesDivided 40 = .ok (.ifCond .eq 9, 3) := by decide +kernel
theorem dX0_timesDivided_43 : decode cX0_timesDivided 43 = .ok (.iinc 2 1, 3) := by decide +kernel
theorem dX0_timesDivided_46 : decode cX0_timesDivided 46 = .ok (.goto (-19), 3) := by decide +kernel
theorem dX0_timesDivided_49 : decode cX0_timesDivided 49 = .ok (.iload_n 2, 1) := by decide +kernel
theorem dX0_timesDivided_50 : decode cX0_timesDivided 50 = .ok (.ireturn, 1) := by decide +kernel
set_option maxRecDepth 20000 in
theorem ggX0_dividesRest_X3_fold : GoodIn wsX0_dividesRest wsX3_fold := goodIn_r _ [9, 10] (by decide +kernel) (by decide +kernel)
set_option maxRecDepth 20000 in
theorem gX0_dividesRest_X3_fold : GoodIn wsX0_dividesRest (va_wsS RX0 57 yX3_fold wsX3_fold) := goodIn_app (goodIn_of _ (by decide +kernel)) ggX0_dividesRest_X3_fold
theorem dX0_dividesRest_0 : decode cX0_dividesRest 0 = .ok (.bipush 7, 2) := by decide +kernel
theorem dX0_dividesRest_2 : decode cX0_dividesRest 2 = .ok (.istore_n 2, 1) := by decide +kernel
theorem dX0_dividesRest_3 : decode cX0_dividesRest 3 = .ok (.iload_n 2, 1) := by decide +kernel
theorem dX0_dividesRest_4 : decode cX0_dividesRest 4 = .ok (.ifCond .lt 38, 3) := by decide +kernel
theorem dX0_dividesRest_7 : decode cX0_dividesRest 7 = .ok (.aload_n 0, 1) := by decide +kernel
theorem dX0_dividesRest_8 : decode cX0_dividesRest 8 = .ok (.getfield 35, 3) := by decide +kernel
theorem dX0_dividesRest_11 : decode cX0_dividesRest 11 = .ok (.iload_n 2, 1) := by decide +kernel
theorem dX0_dividesRest_12 : decode cX0_dividesRest 12 = .ok (.aload_n 0, 1) := by decide +kernel
theorem dX0_dividesRest_13 : decode cX0_dividesRest 13 = .ok (.getfield 35, 3) := by decide +kernel
theorem dX0_dividesRest_16 : decode cX0_dividesRest 16 = .ok (.iload_n 2, 1) := by decide +kernel
theorem dX0_dividesRest_17 : decode cX0_dividesRest 17 = .ok (.iaload, 1) := by decide +kernel
theorem dX0_dividesRest_18 : decode cX0_dividesRest 18 = .ok (.i2l, 1) := by decide +kernel
theorem dX0_dividesRest_19 : decode cX0_dividesRest 19 = .ok (.iload_n 1, 1) := by decide +kernel
theorem dX0_dividesRest_20 : decode cX0_dividesRest 20 = .ok (.i2l, 1) := by decide +kernel
theorem dX0_dividesRest_21 : decode cX0_dividesRest 21 = .ok (.aload_n 0, 1) := by decide +kernel
theorem dX0_dividesRest_22 : decode cX0_dividesRest 22 = .ok (.getfield 35, 3) := by decide +kernel
theorem dX0_dividesRest_25 : decode cX0_dividesRest 25 = .ok (.iload_n 2, 1) := by decide +kernel
theorem dX0_dividesRest_26 : decode cX0_dividesRest 26 = .ok (.iconst 1, 1) := by decide +kernel
theorem dX0_dividesRest_27 : decode cX0_dividesRest 27 = .ok (.iadd, 1) := by decide +kernel
theorem dX0_dividesRest_28 : decode cX0_dividesRest 28 = .ok (.iaload, 1) := by decide +kernel
theorem dX0_dividesRest_29 : decode cX0_dividesRest 29 = .ok (.i2l, 1) := by decide +kernel
theorem dX0_dividesRest_30 : decode cX0_dividesRest 30 = .ok (.lmul, 1) := by decide +kernel
theorem dX0_dividesRest_31 : decode cX0_dividesRest 31 = .ok (.ladd, 1) := by decide +kernel
theorem dX0_dividesRest_32 : decode cX0_dividesRest 32 = .ok (.invokestatic 57, 3) := by decide +kernel
theorem dX0_dividesRest_35 : decode cX0_dividesRest 35 = .ok (.iastore, 1) := by decide +kernel
theorem dX0_dividesRest_36 : decode cX0_dividesRest 36 = .ok (.iinc 2 (-1), 3) := by decide +kernel
theorem dX0_dividesRest_39 : decode cX0_dividesRest 39 = .ok (.goto (-36), 3) := by decide +kernel
theorem dX0_dividesRest_42 : decode cX0_dividesRest 42 = .ok (.aload_n 0, 1) := by decide +kernel
theorem dX0_dividesRest_43 : decode cX0_dividesRest 43 = .ok (.getfield 35, 3) := by decide +kernel
theorem dX0_dividesRest_46 : decode cX0_dividesRest 46 = .ok (.iconst 0, 1) := by decide +kernel
theorem dX0_dividesRest_47 : decode cX0_dividesRest 47 = .ok (.iaload, 1) := by decide +kernel
theorem dX0_dividesRest_48 : decode cX0_dividesRest 48 = .ok (.ifCond .eq 5, 3) := by decide +kernel
theorem dX0_dividesRest_51 : decode cX0_dividesRest 51 = .ok (.iconst 0, 1) := by decide +kernel
theorem dX0_dividesRest_52 : decode cX0_dividesRest 52 = .ok (.ireturn, 1) := by decide +kernel
theorem dX0_dividesRest_53 : decode cX0_dividesRest 53 = .ok (.aload_n 0, 1) := by decide +kernel
theorem dX0_dividesRest_54 : decode cX0_dividesRest 54 = .ok (.getfield 35, 3) := by decide +kernel
theorem dX0_dividesRest_57 : decode cX0_dividesRest 57 = .ok (.iconst 1, 1) := by decide +kernel
theorem dX0_dividesRest_58 : decode cX0_dividesRest 58 = .ok (.aload_n 0, 1) := by decide +kernel
theorem dX0_dividesRest_59 : decode cX0_dividesRest 59 = .ok (.getfield 35, 3) := by decide +kernel
theorem dX0_dividesRest_62 : decode cX0_dividesRest 62 = .ok (.iconst 0, 1) := by decide +kernel
theorem dX0_dividesRest_63 : decode cX0_dividesRest 63 = .ok (.bipush 8, 2) := by decide +kernel
theorem dX0_dividesRest_65 : decode cX0_dividesRest 65 = .ok (.invokestatic 42, 3) := by decide +kernel
theorem dX0_dividesRest_68 : decode cX0_dividesRest 68 = .ok (.aload_n 0, 1) := by decide +kernel
theorem dX0_dividesRest_69 : decode cX0_dividesRest 69 = .ok (.getfield 35, 3) := by decide +kernel
theorem dX0_dividesRest_72 : decode cX0_dividesRest 72 = .ok (.bipush 8, 2) := by decide +kernel
theorem dX0_dividesRest_74 : decode cX0_dividesRest 74 = .ok (.iconst 0, 1) := by decide +kernel
theorem dX0_dividesRest_75 : decode cX0_dividesRest 75 = .ok (.iastore, 1) := by decide +kernel
theorem dX0_dividesRest_76 : decode cX0_dividesRest 76 = .ok (.iconst 1, 1) := by decide +kernel
theorem dX0_dividesRest_77 : decode cX0_dividesRest 77 = .ok (.ireturn, 1) := by decide +kernel
set_option maxRecDepth 20000 in
theorem ggX1_init_J7_fill_53178 : GoodIn wsX1_init wsJ7_fill_53178 := goodIn_r _ [11] (by decide +kernel) (by decide +kernel)
set_option maxRecDepth 20000 in
theorem gX1_init_J7_fill_53178 : GoodIn wsX1_init (va_wsS RX1 19 yJ7_fill_53178 wsJ7_fill_53178) := goodIn_app (goodIn_of _ (by decide +kernel)) ggX1_init_J7_fill_53178
theorem dX1_init_0 : decode cX1_init 0 = .ok (.aload_n 0, 1) := by decide +kernel
theorem dX1_init_1 : decode cX1_init 1 = .ok (.invokespecial 3, 3) := by decide +kernel
theorem dX1_init_4 : decode cX1_init 4 = .ok (.aload_n 0, 1) := by decide +kernel
theorem dX1_init_5 : decode cX1_init 5 = .ok (.iconst 3, 1) := by decide +kernel
theorem dX1_init_6 : decode cX1_init 6 = .ok (.newarray .int, 2) := by decide +kernel
theorem dX1_init_8 : decode cX1_init 8 = .ok (.putfield 11, 3) := by decide +kernel
theorem dX1_init_11 : decode cX1_init 11 = .ok (.aload_n 0, 1) := by decide +kernel
theorem dX1_init_12 : decode cX1_init 12 = .ok (.bipush 36, 2) := by decide +kernel
theorem dX1_init_14 : decode cX1_init 14 = .ok (.newarray .long, 2) := by decide +kernel
theorem dX1_init_16 : decode cX1_init 16 = .ok (.putfield 15, 3) := by decide +kernel
theorem dX1_init_19 : decode cX1_init 19 = .ok (.aload_n 0, 1) := by decide +kernel
theorem dX1_init_20 : decode cX1_init 20 = .ok (.getfield 11, 3) := by decide +kernel
theorem dX1_init_23 : decode cX1_init 23 = .ok (.iconst (-1), 1) := by decide +kernel
theorem dX1_init_24 : decode cX1_init 24 = .ok (.invokestatic 19, 3) := by decide +kernel
theorem dX1_init_27 : decode cX1_init 27 = .ok (.return_, 1) := by decide +kernel
theorem dX1_make_0 : decode cX1_make 0 = .ok (.aload_n 0, 1) := by decide +kernel
theorem dX1_make_1 : decode cX1_make 1 = .ok (.getfield 11, 3) := by decide +kernel
theorem dX1_make_4 : decode cX1_make 4 = .ok (.iload_n 1, 1) := by decide +kernel
theorem dX1_make_5 : decode cX1_make 5 = .ok (.iload_n 2, 1) := by decide +kernel
theorem dX1_make_6 : decode cX1_make 6 = .ok (.iastore, 1) := by decide +kernel
theorem dX1_make_7 : decode cX1_make 7 = .ok (.iconst 0, 1) := by decide +kernel
theorem dX1_make_8 : decode cX1_make 8 = .ok (.istore_n 3, 1) := by decide +kernel
theorem dX1_make_9 : decode cX1_make 9 = .ok (.iload_n 3, 1) := by decide +kernel
theorem dX1_make_10 : decode cX1_make 10 = .ok (.bipush 12, 2) := by decide +kernel
theorem dX1_make_12 : decode cX1_make 12 = .ok (.if_icmp .ge 21, 3) := by decide +kernel
theorem dX1_make_15 : decode cX1_make 15 = .ok (.aload_n 0, 1) := by decide +kernel
theorem dX1_make_16 : decode cX1_make 16 = .ok (.getfield 15, 3) := by decide +kernel
theorem dX1_make_19 : decode cX1_make 19 = .ok (.iload_n 1, 1) := by decide +kernel
theorem dX1_make_20 : decode cX1_make 20 = .ok (.bipush 12, 2) := by decide +kernel
theorem dX1_make_22 : decode cX1_make 22 = .ok (.imul, 1) := by decide +kernel
theorem dX1_make_23 : decode cX1_make 23 = .ok (.iload_n 3, 1) := by decide +kernel
theorem dX1_make_24 : decode cX1_make 24 = .ok (.iadd, 1) := by decide +kernel
theorem dX1_make_25 : decode cX1_make 25 = .ok (.lconst 0, 1) := by decide +kernel
theorem dX1_make_26 : decode cX1_make 26 = .ok (.lastore, 1) := by decide +kernel
theorem dX1_make_27 : decode cX1_make 27 = .ok (.iinc 3 1, 3) := by decide +kernel
theorem dX1_make_30 : decode cX1_make 30 = .ok (.goto (-21), 3) := by decide +kernel
theorem dX1_make_33 : decode cX1_make 33 = .ok (.return_, 1) := by decide +kernel
theorem dX1_compare_0 : decode cX1_compare 0 = .ok (.aload_n 0, 1) := by decide +kernel
theorem dX1_compare_1 : decode cX1_compare 1 = .ok (.getfield 11, 3) := by decide +kernel
theorem dX1_compare_4 : decode cX1_compare 4 = .ok (.iload_n 1, 1) := by decide +kernel
theorem dX1_compare_5 : decode cX1_compare 5 = .ok (.iaload, 1) := by decide +kernel
theorem dX1_compare_6 : decode cX1_compare 6 = .ok (.istore_n 3, 1) := by decide +kernel
theorem dX1_compare_7 : decode cX1_compare 7 = .ok (.iconst 0, 1) := by decide +kernel
theorem dX1_compare_8 : decode cX1_compare 8 = .ok (.istore 4, 2) := by decide +kernel
theorem dX1_compare_10 : decode cX1_compare 10 = .ok (.iload 4, 2) := by decide +kernel
theorem dX1_compare_12 : decode cX1_compare 12 = .ok (.iload_n 3, 1) := by decide +kernel
theorem dX1_compare_13 : decode cX1_compare 13 = .ok (.if_icmp .ge 45, 3) := by decide +kernel
theorem dX1_compare_16 : decode cX1_compare 16 = .ok (.iload 4, 2) := by decide +kernel
theorem dX1_compare_18 : decode cX1_compare 18 = .ok (.aload_n 2, 1) := by decide +kernel
theorem dX1_compare_19 : decode cX1_compare 19 = .ok (.getfield 25, 3) := by decide +kernel
theorem dX1_compare_22 : decode cX1_compare 22 = .ok (.if_icmp .gt 27, 3) := by decide +kernel
theorem dX1_compare_25 : decode cX1_compare 25 = .ok (.aload_n 0, 1) := by decide +kernel
theorem dX1_compare_26 : decode cX1_compare 26 = .ok (.getfield 15, 3) := by decide +kernel
theorem dX1_compare_29 : decode cX1_compare 29 = .ok (.iload_n 1, 1) := by decide +kernel
theorem dX1_compare_30 : decode cX1_compare 30 = .ok (.bipush 12, 2) := by decide +kernel
theorem dX1_compare_32 : decode cX1_compare 32 = .ok (.imul, 1) := by decide +kernel
theorem dX1_compare_33 : decode cX1_compare 33 = .ok (.iload 4, 2) := by decide +kernel
theorem dX1_compare_35 : decode cX1_compare 35 = .ok (.iadd, 1) := by decide +kernel
theorem dX1_compare_36 : decode cX1_compare 36 = .ok (.laload, 1) := by decide +kernel
theorem dX1_compare_37 : decode cX1_compare 37 = .ok (.aload_n 2, 1) := by decide +kernel
theorem dX1_compare_38 : decode cX1_compare 38 = .ok (.getfield 31, 3) := by decide +kernel
theorem dX1_compare_41 : decode cX1_compare 41 = .ok (.iload 4, 2) := by decide +kernel
theorem dX1_compare_43 : decode cX1_compare 43 = .ok (.iaload, 1) := by decide +kernel
theorem dX1_compare_44 : decode cX1_compare 44 = .ok (.i2l, 1) := by decide +kernel
theorem dX1_compare_45 : decode cX1_compare 45 = .ok (.lcmp, 1) := by decide +kernel
theorem dX1_compare_46 : decode cX1_compare 46 = .ok (.ifCond .eq 6, 3) := by decide +kernel
theorem dX1_compare_49 : decode cX1_compare 49 = .ok (.iload 4, 2) := by decide +kernel
theorem dX1_compare_51 : decode cX1_compare 51 = .ok (.ireturn, 1) := by decide +kernel
theorem dX1_compare_52 : decode cX1_compare 52 = .ok (.iinc 4 1, 3) := by decide +kernel
theorem dX1_compare_55 : decode cX1_compare 55 = .ok (.goto (-45), 3) := by decide +kernel
theorem dX1_compare_58 : decode cX1_compare 58 = .ok (.iload_n 3, 1) := by decide +kernel
theorem dX1_compare_59 : decode cX1_compare 59 = .ok (.aload_n 2, 1) := by decide +kernel
theorem dX1_compare_60 : decode cX1_compare 60 = .ok (.getfield 25, 3) := by decide +kernel
theorem dX1_compare_63 : decode cX1_compare 63 = .ok (.if_icmp .gt 10, 3) := by decide +kernel
theorem dX1_compare_66 : decode cX1_compare 66 = .ok (.bipush 100, 2) := by decide +kernel
theorem dX1_compare_68 : decode cX1_compare 68 = .ok (.iload_n 3, 1) := by decide +kernel
theorem dX1_compare_69 : decode cX1_compare 69 = .ok (.iadd, 1) := by decide +kernel
theorem dX1_compare_70 : decode cX1_compare 70 = .ok (.goto 5, 3) := by decide +kernel
theorem dX1_compare_73 : decode cX1_compare 73 = .ok (.bipush (-5), 2) := by decide +kernel
theorem dX1_compare_75 : decode cX1_compare 75 = .ok (.ireturn, 1) := by decide +kernel
theorem dX2_init_0 : decode cX2_init 0 = .ok (.aload_n 0, 1) := by decide +kernel
theorem dX2_init_1 : decode cX2_init 1 = .ok (.invokespecial 3, 3) := by decide +kernel
theorem dX2_init_4 : decode cX2_init 4 = .ok (.aload_n 0, 1) := by decide +kernel
theorem dX2_init_5 : decode cX2_init 5 = .ok (.sipush 225, 3) := by decide +kernel
theorem dX2_init_8 : decode cX2_init 8 = .ok (.newarray .int, 2) := by decide +kernel
theorem dX2_init_10 : decode cX2_init 10 = .ok (.putfield 11, 3) := by decide +kernel
theorem dX2_init_13 : decode cX2_init 13 = .ok (.aload_n 0, 1) := by decide +kernel
theorem dX2_init_14 : decode cX2_init 14 = .ok (.bipush 9, 2) := by decide +kernel
theorem dX2_init_16 : decode cX2_init 16 = .ok (.newarray .int, 2) := by decide +kernel
theorem dX2_init_18 : decode cX2_init 18 = .ok (.putfield 15, 3) := by decide +kernel
theorem dX2_init_21 : decode cX2_init 21 = .ok (.aload_n 0, 1) := by decide +kernel
theorem dX2_init_22 : decode cX2_init 22 = .ok (.bipush 21, 2) := by decide +kernel
theorem dX2_init_24 : decode cX2_init 24 = .ok (.newarray .int, 2) := by decide +kernel
theorem dX2_init_26 : decode cX2_init 26 = .ok (.putfield 18, 3) := by decide +kernel
theorem dX2_init_29 : decode cX2_init 29 = .ok (.aload_n 0, 1) := by decide +kernel
theorem dX2_init_30 : decode cX2_init 30 = .ok (.sipush 225, 3) := by decide +kernel
theorem dX2_init_33 : decode cX2_init 33 = .ok (.newarray .int, 2) := by decide +kernel
theorem dX2_init_35 : decode cX2_init 35 = .ok (.putfield 21, 3) := by decide +kernel
theorem dX2_init_38 : decode cX2_init 38 = .ok (.aload_n 0, 1) := by decide +kernel
theorem dX2_init_39 : decode cX2_init 39 = .ok (.sipush 225, 3) := by decide +kernel
theorem dX2_init_42 : decode cX2_init 42 = .ok (.newarray .int, 2) := by decide +kernel
theorem dX2_init_44 : decode cX2_init 44 = .ok (.putfield 24, 3) := by decide +kernel
theorem dX2_init_47 : decode cX2_init 47 = .ok (.aload_n 0, 1) := by decide +kernel
theorem dX2_init_48 : decode cX2_init 48 = .ok (.bipush 25, 2) := by decide +kernel
theorem dX2_init_50 : decode cX2_init 50 = .ok (.newarray .int, 2) := by decide +kernel
theorem dX2_init_52 : decode cX2_init 52 = .ok (.putfield 27, 3) := by decide +kernel
theorem dX2_init_55 : decode cX2_init 55 = .ok (.return_, 1) := by decide +kernel
set_option maxRecDepth 20000 in
theorem ggX2_startDeriving_J7_fill_53178 : GoodIn wsX2_startDeriving wsJ7_fill_53178 := goodIn_r _ [5] (by decide +kernel) (by decide +kernel)
set_option maxRecDepth 20000 in
theorem gX2_startDeriving_J7_fill_53178 : GoodIn wsX2_startDeriving (va_wsS RX2 30 yJ7_fill_53178 wsJ7_fill_53178) := goodIn_app (goodIn_of _ (by decide +kernel)) ggX2_startDeriving_J7_fill_53178
theorem dX2_startDeriving_0 : decode cX2_startDeriving 0 = .ok (.aload_n 0, 1) := by decide +kernel
theorem dX2_startDeriving_1 : decode cX2_startDeriving 1 = .ok (.getfield 21, 3) := by decide +kernel
theorem dX2_startDeriving_4 : decode cX2_startDeriving 4 = .ok (.iconst 0, 1) := by decide +kernel
theorem dX2_startDeriving_5 : decode cX2_startDeriving 5 = .ok (.invokestatic 30, 3) := by decide +kernel
theorem dX2_startDeriving_8 : decode cX2_startDeriving 8 = .ok (.aload_n 0, 1) := by decide +kernel
theorem dX2_startDeriving_9 : decode cX2_startDeriving 9 = .ok (.getfield 21, 3) := by decide +kernel
theorem dX2_startDeriving_12 : decode cX2_startDeriving 12 = .ok (.iconst 0, 1) := by decide +kernel
theorem dX2_startDeriving_13 : decode cX2_startDeriving 13 = .ok (.iconst 1, 1) := by decide +kernel
theorem dX2_startDeriving_14 : decode cX2_startDeriving 14 = .ok (.iastore, 1) := by decide +kernel
theorem dX2_startDeriving_15 : decode cX2_startDeriving 15 = .ok (.return_, 1) := by decide +kernel
set_option maxRecDepth 20000 in
theorem ggX2_deriveMore_X3_fold : GoodIn wsX2_deriveMore wsX3_fold := goodIn_r _ [10, 11] (by decide +kernel) (by decide +kernel)
set_option maxRecDepth 20000 in
theorem gX2_deriveMore_X3_fold : GoodIn wsX2_deriveMore (va_wsS RX2 36 yX3_fold wsX3_fold) := goodIn_app (goodIn_of _ (by decide +kernel)) ggX2_deriveMore_X3_fold
theorem dX2_deriveMore_0 : decode cX2_deriveMore 0 = .ok (.iconst 0, 1) := by decide +kernel
theorem dX2_deriveMore_1 : decode cX2_deriveMore 1 = .ok (.istore_n 3, 1) := by decide +kernel
theorem dX2_deriveMore_2 : decode cX2_deriveMore 2 = .ok (.iload_n 3, 1) := by decide +kernel
theorem dX2_deriveMore_3 : decode cX2_deriveMore 3 = .ok (.bipush 25, 2) := by decide +kernel
theorem dX2_deriveMore_5 : decode cX2_deriveMore 5 = .ok (.if_icmp .ge 161, 3) := by decide +kernel
theorem dX2_deriveMore_8 : decode cX2_deriveMore 8 = .ok (.iconst 0, 1) := by decide +kernel
theorem dX2_deriveMore_9 : decode cX2_deriveMore 9 = .ok (.istore 4, 2) := by decide +kernel
theorem dX2_deriveMore_11 : decode cX2_deriveMore 11 = .ok (.iload 4, 2) := by decide +kernel
theorem dX2_deriveMore_13 : decode cX2_deriveMore 13 = .ok (.bipush 9, 2) := by decide +kernel
theorem dX2_deriveMore_15 : decode cX2_deriveMore 15 = .ok (.if_icmp .ge 145, 3) := by decide +kernel
theorem dX2_deriveMore_18 : decode cX2_deriveMore 18 = .ok (.lconst 0, 1) := by decide +kernel
theorem dX2_deriveMore_19 : decode cX2_deriveMore 19 = .ok (.lstore 5, 2) := by decide +kernel
theorem dX2_deriveMore_21 : decode cX2_deriveMore 21 = .ok (.iconst 0, 1) := by decide +kernel
theorem dX2_deriveMore_22 : decode cX2_deriveMore 22 = .ok (.istore 7, 2) := by decide +kernel
theorem dX2_deriveMore_24 : decode cX2_deriveMore 24 = .ok (.iload 7, 2) := by decide +kernel
theorem dX2_deriveMore_26 : decode cX2_deriveMore 26 = .ok (.iconst 4, 1) := by decide +kernel
theorem dX2_deriveMore_27 : decode cX2_deriveMore 27 = .ok (.if_icmp .gt 110, 3) := by decide +kernel
theorem dX2_deriveMore_30 : decode cX2_deriveMore 30 = .ok (.iload_n 3, 1) := by decide +kernel
theorem dX2_deriveMore_31 : decode cX2_deriveMore 31 = .ok (.iload 7, 2) := by decide +kernel
theorem dX2_deriveMore_33 : decode cX2_deriveMore 33 = .ok (.isub, 1) := by decide +kernel
theorem dX2_deriveMore_34 : decode cX2_deriveMore 34 = .ok (.iconst 1, 1) := by decide +kernel
theorem dX2_deriveMore_35 : decode cX2_deriveMore 35 = .ok (.iadd, 1) := by decide +kernel
theorem dX2_deriveMore_36 : decode cX2_deriveMore 36 = .ok (.istore 8, 2) := by decide +kernel
theorem dX2_deriveMore_38 : decode cX2_deriveMore 38 = .ok (.iload 8, 2) := by decide +kernel
theorem dX2_deriveMore_40 : decode cX2_deriveMore 40 = .ok (.ifCond .lt 91, 3) := by decide +kernel
theorem dX2_deriveMore_43 : decode cX2_deriveMore 43 = .ok (.iload 8, 2) := by decide +kernel
theorem dX2_deriveMore_45 : decode cX2_deriveMore 45 = .ok (.bipush 25, 2) := by decide +kernel
theorem dX2_deriveMore_47 : decode cX2_deriveMore 47 = .ok (.if_icmp .ge 84, 3) := by decide +kernel
theorem dX2_deriveMore_50 : decode cX2_deriveMore 50 = .ok (.aload_n 1, 1) := by decide +kernel
theorem dX2_deriveMore_51 : decode cX2_deriveMore 51 = .ok (.iload 7, 2) := by decide +kernel
theorem dX2_deriveMore_53 : decode cX2_deriveMore 53 = .ok (.iaload, 1) := by decide +kernel
theorem dX2_deriveMore_54 : decode cX2_deriveMore 54 = .ok (.ifCond .eq 77, 3) := by decide +kernel
theorem dX2_deriveMore_57 : decode cX2_deriveMore 57 = .ok (.aload_n 0, 1) := by decide +kernel
theorem dX2_deriveMore_58 : decode cX2_deriveMore 58 = .ok (.getfield 21, 3) := by decide +kernel
theorem dX2_deriveMore_61 : decode cX2_deriveMore 61 = .ok (.iload 8, 2) := by decide +kernel
theorem dX2_deriveMore_63 : decode cX2_deriveMore 63 = .ok (.bipush 9, 2) := by decide +kernel
theorem dX2_deriveMore_65 : decode cX2_deriveMore 65 = .ok (.imul, 1) := by decide +kernel
theorem dX2_deriveMore_66 : decode cX2_deriveMore 66 = .ok (.iload 4, 2) := by decide +kernel
theorem dX2_deriveMore_68 : decode cX2_deriveMore 68 = .ok (.iadd, 1) := by decide +kernel
theorem dX2_deriveMore_69 : decode cX2_deriveMore 69 = .ok (.iaload, 1) := by decide +kernel
theorem dX2_deriveMore_70 : decode cX2_deriveMore 70 = .ok (.i2l, 1) := by decide +kernel
theorem dX2_deriveMore_71 : decode cX2_deriveMore 71 = .ok (.lstore 9, 2) := by decide +kernel
theorem dX2_deriveMore_73 : decode cX2_deriveMore 73 = .ok (.iload 4, 2) := by decide +kernel
theorem dX2_deriveMore_75 : decode cX2_deriveMore 75 = .ok (.ifCond .le 22, 3) := by decide +kernel
theorem dX2_deriveMore_78 : decode cX2_deriveMore 78 = .ok (.aload_n 0, 1) := by decide +kernel
theorem dX2_deriveMore_79 : decode cX2_deriveMore 79 = .ok (.getfield 21, 3) := by decide +kernel
theorem dX2_deriveMore_82 : decode cX2_deriveMore 82 = .ok (.iload 8, 2) := by decide +kernel
theorem dX2_deriveMore_84 : decode cX2_deriveMore 84 = .ok (.bipush 9, 2) := by decide +kernel
theorem dX2_deriveMore_86 : decode cX2_deriveMore 86 = .ok (.imul, 1) := by decide +kernel
theorem dX2_deriveMore_87 : decode cX2_deriveMore 87 = .ok (.iload 4, 2) := by decide +kernel
theorem dX2_deriveMore_89 : decode cX2_deriveMore 89 = .ok (.iadd, 1) := by decide +kernel
theorem dX2_deriveMore_90 : decode cX2_deriveMore 90 = .ok (.iconst 1, 1) := by decide +kernel
theorem dX2_deriveMore_91 : decode cX2_deriveMore 91 = .ok (.isub, 1) := by decide +kernel
theorem dX2_deriveMore_92 : decode cX2_deriveMore 92 = .ok (.iaload, 1) := by decide +kernel
theorem dX2_deriveMore_93 : decode cX2_deriveMore 93 = .ok (.i2l, 1) := by decide +kernel
theorem dX2_deriveMore_94 : decode cX2_deriveMore 94 = .ok (.goto 4, 3) := by decide +kernel
theorem dX2_deriveMore_97 : decode cX2_deriveMore 97 = .ok (.lconst 0, 1) := by decide +kernel
theorem dX2_deriveMore_98 : decode cX2_deriveMore 98 = .ok (.lstore 11, 2) := by decide +kernel
theorem dX2_deriveMore_100 : decode cX2_deriveMore 100 = .ok (.lload 5, 2) := by decide +kernel
theorem dX2_deriveMore_102 : decode cX2_deriveMore 102 = .ok (.aload_n 1, 1) := by decide +kernel
theorem dX2_deriveMore_103 : decode cX2_deriveMore 103 = .ok (.iload 7, 2) := by decide +kernel
theorem dX2_deriveMore_105 : decode cX2_deriveMore 105 = .ok (.iaload, 1) := by decide +kernel
theorem dX2_deriveMore_106 : decode cX2_deriveMore 106 = .ok (.i2l, 1) := by decide +kernel
theorem dX2_deriveMore_107 : decode cX2_deriveMore 107 = .ok (.iload 8, 2) := by decide +kernel
theorem dX2_deriveMore_109 : decode cX2_deriveMore 109 = .ok (.iload 7, 2) := by decide +kernel
theorem dX2_deriveMore_111 : decode cX2_deriveMore 111 = .ok (.iconst 1, 1) := by decide +kernel
theorem dX2_deriveMore_112 : decode cX2_deriveMore 112 = .ok (.iload_n 2, 1) := by decide +kernel
theorem dX2_deriveMore_113 : decode cX2_deriveMore 113 = .ok (.isub, 1) := by decide +kernel
theorem dX2_deriveMore_114 : decode cX2_deriveMore 114 = .ok (.imul, 1) := by decide +kernel
theorem dX2_deriveMore_115 : decode cX2_deriveMore 115 = .ok (.iadd, 1) := by decide +kernel
theorem dX2_deriveMore_116 : decode cX2_deriveMore 116 = .ok (.i2l, 1) := by decide +kernel
theorem dX2_deriveMore_117 : decode cX2_deriveMore 117 = .ok (.lload 9, 2) := by decide +kernel
theorem dX2_deriveMore_119 : decode cX2_deriveMore 119 = .ok (.lmul, 1) := by decide +kernel
theorem dX2_deriveMore_120 : decode cX2_deriveMore 120 = .ok (.iload 7, 2) := by decide +kernel
theorem dX2_deriveMore_122 : decode cX2_deriveMore 122 = .ok (.i2l, 1) := by decide +kernel
theorem dX2_deriveMore_123 : decode cX2_deriveMore 123 = .ok (.lload 11, 2) := by decide +kernel
theorem dX2_deriveMore_125 : decode cX2_deriveMore 125 = .ok (.lmul, 1) := by decide +kernel
theorem dX2_deriveMore_126 : decode cX2_deriveMore 126 = .ok (.ladd, 1) := by decide +kernel
theorem dX2_deriveMore_127 : decode cX2_deriveMore 127 = .ok (.lmul, 1) := by decide +kernel
theorem dX2_deriveMore_128 : decode cX2_deriveMore 128 = .ok (.ladd, 1) := by decide +kernel
theorem dX2_deriveMore_129 : decode cX2_deriveMore 129 = .ok (.lstore 5, 2) := by decide +kernel
theorem dX2_deriveMore_131 : decode cX2_deriveMore 131 = .ok (.iinc 7 1, 3) := by decide +kernel
theorem dX2_deriveMore_134 : decode cX2_deriveMore 134 = .ok (.goto (-110), 3) := by decide +kernel
theorem dX2_deriveMore_137 : decode cX2_deriveMore 137 = .ok (.aload_n 0, 1) := by decide +kernel
theorem dX2_deriveMore_138 : decode cX2_deriveMore 138 = .ok (.getfield 24, 3) := by decide +kernel
theorem dX2_deriveMore_141 : decode cX2_deriveMore 141 = .ok (.iload_n 3, 1) := by decide +kernel
theorem dX2_deriveMore_142 : decode cX2_deriveMore 142 = .ok (.bipush 9, 2) := by decide +kernel
theorem dX2_deriveMore_144 : decode cX2_deriveMore 144 = .ok (.imul, 1) := by decide +kernel
theorem dX2_deriveMore_145 : decode cX2_deriveMore 145 = .ok (.iload 4, 2) := by decide +kernel
theorem dX2_deriveMore_147 : decode cX2_deriveMore 147 = .ok (.iadd, 1) := by decide +kernel
theorem dX2_deriveMore_148 : decode cX2_deriveMore 148 = .ok (.lload 5, 2) := by decide +kernel
theorem dX2_deriveMore_150 : decode cX2_deriveMore 150 = .ok (.invokestatic 36, 3) := by decide +kernel
theorem dX2_deriveMore_153 : decode cX2_deriveMore 153 = .ok (.iastore, 1) := by decide +kernel
theorem dX2_deriveMore_154 : decode cX2_deriveMore 154 = .ok (.iinc 4 1, 3) := by decide +kernel
theorem dX2_deriveMore_157 : decode cX2_deriveMore 157 = .ok (.goto (-146), 3) := by decide +kernel
theorem dX2_deriveMore_160 : decode cX2_deriveMore 160 = .ok (.iinc 3 1, 3) := by decide +kernel
theorem dX2_deriveMore_163 : decode cX2_deriveMore 163 = .ok (.goto (-161), 3) := by decide +kernel
theorem dX2_deriveMore_166 : decode cX2_deriveMore 166 = .ok (.aload_n 0, 1) := by decide +kernel
theorem dX2_deriveMore_167 : decode cX2_deriveMore 167 = .ok (.getfield 24, 3) := by decide +kernel
theorem dX2_deriveMore_170 : decode cX2_deriveMore 170 = .ok (.iconst 0, 1) := by decide +kernel
theorem dX2_deriveMore_171 : decode cX2_deriveMore 171 = .ok (.aload_n 0, 1) := by decide +kernel
theorem dX2_deriveMore_172 : decode cX2_deriveMore 172 = .ok (.getfield 21, 3) := by decide +kernel
theorem dX2_deriveMore_175 : decode cX2_deriveMore 175 = .ok (.iconst 0, 1) := by decide +kernel
theorem dX2_deriveMore_176 : decode cX2_deriveMore 176 = .ok (.sipush 225, 3) := by decide +kernel
theorem dX2_deriveMore_179 : decode cX2_deriveMore 179 = .ok (.invokestatic 42, 3) := by decide +kernel
theorem dX2_deriveMore_182 : decode cX2_deriveMore 182 = .ok (.return_, 1) := by decide +kernel
set_option maxRecDepth 20000 in
theorem ggX2_spread_X2_multiplyGrid : GoodIn wsX2_spread wsX2_multiplyGrid := goodIn_r _ [9, 10, 11, 12, 13, 14] (by decide +kernel) (by decide +kernel)
set_option maxRecDepth 20000 in
theorem gX2_spread_X2_multiplyGrid : GoodIn wsX2_spread (va_wsS RX2 48 yX2_multiplyGrid wsX2_multiplyGrid) := goodIn_app (goodIn_of _ (by decide +kernel)) ggX2_spread_X2_multiplyGrid
theorem dX2_spread_0 : decode cX2_spread 0 = .ok (.aload_n 0, 1) := by decide +kernel
theorem dX2_spread_1 : decode cX2_spread 1 = .ok (.getfield 21, 3) := by decide +kernel
theorem dX2_spread_4 : decode cX2_spread 4 = .ok (.iconst 0, 1) := by decide +kernel
theorem dX2_spread_5 : decode cX2_spread 5 = .ok (.aload_n 1, 1) := by decide +kernel
theorem dX2_spread_6 : decode cX2_spread 6 = .ok (.iconst 0, 1) := by decide +kernel
theorem dX2_spread_7 : decode cX2_spread 7 = .ok (.sipush 225, 3) := by decide +kernel
theorem dX2_spread_10 : decode cX2_spread 10 = .ok (.invokestatic 42, 3) := by decide +kernel
theorem dX2_spread_13 : decode cX2_spread 13 = .ok (.iconst 0, 1) := by decide +kernel
theorem dX2_spread_14 : decode cX2_spread 14 = .ok (.istore 4, 2) := by decide +kernel
theorem dX2_spread_16 : decode cX2_spread 16 = .ok (.iload 4, 2) := by decide +kernel
theorem dX2_spread_18 : decode cX2_spread 18 = .ok (.iload_n 3, 1) := by decide +kernel
theorem dX2_spread_19 : decode cX2_spread 19 = .ok (.if_icmp .ge 14, 3) := by decide +kernel
theorem dX2_spread_22 : decode cX2_spread 22 = .ok (.aload_n 1, 1) := by decide +kernel
theorem dX2_spread_23 : decode cX2_spread 23 = .ok (.aload_n 2, 1) := by decide +kernel
theorem dX2_spread_24 : decode cX2_spread 24 = .ok (.invokestatic 48, 3) := by decide +kernel
theorem dX2_spread_27 : decode cX2_spread 27 = .ok (.iinc 4 1, 3) := by decide +kernel
theorem dX2_spread_30 : decode cX2_spread 30 = .ok (.goto (-14), 3) := by decide +kernel
theorem dX2_spread_33 : decode cX2_spread 33 = .ok (.return_, 1) := by decide +kernel
set_option maxRecDepth 20000 in
theorem ggX2_multiplyGrid_X3_fold : GoodIn wsX2_multiplyGrid wsX3_fold := goodIn_r _ [4, 5] (by decide +kernel) (by decide +kernel)
set_option maxRecDepth 20000 in
theorem gX2_multiplyGrid_X3_fold : GoodIn wsX2_multiplyGrid (va_wsS RX2 36 yX3_fold wsX3_fold) := goodIn_app (goodIn_of _ (by decide +kernel)) ggX2_multiplyGrid_X3_fold
theorem dX2_multiplyGrid_0 : decode cX2_multiplyGrid 0 = .ok (.bipush 24, 2) := by decide +kernel
theorem dX2_multiplyGrid_2 : decode cX2_multiplyGrid 2 = .ok (.istore_n 2, 1) := by decide +kernel
theorem dX2_multiplyGrid_3 : decode cX2_multiplyGrid 3 = .ok (.iload_n 2, 1) := by decide +kernel
theorem dX2_multiplyGrid_4 : decode cX2_multiplyGrid 4 = .ok (.ifCond .lt 83, 3) := by decide +kernel
theorem dX2_multiplyGrid_7 : decode cX2_multiplyGrid 7 = .ok (.iconst 0, 1) := by decide +kernel
theorem dX2_multiplyGrid_8 : decode cX2_multiplyGrid 8 = .ok (.istore_n 3, 1) := by decide +kernel
theorem dX2_multiplyGrid_9 : decode cX2_multiplyGrid 9 = .ok (.iload_n 3, 1) := by decide +kernel
theorem dX2_multiplyGrid_10 : decode cX2_multiplyGrid 10 = .ok (.bipush 9, 2) := by decide +kernel
theorem dX2_multiplyGrid_12 : decode cX2_multiplyGrid 12 = .ok (.if_icmp .ge 69, 3) := by decide +kernel
theorem dX2_multiplyGrid_15 : decode cX2_multiplyGrid 15 = .ok (.lconst 0, 1) := by decide +kernel
theorem dX2_multiplyGrid_16 : decode cX2_multiplyGrid 16 = .ok (.lstore 4, 2) := by decide +kernel
theorem dX2_multiplyGrid_18 : decode cX2_multiplyGrid 18 = .ok (.iconst 0, 1) := by decide +kernel
theorem dX2_multiplyGrid_19 : decode cX2_multiplyGrid 19 = .ok (.istore 6, 2) := by decide +kernel
theorem dX2_multiplyGrid_21 : decode cX2_multiplyGrid 21 = .ok (.iload 6, 2) := by decide +kernel
theorem dX2_multiplyGrid_23 : decode cX2_multiplyGrid 23 = .ok (.iconst 4, 1) := by decide +kernel
theorem dX2_multiplyGrid_24 : decode cX2_multiplyGrid 24 = .ok (.if_icmp .gt 38, 3) := by decide +kernel
theorem dX2_multiplyGrid_27 : decode cX2_multiplyGrid 27 = .ok (.iload 6, 2) := by decide +kernel
theorem dX2_multiplyGrid_29 : decode cX2_multiplyGrid 29 = .ok (.iload_n 2, 1) := by decide +kernel
theorem dX2_multiplyGrid_30 : decode cX2_multiplyGrid 30 = .ok (.if_icmp .gt 32, 3) := by decide +kernel
theorem dX2_multiplyGrid_33 : decode cX2_multiplyGrid 33 = .ok (.lload 4, 2) := by decide +kernel
theorem dX2_multiplyGrid_35 : decode cX2_multiplyGrid 35 = .ok (.aload_n 1, 1) := by decide +kernel
theorem dX2_multiplyGrid_36 : decode cX2_multiplyGrid 36 = .ok (.iload 6, 2) := by decide +kernel
theorem dX2_multiplyGrid_38 : decode cX2_multiplyGrid 38 = .ok (.iaload, 1) := by decide +kernel
theorem dX2_multiplyGrid_39 : decode cX2_multiplyGrid 39 = .ok (.i2l, 1) := by decide +kernel
theorem dX2_multiplyGrid_40 : decode cX2_multiplyGrid 40 = .ok (.aload_n 0, 1) := by decide +kernel
theorem dX2_multiplyGrid_41 : decode cX2_multiplyGrid 41 = .ok (.iload_n 2, 1) := by decide +kernel
theorem dX2_multiplyGrid_42 : decode cX2_multiplyGrid 42 = .ok (.iload 6, 2) := by decide +kernel
theorem dX2_multiplyGrid_44 : decode cX2_multiplyGrid 44 = .ok (.isub, 1) := by decide +kernel
theorem dX2_multiplyGrid_45 : decode cX2_multiplyGrid 45 = .ok (.bipush 9, 2) := by decide +kernel
theorem dX2_multiplyGrid_47 : decode cX2_multiplyGrid 47 = .ok (.imul, 1) := by decide +kernel
theorem dX2_multiplyGrid_48 : decode cX2_multiplyGrid 48 = .ok (.iload_n 3, 1) := by decide +kernel
theorem dX2_multiplyGrid_49 : decode cX2_multiplyGrid 49 = .ok (.iadd, 1) := by decide +kernel
theorem dX2_multiplyGrid_50 : decode cX2_multiplyGrid 50 = .ok (.iaload, 1) := by decide +kernel
theorem dX2_multiplyGrid_51 : decode cX2_multiplyGrid 51 = .ok (.i2l, 1) := by decide +kernel
theorem dX2_multiplyGrid_52 : decode cX2_multiplyGrid 52 = .ok (.lmul, 1) := by decide +kernel
theorem dX2_multiplyGrid_53 : decode cX2_multiplyGrid 53 = .ok (.ladd, 1) := by decide +kernel
theorem dX2_multiplyGrid_54 : decode cX2_multiplyGrid 54 = .ok (.lstore 4, 2) := by decide +kernel
theorem dX2_multiplyGrid_56 : decode cX2_multiplyGrid 56 = .ok (.iinc 6 1, 3) := by decide +kernel
theorem dX2_multiplyGrid_59 : decode cX2_multiplyGrid 59 = .ok (.goto (-38), 3) := by decide +kernel
theorem dX2_multiplyGrid_62 : decode cX2_multiplyGrid 62 = .ok (.aload_n 0, 1) := by decide +kernel
theorem dX2_multiplyGrid_63 : decode cX2_multiplyGrid 63 = .ok (.iload_n 2, 1) := by decide +kernel
theorem dX2_multiplyGrid_64 : decode cX2_multiplyGrid 64 = .ok (.bipush 9, 2) := by decide +kernel
theorem dX2_multiplyGrid_66 : decode cX2_multiplyGrid 66 = .ok (.imul, 1) := by decide +kernel
theorem dX2_multiplyGrid_67 : decode cX2_multiplyGrid 67 = .ok (.iload_n 3, 1) := by decide +kernel
theorem dX2_multiplyGrid_68 : decode cX2_multiplyGrid 68 = .ok (.iadd, 1) := by decide +kernel
theorem dX2_multiplyGrid_69 : decode cX2_multiplyGrid 69 = .ok (.lload 4, 2) := by decide +kernel
theorem dX2_multiplyGrid_71 : decode cX2_multiplyGrid 71 = .ok (.invokestatic 36, 3) := by decide +kernel
theorem dX2_multiplyGrid_74 : decode cX2_multiplyGrid 74 = .ok (.iastore, 1) := by decide +kernel
theorem dX2_multiplyGrid_75 : decode cX2_multiplyGrid 75 = .ok (.iinc 3 1, 3) := by decide +kernel
theorem dX2_multiplyGrid_78 : decode cX2_multiplyGrid 78 = .ok (.goto (-69), 3) := by decide +kernel
theorem dX2_multiplyGrid_81 : decode cX2_multiplyGrid 81 = .ok (.iinc 2 (-1), 3) := by decide +kernel
theorem dX2_multiplyGrid_84 : decode cX2_multiplyGrid 84 = .ok (.goto (-81), 3) := by decide +kernel
theorem dX2_multiplyGrid_87 : decode cX2_multiplyGrid 87 = .ok (.return_, 1) := by decide +kernel
set_option maxRecDepth 20000 in
theorem ggX2_apply_J7_fill_53178 : GoodIn wsX2_apply wsJ7_fill_53178 := goodIn_r _ [5] (by decide +kernel) (by decide +kernel)
set_option maxRecDepth 20000 in
theorem gX2_apply_J7_fill_53178 : GoodIn wsX2_apply (va_wsS RX2 30 yJ7_fill_53178 wsJ7_fill_53178) := goodIn_app (goodIn_of _ (by decide +kernel)) ggX2_apply_J7_fill_53178
set_option maxRecDepth 20000 in
theorem ggX2_apply_X2_startDeriving : GoodIn wsX2_apply wsX2_startDeriving := goodIn_r _ [10, 11, 2, 3, 4, 5, 50, 51, 52, 53, 54, 55] (by decide +kernel) (by decide +kernel)
set_option maxRecDepth 20000 in
theorem gX2_apply_X2_startDeriving : GoodIn wsX2_apply (wsV RX2 52 RX2 yX2_startDeriving wsX2_startDeriving) := goodIn_app (goodIn_of _ (by decide +kernel)) ggX2_apply_X2_startDeriving
set_option maxRecDepth 20000 in
theorem ggX2_apply_X4_topDerivative : GoodIn wsX2_apply wsX4_topDerivative := goodIn_r _ [16, 17, 18, 19, 20, 21, 56] (by decide +kernel) (by decide +kernel)
set_option maxRecDepth 20000 in
theorem gX2_apply_X4_topDerivative : GoodIn wsX2_apply (wsV RX2 55 RX4 yX4_topDerivative wsX4_topDerivative) := goodIn_app (goodIn_of _ (by decide +kernel)) ggX2_apply_X4_topDerivative
set_option maxRecDepth 20000 in
theorem ggX2_apply_X2_multiplyGrid : GoodIn wsX2_apply wsX2_multiplyGrid := goodIn_r _ [24, 25, 26, 20, 27, 28] (by decide +kernel) (by decide +kernel)
set_option maxRecDepth 20000 in
theorem gX2_apply_X2_multiplyGrid : GoodIn wsX2_apply (va_wsS RX2 48 yX2_multiplyGrid wsX2_multiplyGrid) := goodIn_app (goodIn_of _ (by decide +kernel)) ggX2_apply_X2_multiplyGrid
set_option maxRecDepth 20000 in
theorem ggX2_apply_X2_deriveMore : GoodIn wsX2_apply wsX2_deriveMore := goodIn_r _ [32, 11, 33, 34, 35, 36, 37, 25, 26, 20, 27, 28, 50, 51, 52, 53, 54, 55] (by decide +kernel) (by decide +kernel)
set_option maxRecDepth 20000 in
theorem gX2_apply_X2_deriveMore : GoodIn wsX2_apply (wsV RX2 61 RX2 yX2_deriveMore wsX2_deriveMore) := goodIn_app (goodIn_of _ (by decide +kernel)) ggX2_apply_X2_deriveMore
set_option maxRecDepth 20000 in
theorem ggX2_apply_X2_addShifted : GoodIn wsX2_apply wsX2_addShifted := goodIn_r _ [41, 42, 43, 44, 15, 45, 46, 47, 48, 9, 49, 1, 11, 25, 26, 20, 27, 28, 56, 50, 51, 52, 53, 54, 55] (by decide +kernel) (by decide +kernel)
set_option maxRecDepth 20000 in
theorem gX2_apply_X2_addShifted : GoodIn wsX2_apply (wsV RX2 64 RX2 yX2_addShifted wsX2_addShifted) := goodIn_app (goodIn_of _ (by decide +kernel)) ggX2_apply_X2_addShifted
theorem dX2_apply_0 : decode cX2_apply 0 = .ok (.aload_n 0, 1) := by decide +kernel
theorem dX2_apply_1 : decode cX2_apply 1 = .ok (.getfield 11, 3) := by decide +kernel
theorem dX2_apply_4 : decode cX2_apply 4 = .ok (.iconst 0, 1) := by decide +kernel
theorem dX2_apply_5 : decode cX2_apply 5 = .ok (.invokestatic 30, 3) := by decide +kernel
theorem dX2_apply_8 : decode cX2_apply 8 = .ok (.aload_n 0, 1) := by decide +kernel
theorem dX2_apply_9 : decode cX2_apply 9 = .ok (.invokevirtual 52, 3) := by decide +kernel
theorem dX2_apply_12 : decode cX2_apply 12 = .ok (.aload_n 1, 1) := by decide +kernel
theorem dX2_apply_13 : decode cX2_apply 13 = .ok (.invokevirtual 55, 3) := by decide +kernel
theorem dX2_apply_16 : decode cX2_apply 16 = .ok (.istore_n 3, 1) := by decide +kernel
theorem dX2_apply_17 : decode cX2_apply 17 = .ok (.iconst 0, 1) := by decide +kernel
theorem dX2_apply_18 : decode cX2_apply 18 = .ok (.istore 4, 2) := by decide +kernel
theorem dX2_apply_20 : decode cX2_apply 20 = .ok (.iload 4, 2) := by decide +kernel
theorem dX2_apply_22 : decode cX2_apply 22 = .ok (.iload_n 3, 1) := by decide +kernel
theorem dX2_apply_23 : decode cX2_apply 23 = .ok (.if_icmp .gt 38, 3) := by decide +kernel
theorem dX2_apply_26 : decode cX2_apply 26 = .ok (.iload 4, 2) := by decide +kernel
theorem dX2_apply_28 : decode cX2_apply 28 = .ok (.ifCond .le 20, 3) := by decide +kernel
theorem dX2_apply_31 : decode cX2_apply 31 = .ok (.aload_n 0, 1) := by decide +kernel
theorem dX2_apply_32 : decode cX2_apply 32 = .ok (.getfield 11, 3) := by decide +kernel
theorem dX2_apply_35 : decode cX2_apply 35 = .ok (.aload_n 2, 1) := by decide +kernel
theorem dX2_apply_36 : decode cX2_apply 36 = .ok (.invokestatic 48, 3) := by decide +kernel
theorem dX2_apply_39 : decode cX2_apply 39 = .ok (.aload_n 0, 1) := by decide +kernel
theorem dX2_apply_40 : decode cX2_apply 40 = .ok (.aload_n 2, 1) := by decide +kernel
theorem dX2_apply_41 : decode cX2_apply 41 = .ok (.iload 4, 2) := by decide +kernel
theorem dX2_apply_43 : decode cX2_apply 43 = .ok (.iconst 1, 1) := by decide +kernel
theorem dX2_apply_44 : decode cX2_apply 44 = .ok (.isub, 1) := by decide +kernel
theorem dX2_apply_45 : decode cX2_apply 45 = .ok (.invokevirtual 61, 3) := by decide +kernel
theorem dX2_apply_48 : decode cX2_apply 48 = .ok (.aload_n 0, 1) := by decide +kernel
theorem dX2_apply_49 : decode cX2_apply 49 = .ok (.aload_n 1, 1) := by decide +kernel
theorem dX2_apply_50 : decode cX2_apply 50 = .ok (.iload 4, 2) := by decide +kernel
theorem dX2_apply_52 : decode cX2_apply 52 = .ok (.invokevirtual 64, 3) := by decide +kernel
theorem dX2_apply_55 : decode cX2_apply 55 = .ok (.iinc 4 1, 3) := by decide +kernel
theorem dX2_apply_58 : decode cX2_apply 58 = .ok (.goto (-38), 3) := by decide +kernel
theorem dX2_apply_61 : decode cX2_apply 61 = .ok (.return_, 1) := by decide +kernel
set_option maxRecDepth 20000 in
theorem ggX2_addShifted_X4_index : GoodIn wsX2_addShifted wsX4_index := goodIn_r _ [5] (by decide +kernel) (by decide +kernel)
set_option maxRecDepth 20000 in
theorem gX2_addShifted_X4_index : GoodIn wsX2_addShifted (va_wsS RX2 71 yX4_index wsX4_index) := goodIn_app (goodIn_of _ (by decide +kernel)) ggX2_addShifted_X4_index
set_option maxRecDepth 20000 in
theorem ggX2_addShifted_X2_addTimes : GoodIn wsX2_addShifted wsX2_addTimes := goodIn_r _ [10, 11, 12, 13, 14, 15, 16, 17, 19, 20, 21, 22, 23, 24] (by decide +kernel) (by decide +kernel)
set_option maxRecDepth 20000 in
theorem gX2_addShifted_X2_addTimes : GoodIn wsX2_addShifted (wsV RX2 75 RX2 yX2_addTimes wsX2_addTimes) := goodIn_app (goodIn_of _ (by decide +kernel)) ggX2_addShifted_X2_addTimes
theorem dX2_addShifted_0 : decode cX2_addShifted 0 = .ok (.iconst 0, 1) := by decide +kernel
theorem dX2_addShifted_1 : decode cX2_addShifted 1 = .ok (.istore_n 3, 1) := by decide +kernel
theorem dX2_addShifted_2 : decode cX2_addShifted 2 = .ok (.iload_n 3, 1) := by decide +kernel
theorem dX2_addShifted_3 : decode cX2_addShifted 3 = .ok (.iconst 4, 1) := by decide +kernel
theorem dX2_addShifted_4 : decode cX2_addShifted 4 = .ok (.if_icmp .gt 52, 3) := by decide +kernel
theorem dX2_addShifted_7 : decode cX2_addShifted 7 = .ok (.iconst 0, 1) := by decide +kernel
theorem dX2_addShifted_8 : decode cX2_addShifted 8 = .ok (.istore 4, 2) := by decide +kernel
theorem dX2_addShifted_10 : decode cX2_addShifted 10 = .ok (.iload 4, 2) := by decide +kernel
theorem dX2_addShifted_12 : decode cX2_addShifted 12 = .ok (.iconst 2, 1) := by decide +kernel
theorem dX2_addShifted_13 : decode cX2_addShifted 13 = .ok (.if_icmp .gt 37, 3) := by decide +kernel
theorem dX2_addShifted_16 : decode cX2_addShifted 16 = .ok (.aload_n 1, 1) := by decide +kernel
theorem dX2_addShifted_17 : decode cX2_addShifted 17 = .ok (.getfield 68, 3) := by decide +kernel
theorem dX2_addShifted_20 : decode cX2_addShifted 20 = .ok (.iload_n 2, 1) := by decide +kernel
theorem dX2_addShifted_21 : decode cX2_addShifted 21 = .ok (.iload_n 3, 1) := by decide +kernel
theorem dX2_addShifted_22 : decode cX2_addShifted 22 = .ok (.iload 4, 2) := by decide +kernel
theorem dX2_addShifted_24 : decode cX2_addShifted 24 = .ok (.invokestatic 71, 3) := by decide +kernel
theorem dX2_addShifted_27 : decode cX2_addShifted 27 = .ok (.iaload, 1) := by decide +kernel
theorem dX2_addShifted_28 : decode cX2_addShifted 28 = .ok (.istore 5, 2) := by decide +kernel
theorem dX2_addShifted_30 : decode cX2_addShifted 30 = .ok (.iload 5, 2) := by decide +kernel
theorem dX2_addShifted_32 : decode cX2_addShifted 32 = .ok (.ifCond .eq 12, 3) := by decide +kernel
theorem dX2_addShifted_35 : decode cX2_addShifted 35 = .ok (.aload_n 0, 1) := by decide +kernel
theorem dX2_addShifted_36 : decode cX2_addShifted 36 = .ok (.iload 5, 2) := by decide +kernel
theorem dX2_addShifted_38 : decode cX2_addShifted 38 = .ok (.iload_n 3, 1) := by decide +kernel
theorem dX2_addShifted_39 : decode cX2_addShifted 39 = .ok (.iload 4, 2) := by decide +kernel
theorem dX2_addShifted_41 : decode cX2_addShifted 41 = .ok (.invokevirtual 75, 3) := by decide +kernel
theorem dX2_addShifted_44 : decode cX2_addShifted 44 = .ok (.iinc 4 1, 3) := by decide +kernel
theorem dX2_addShifted_47 : decode cX2_addShifted 47 = .ok (.goto (-37), 3) := by decide +kernel
theorem dX2_addShifted_50 : decode cX2_addShifted 50 = .ok (.iinc 3 1, 3) := by decide +kernel
theorem dX2_addShifted_53 : decode cX2_addShifted 53 = .ok (.goto (-51), 3) := by decide +kernel
theorem dX2_addShifted_56 : decode cX2_addShifted 56 = .ok (.return_, 1) := by decide +kernel
set_option maxRecDepth 20000 in
theorem ggX2_addTimes_X3_fold : GoodIn wsX2_addTimes wsX3_fold := goodIn_r _ [6, 7] (by decide +kernel) (by decide +kernel)
set_option maxRecDepth 20000 in
theorem gX2_addTimes_X3_fold : GoodIn wsX2_addTimes (va_wsS RX2 36 yX3_fold wsX3_fold) := goodIn_app (goodIn_of _ (by decide +kernel)) ggX2_addTimes_X3_fold
theorem dX2_addTimes_0 : decode cX2_addTimes 0 = .ok (.iload_n 2, 1) := by decide +kernel
theorem dX2_addTimes_1 : decode cX2_addTimes 1 = .ok (.istore 4, 2) := by decide +kernel
theorem dX2_addTimes_3 : decode cX2_addTimes 3 = .ok (.iload 4, 2) := by decide +kernel
theorem dX2_addTimes_5 : decode cX2_addTimes 5 = .ok (.bipush 25, 2) := by decide +kernel
theorem dX2_addTimes_7 : decode cX2_addTimes 7 = .ok (.if_icmp .ge 75, 3) := by decide +kernel
theorem dX2_addTimes_10 : decode cX2_addTimes 10 = .ok (.iload_n 3, 1) := by decide +kernel
theorem dX2_addTimes_11 : decode cX2_addTimes 11 = .ok (.istore 5, 2) := by decide +kernel
theorem dX2_addTimes_13 : decode cX2_addTimes 13 = .ok (.iload 5, 2) := by decide +kernel
theorem dX2_addTimes_15 : decode cX2_addTimes 15 = .ok (.bipush 9, 2) := by decide +kernel
theorem dX2_addTimes_17 : decode cX2_addTimes 17 = .ok (.if_icmp .ge 59, 3) := by decide +kernel
theorem dX2_addTimes_20 : decode cX2_addTimes 20 = .ok (.iload 4, 2) := by decide +kernel
theorem dX2_addTimes_22 : decode cX2_addTimes 22 = .ok (.bipush 9, 2) := by decide +kernel
theorem dX2_addTimes_24 : decode cX2_addTimes 24 = .ok (.imul, 1) := by decide +kernel
theorem dX2_addTimes_25 : decode cX2_addTimes 25 = .ok (.iload 5, 2) := by decide +kernel
theorem dX2_addTimes_27 : decode cX2_addTimes 27 = .ok (.iadd, 1) := by decide +kernel
theorem dX2_addTimes_28 : decode cX2_addTimes 28 = .ok (.istore 6, 2) := by decide +kernel
theorem dX2_addTimes_30 : decode cX2_addTimes 30 = .ok (.aload_n 0, 1) := by decide +kernel
theorem dX2_addTimes_31 : decode cX2_addTimes 31 = .ok (.getfield 11, 3) := by decide +kernel
theorem dX2_addTimes_34 : decode cX2_addTimes 34 = .ok (.iload 6, 2) := by decide +kernel
theorem dX2_addTimes_36 : decode cX2_addTimes 36 = .ok (.aload_n 0, 1) := by decide +kernel
theorem dX2_addTimes_37 : decode cX2_addTimes 37 = .ok (.getfield 11, 3) := by decide +kernel
theorem dX2_addTimes_40 : decode cX2_addTimes 40 = .ok (.iload 6, 2) := by decide +kernel
theorem dX2_addTimes_42 : decode cX2_addTimes 42 = .ok (.iaload, 1) := by decide +kernel
theorem dX2_addTimes_43 : decode cX2_addTimes 43 = .ok (.i2l, 1) := by decide +kernel
theorem dX2_addTimes_44 : decode cX2_addTimes 44 = .ok (.iload_n 1, 1) := by decide +kernel
theorem dX2_addTimes_45 : decode cX2_addTimes 45 = .ok (.i2l, 1) := by decide +kernel
theorem dX2_addTimes_46 : decode cX2_addTimes 46 = .ok (.aload_n 0, 1) := by decide +kernel
theorem dX2_addTimes_47 : decode cX2_addTimes 47 = .ok (.getfield 21, 3) := by decide +kernel
theorem dX2_addTimes_50 : decode cX2_addTimes 50 = .ok (.iload 4, 2) := by decide +kernel
theorem dX2_addTimes_52 : decode cX2_addTimes 52 = .ok (.iload_n 2, 1) := by decide +kernel
theorem dX2_addTimes_53 : decode cX2_addTimes 53 = .ok (.isub, 1) := by decide +kernel
theorem dX2_addTimes_54 : decode cX2_addTimes 54 = .ok (.bipush 9, 2) := by decide +kernel
theorem dX2_addTimes_56 : decode cX2_addTimes 56 = .ok (.imul, 1) := by decide +kernel
theorem dX2_addTimes_57 : decode cX2_addTimes 57 = .ok (.iload 5, 2) := by decide +kernel
theorem dX2_addTimes_59 : decode cX2_addTimes 59 = .ok (.iadd, 1) := by decide +kernel
theorem dX2_addTimes_60 : decode cX2_addTimes 60 = .ok (.iload_n 3, 1) := by decide +kernel
theorem dX2_addTimes_61 : decode cX2_addTimes 61 = .ok (.isub, 1) := by decide +kernel
theorem dX2_addTimes_62 : decode cX2_addTimes 62 = .ok (.iaload, 1) := by decide +kernel
theorem dX2_addTimes_63 : decode cX2_addTimes 63 = .ok (.i2l, 1) := by decide +kernel
theorem dX2_addTimes_64 : decode cX2_addTimes 64 = .ok (.lmul, 1) := by decide +kernel
theorem dX2_addTimes_65 : decode cX2_addTimes 65 = .ok (.ladd, 1) := by decide +kernel
theorem dX2_addTimes_66 : decode cX2_addTimes 66 = .ok (.invokestatic 36, 3) := by decide +kernel
theorem dX2_addTimes_69 : decode cX2_addTimes 69 = .ok (.iastore, 1) := by decide +kernel
theorem dX2_addTimes_70 : decode cX2_addTimes 70 = .ok (.iinc 5 1, 3) := by decide +kernel
theorem dX2_addTimes_73 : decode cX2_addTimes 73 = .ok (.goto (-60), 3) := by decide +kernel
theorem dX2_addTimes_76 : decode cX2_addTimes 76 = .ok (.iinc 4 1, 3) := by decide +kernel
theorem dX2_addTimes_79 : decode cX2_addTimes 79 = .ok (.goto (-76), 3) := by decide +kernel
theorem dX2_addTimes_82 : decode cX2_addTimes 82 = .ok (.return_, 1) := by decide +kernel
set_option maxRecDepth 20000 in
theorem ggX2_toPowerOfS_X2_apply : GoodIn wsX2_toPowerOfS wsX2_apply := goodIn_r _ [8, 2, 9, 10, 11, 12, 13, 14, 15, 7, 16, 17, 18, 19, 20, 21, 22, 23, 24, 25, 26, 27, 28, 29, 30, 31, 32, 33, 34, 35, 36, 37, 38, 39, 40, 41, 42, 43, 44, 45, 46, 47, 48, 49, 50, 51, 52, 53, 54, 55, 72, 73, 74, 75, 76, 77, 78] (by decide +kernel) (by decide +kernel)
set_option maxRecDepth 20000 in
theorem gX2_toPowerOfS_X2_apply : GoodIn wsX2_toPowerOfS (wsV RX2 79 RX2 yX2_apply wsX2_apply) := goodIn_app (goodIn_of _ (by decide +kernel)) ggX2_toPowerOfS_X2_apply
set_option maxRecDepth 20000 in
theorem ggX2_toPowerOfS_X4_topDerivative : GoodIn wsX2_toPowerOfS wsX4_topDerivative := goodIn_r _ [22, 23, 24, 25, 26, 27, 78] (by decide +kernel) (by decide +kernel)
set_option maxRecDepth 20000 in
theorem gX2_toPowerOfS_X4_topDerivative : GoodIn wsX2_toPowerOfS (wsV RX2 55 RX4 yX4_topDerivative wsX4_topDerivative) := goodIn_app (goodIn_of _ (by decide +kernel)) ggX2_toPowerOfS_X4_topDerivative
set_option maxRecDepth 20000 in
theorem ggX2_toPowerOfS_J7_fill_53178 : GoodIn wsX2_toPowerOfS wsJ7_fill_53178 := goodIn_r _ [12] (by decide +kernel) (by decide +kernel)
set_option maxRecDepth 20000 in
theorem gX2_toPowerOfS_J7_fill_53178 : GoodIn wsX2_toPowerOfS (va_wsS RX2 30 yJ7_fill_53178 wsJ7_fill_53178) := goodIn_app (goodIn_of _ (by decide +kernel)) ggX2_toPowerOfS_J7_fill_53178
set_option maxRecDepth 20000 in
theorem ggX2_toPowerOfS_X3_highest : GoodIn wsX2_toPowerOfS wsX3_highest := goodIn_r _ [27] (by decide +kernel) (by decide +kernel)
set_option maxRecDepth 20000 in
theorem gX2_toPowerOfS_X3_highest : GoodIn wsX2_toPowerOfS (va_wsS RX2 83 yX3_highest wsX3_highest) := goodIn_app (goodIn_of _ (by decide +kernel)) ggX2_toPowerOfS_X3_highest
set_option maxRecDepth 20000 in
theorem ggX2_toPowerOfS_X3_raise : GoodIn wsX2_toPowerOfS wsX3_raise := goodIn_r _ [59, 60, 10, 11, 12, 61, 62, 26, 63, 64, 32, 33, 34] (by decide +kernel) (by decide +kernel)
set_option maxRecDepth 20000 in
theorem gX2_toPowerOfS_X3_raise : GoodIn wsX2_toPowerOfS (va_wsS RX2 87 yX3_raise wsX3_raise) := goodIn_app (goodIn_of _ (by decide +kernel)) ggX2_toPowerOfS_X3_raise
set_option maxRecDepth 20000 in
theorem ggX2_toPowerOfS_X3_inverse : GoodIn wsX2_toPowerOfS wsX3_inverse := goodIn_r _ [67, 64, 32, 26, 33, 34] (by decide +kernel) (by decide +kernel)
set_option maxRecDepth 20000 in
theorem gX2_toPowerOfS_X3_inverse : GoodIn wsX2_toPowerOfS (va_wsS RX2 91 yX3_inverse wsX3_inverse) := goodIn_app (goodIn_of _ (by decide +kernel)) ggX2_toPowerOfS_X3_inverse
set_option maxRecDepth 20000 in
theorem ggX2_toPowerOfS_X3_fold : GoodIn wsX2_toPowerOfS wsX3_fold := goodIn_r _ [33, 34] (by decide +kernel) (by decide +kernel)
set_option maxRecDepth 20000 in
theorem gX2_toPowerOfS_X3_fold : GoodIn wsX2_toPowerOfS (va_wsS RX2 36 yX3_fold wsX3_fold) := goodIn_app (goodIn_of _ (by decide +kernel)) ggX2_toPowerOfS_X3_fold
set_option maxRecDepth 20000 in
theorem ggX2_toPowerOfS_X2_sumIsBTimesPower : GoodIn wsX2_toPowerOfS wsX2_sumIsBTimesPower := goodIn_r _ [71, 2, 1, 3, 31, 32, 26, 33, 34, 72, 73, 74, 75, 76, 77] (by decide +kernel) (by decide +kernel)
set_option maxRecDepth 20000 in
theorem gX2_toPowerOfS_X2_sumIsBTimesPower : GoodIn wsX2_toPowerOfS (wsV RX2 95 RX2 yX2_sumIsBTimesPower wsX2_sumIsBTimesPower) := goodIn_app (goodIn_of _ (by decide +kernel)) ggX2_toPowerOfS_X2_sumIsBTimesPower
theorem dX2_toPowerOfS_0 : decode cX2_toPowerOfS 0 = .ok (.aload_n 0, 1) := by decide +kernel
theorem dX2_toPowerOfS_1 : decode cX2_toPowerOfS 1 = .ok (.aload_n 1, 1) := by decide +kernel
theorem dX2_toPowerOfS_2 : decode cX2_toPowerOfS 2 = .ok (.aload_n 2, 1) := by decide +kernel
theorem dX2_toPowerOfS_3 : decode cX2_toPowerOfS 3 = .ok (.invokevirtual 79, 3) := by decide +kernel
theorem dX2_toPowerOfS_6 : decode cX2_toPowerOfS 6 = .ok (.aload_n 1, 1) := by decide +kernel
theorem dX2_toPowerOfS_7 : decode cX2_toPowerOfS 7 = .ok (.invokevirtual 55, 3) := by decide +kernel
theorem dX2_toPowerOfS_10 : decode cX2_toPowerOfS 10 = .ok (.istore_n 3, 1) := by decide +kernel
theorem dX2_toPowerOfS_11 : decode cX2_toPowerOfS 11 = .ok (.iload_n 3, 1) := by decide +kernel
theorem dX2_toPowerOfS_12 : decode cX2_toPowerOfS 12 = .ok (.ifCond .ne 27, 3) := by decide +kernel
theorem dX2_toPowerOfS_15 : decode cX2_toPowerOfS 15 = .ok (.aload_n 0, 1) := by decide +kernel
theorem dX2_toPowerOfS_16 : decode cX2_toPowerOfS 16 = .ok (.getfield 15, 3) := by decide +kernel
theorem dX2_toPowerOfS_19 : decode cX2_toPowerOfS 19 = .ok (.iconst 0, 1) := by decide +kernel
theorem dX2_toPowerOfS_20 : decode cX2_toPowerOfS 20 = .ok (.invokestatic 30, 3) := by decide +kernel
theorem dX2_toPowerOfS_23 : decode cX2_toPowerOfS 23 = .ok (.aload_n 0, 1) := by decide +kernel
theorem dX2_toPowerOfS_24 : decode cX2_toPowerOfS 24 = .ok (.getfield 11, 3) := by decide +kernel
theorem dX2_toPowerOfS_27 : decode cX2_toPowerOfS 27 = .ok (.invokestatic 83, 3) := by decide +kernel
theorem dX2_toPowerOfS_30 : decode cX2_toPowerOfS 30 = .ok (.ifCond .ge 7, 3) := by decide +kernel
theorem dX2_toPowerOfS_33 : decode cX2_toPowerOfS 33 = .ok (.iconst 1, 1) := by decide +kernel
theorem dX2_toPowerOfS_34 : decode cX2_toPowerOfS 34 = .ok (.goto 4, 3) := by decide +kernel
theorem dX2_toPowerOfS_37 : decode cX2_toPowerOfS 37 = .ok (.iconst 0, 1) := by decide +kernel
theorem dX2_toPowerOfS_38 : decode cX2_toPowerOfS 38 = .ok (.ireturn, 1) := by decide +kernel
theorem dX2_toPowerOfS_39 : decode cX2_toPowerOfS 39 = .ok (.aload_n 0, 1) := by decide +kernel
theorem dX2_toPowerOfS_40 : decode cX2_toPowerOfS 40 = .ok (.getfield 27, 3) := by decide +kernel
theorem dX2_toPowerOfS_43 : decode cX2_toPowerOfS 43 = .ok (.aload_n 2, 1) := by decide +kernel
theorem dX2_toPowerOfS_44 : decode cX2_toPowerOfS 44 = .ok (.iload_n 3, 1) := by decide +kernel
theorem dX2_toPowerOfS_45 : decode cX2_toPowerOfS 45 = .ok (.iconst 1, 1) := by decide +kernel
theorem dX2_toPowerOfS_46 : decode cX2_toPowerOfS 46 = .ok (.isub, 1) := by decide +kernel
theorem dX2_toPowerOfS_47 : decode cX2_toPowerOfS 47 = .ok (.invokestatic 87, 3) := by decide +kernel
theorem dX2_toPowerOfS_50 : decode cX2_toPowerOfS 50 = .ok (.aload_n 0, 1) := by decide +kernel
theorem dX2_toPowerOfS_51 : decode cX2_toPowerOfS 51 = .ok (.getfield 27, 3) := by decide +kernel
theorem dX2_toPowerOfS_54 : decode cX2_toPowerOfS 54 = .ok (.invokestatic 83, 3) := by decide +kernel
theorem dX2_toPowerOfS_57 : decode cX2_toPowerOfS 57 = .ok (.istore 4, 2) := by decide +kernel
theorem dX2_toPowerOfS_59 : decode cX2_toPowerOfS 59 = .ok (.iload 4, 2) := by decide +kernel
theorem dX2_toPowerOfS_61 : decode cX2_toPowerOfS 61 = .ok (.ifCond .ge 5, 3) := by decide +kernel
theorem dX2_toPowerOfS_64 : decode cX2_toPowerOfS 64 = .ok (.iconst 0, 1) := by decide +kernel
theorem dX2_toPowerOfS_65 : decode cX2_toPowerOfS 65 = .ok (.ireturn, 1) := by decide +kernel
theorem dX2_toPowerOfS_66 : decode cX2_toPowerOfS 66 = .ok (.aload_n 0, 1) := by decide +kernel
theorem dX2_toPowerOfS_67 : decode cX2_toPowerOfS 67 = .ok (.getfield 27, 3) := by decide +kernel
theorem dX2_toPowerOfS_70 : decode cX2_toPowerOfS 70 = .ok (.iload 4, 2) := by decide +kernel
theorem dX2_toPowerOfS_72 : decode cX2_toPowerOfS 72 = .ok (.iaload, 1) := by decide +kernel
theorem dX2_toPowerOfS_73 : decode cX2_toPowerOfS 73 = .ok (.invokestatic 91, 3) := by decide +kernel
theorem dX2_toPowerOfS_76 : decode cX2_toPowerOfS 76 = .ok (.istore 5, 2) := by decide +kernel
theorem dX2_toPowerOfS_78 : decode cX2_toPowerOfS 78 = .ok (.iconst 0, 1) := by decide +kernel
theorem dX2_toPowerOfS_79 : decode cX2_toPowerOfS 79 = .ok (.istore 6, 2) := by decide +kernel
theorem dX2_toPowerOfS_81 : decode cX2_toPowerOfS 81 = .ok (.iload 6, 2) := by decide +kernel
theorem dX2_toPowerOfS_83 : decode cX2_toPowerOfS 83 = .ok (.bipush 9, 2) := by decide +kernel
theorem dX2_toPowerOfS_85 : decode cX2_toPowerOfS 85 = .ok (.if_icmp .ge 37, 3) := by decide +kernel
theorem dX2_toPowerOfS_88 : decode cX2_toPowerOfS 88 = .ok (.aload_n 0, 1) := by decide +kernel
theorem dX2_toPowerOfS_89 : decode cX2_toPowerOfS 89 = .ok (.getfield 15, 3) := by decide +kernel
theorem dX2_toPowerOfS_92 : decode cX2_toPowerOfS 92 = .ok (.iload 6, 2) := by decide +kernel
theorem dX2_toPowerOfS_94 : decode cX2_toPowerOfS 94 = .ok (.iload 5, 2) := by decide +kernel
theorem dX2_toPowerOfS_96 : decode cX2_toPowerOfS 96 = .ok (.i2l, 1) := by decide +kernel
theorem dX2_toPowerOfS_97 : decode cX2_toPowerOfS 97 = .ok (.aload_n 0, 1) := by decide +kernel
theorem dX2_toPowerOfS_98 : decode cX2_toPowerOfS 98 = .ok (.getfield 11, 3) := by decide +kernel
theorem dX2_toPowerOfS_101 : decode cX2_toPowerOfS 101 = .ok (.iload 4, 2) := by decide +kernel
theorem dX2_toPowerOfS_103 : decode cX2_toPowerOfS 103 = .ok (.bipush 9, 2) := by decide +kernel
theorem dX2_toPowerOfS_105 : decode cX2_toPowerOfS 105 = .ok (.imul, 1) := by decide +kernel
theorem dX2_toPowerOfS_106 : decode cX2_toPowerOfS 106 = .ok (.iload 6, 2) := by decide +kernel
theorem dX2_toPowerOfS_108 : decode cX2_toPowerOfS 108 = .ok (.iadd, 1) := by decide +kernel
theorem dX2_toPowerOfS_109 : decode cX2_toPowerOfS 109 = .ok (.iaload, 1) := by decide +kernel
theorem dX2_toPowerOfS_110 : decode cX2_toPowerOfS 110 = .ok (.i2l, 1) := by decide +kernel
theorem dX2_toPowerOfS_111 : decode cX2_toPowerOfS 111 = .ok (.lmul, 1) := by decide +kernel
theorem dX2_toPowerOfS_112 : decode cX2_toPowerOfS 112 = .ok (.invokestatic 36, 3) := by decide +kernel
theorem dX2_toPowerOfS_115 : decode cX2_toPowerOfS 115 = .ok (.iastore, 1) := by decide +kernel
theorem dX2_toPowerOfS_116 : decode cX2_toPowerOfS 116 = .ok (.iinc 6 1, 3) := by decide +kernel
theorem dX2_toPowerOfS_119 : decode cX2_toPowerOfS 119 = .ok (.goto (-38), 3) := by decide +kernel
theorem dX2_toPowerOfS_122 : decode cX2_toPowerOfS 122 = .ok (.aload_n 0, 1) := by decide +kernel
theorem dX2_toPowerOfS_123 : decode cX2_toPowerOfS 123 = .ok (.invokevirtual 95, 3) := by decide +kernel
theorem dX2_toPowerOfS_126 : decode cX2_toPowerOfS 126 = .ok (.ireturn, 1) := by decide +kernel
set_option maxRecDepth 20000 in
theorem ggX2_sumIsBTimesPower_X3_fold : GoodIn wsX2_sumIsBTimesPower wsX3_fold := goodIn_r _ [7, 8] (by decide +kernel) (by decide +kernel)
set_option maxRecDepth 20000 in
theorem gX2_sumIsBTimesPower_X3_fold : GoodIn wsX2_sumIsBTimesPower (va_wsS RX2 36 yX3_fold wsX3_fold) := goodIn_app (goodIn_of _ (by decide +kernel)) ggX2_sumIsBTimesPower_X3_fold
theorem dX2_sumIsBTimesPower_0 : decode cX2_sumIsBTimesPower 0 = .ok (.iconst 0, 1) := by decide +kernel
theorem dX2_sumIsBTimesPower_1 : decode cX2_sumIsBTimesPower 1 = .ok (.istore_n 1, 1) := by decide +kernel
theorem dX2_sumIsBTimesPower_2 : decode cX2_sumIsBTimesPower 2 = .ok (.iload_n 1, 1) := by decide +kernel
theorem dX2_sumIsBTimesPower_3 : decode cX2_sumIsBTimesPower 3 = .ok (.bipush 25, 2) := by decide +kernel
theorem dX2_sumIsBTimesPower_5 : decode cX2_sumIsBTimesPower 5 = .ok (.if_icmp .ge 57, 3) := by decide +kernel
theorem dX2_sumIsBTimesPower_8 : decode cX2_sumIsBTimesPower 8 = .ok (.iconst 0, 1) := by decide +kernel
theorem dX2_sumIsBTimesPower_9 : decode cX2_sumIsBTimesPower 9 = .ok (.istore_n 2, 1) := by decide +kernel
theorem dX2_sumIsBTimesPower_10 : decode cX2_sumIsBTimesPower 10 = .ok (.iload_n 2, 1) := by decide +kernel
theorem dX2_sumIsBTimesPower_11 : decode cX2_sumIsBTimesPower 11 = .ok (.bipush 9, 2) := by decide +kernel
theorem dX2_sumIsBTimesPower_13 : decode cX2_sumIsBTimesPower 13 = .ok (.if_icmp .ge 43, 3) := by decide +kernel
theorem dX2_sumIsBTimesPower_16 : decode cX2_sumIsBTimesPower 16 = .ok (.aload_n 0, 1) := by decide +kernel
theorem dX2_sumIsBTimesPower_17 : decode cX2_sumIsBTimesPower 17 = .ok (.getfield 11, 3) := by decide +kernel
theorem dX2_sumIsBTimesPower_20 : decode cX2_sumIsBTimesPower 20 = .ok (.iload_n 1, 1) := by decide +kernel
theorem dX2_sumIsBTimesPower_21 : decode cX2_sumIsBTimesPower 21 = .ok (.bipush 9, 2) := by decide +kernel
theorem dX2_sumIsBTimesPower_23 : decode cX2_sumIsBTimesPower 23 = .ok (.imul, 1) := by decide +kernel
theorem dX2_sumIsBTimesPower_24 : decode cX2_sumIsBTimesPower 24 = .ok (.iload_n 2, 1) := by decide +kernel
theorem dX2_sumIsBTimesPower_25 : decode cX2_sumIsBTimesPower 25 = .ok (.iadd, 1) := by decide +kernel
theorem dX2_sumIsBTimesPower_26 : decode cX2_sumIsBTimesPower 26 = .ok (.iaload, 1) := by decide +kernel
theorem dX2_sumIsBTimesPower_27 : decode cX2_sumIsBTimesPower 27 = .ok (.aload_n 0, 1) := by decide +kernel
theorem dX2_sumIsBTimesPower_28 : decode cX2_sumIsBTimesPower 28 = .ok (.getfield 15, 3) := by decide +kernel
theorem dX2_sumIsBTimesPower_31 : decode cX2_sumIsBTimesPower 31 = .ok (.iload_n 2, 1) := by decide +kernel
theorem dX2_sumIsBTimesPower_32 : decode cX2_sumIsBTimesPower 32 = .ok (.iaload, 1) := by decide +kernel
theorem dX2_sumIsBTimesPower_33 : decode cX2_sumIsBTimesPower 33 = .ok (.i2l, 1) := by decide +kernel
theorem dX2_sumIsBTimesPower_34 : decode cX2_sumIsBTimesPower 34 = .ok (.aload_n 0, 1) := by decide +kernel
theorem dX2_sumIsBTimesPower_35 : decode cX2_sumIsBTimesPower 35 = .ok (.getfield 27, 3) := by decide +kernel
theorem dX2_sumIsBTimesPower_38 : decode cX2_sumIsBTimesPower 38 = .ok (.iload_n 1, 1) := by decide +kernel
theorem dX2_sumIsBTimesPower_39 : decode cX2_sumIsBTimesPower 39 = .ok (.iaload, 1) := by decide +kernel
theorem dX2_sumIsBTimesPower_40 : decode cX2_sumIsBTimesPower 40 = .ok (.i2l, 1) := by decide +kernel
theorem dX2_sumIsBTimesPower_41 : decode cX2_sumIsBTimesPower 41 = .ok (.lmul, 1) := by decide +kernel
theorem dX2_sumIsBTimesPower_42 : decode cX2_sumIsBTimesPower 42 = .ok (.invokestatic 36, 3) := by decide +kernel
theorem dX2_sumIsBTimesPower_45 : decode cX2_sumIsBTimesPower 45 = .ok (.if_icmp .eq 5, 3) := by decide +kernel
theorem dX2_sumIsBTimesPower_48 : decode cX2_sumIsBTimesPower 48 = .ok (.iconst 0, 1) := by decide +kernel
theorem dX2_sumIsBTimesPower_49 : decode cX2_sumIsBTimesPower 49 = .ok (.ireturn, 1) := by decide +kernel
theorem dX2_sumIsBTimesPower_50 : decode cX2_sumIsBTimesPower 50 = .ok (.iinc 2 1, 3) := by decide +kernel
theorem dX2_sumIsBTimesPower_53 : decode cX2_sumIsBTimesPower 53 = .ok (.goto (-43), 3) := by decide +kernel
theorem dX2_sumIsBTimesPower_56 : decode cX2_sumIsBTimesPower 56 = .ok (.iinc 1 1, 3) := by decide +kernel
theorem dX2_sumIsBTimesPower_59 : decode cX2_sumIsBTimesPower 59 = .ok (.goto (-57), 3) := by decide +kernel
theorem dX2_sumIsBTimesPower_62 : decode cX2_sumIsBTimesPower 62 = .ok (.iconst 1, 1) := by decide +kernel
theorem dX2_sumIsBTimesPower_63 : decode cX2_sumIsBTimesPower 63 = .ok (.ireturn, 1) := by decide +kernel
set_option maxRecDepth 20000 in
theorem ggX2_applyToWhole_X3_raise : GoodIn wsX2_applyToWhole wsX3_raise := goodIn_r _ [6, 7, 8, 9, 10, 11, 12, 5, 13, 14, 15, 16, 17] (by decide +kernel) (by decide +kernel)
set_option maxRecDepth 20000 in
theorem gX2_applyToWhole_X3_raise : GoodIn wsX2_applyToWhole (va_wsS RX2 87 yX3_raise wsX3_raise) := goodIn_app (goodIn_of _ (by decide +kernel)) ggX2_applyToWhole_X3_raise
set_option maxRecDepth 20000 in
theorem ggX2_applyToWhole_J7_fill_53178 : GoodIn wsX2_applyToWhole wsJ7_fill_53178 := goodIn_r _ [10] (by decide +kernel) (by decide +kernel)
set_option maxRecDepth 20000 in
theorem gX2_applyToWhole_J7_fill_53178 : GoodIn wsX2_applyToWhole (va_wsS RX2 30 yJ7_fill_53178 wsJ7_fill_53178) := goodIn_app (goodIn_of _ (by decide +kernel)) ggX2_applyToWhole_J7_fill_53178
set_option maxRecDepth 20000 in
theorem ggX2_applyToWhole_X3_derive : GoodIn wsX2_applyToWhole wsX3_derive := goodIn_r _ [21, 14, 15, 5, 16, 17] (by decide +kernel) (by decide +kernel)
set_option maxRecDepth 20000 in
theorem gX2_applyToWhole_X3_derive : GoodIn wsX2_applyToWhole (va_wsS RX2 99 yX3_derive wsX3_derive) := goodIn_app (goodIn_of _ (by decide +kernel)) ggX2_applyToWhole_X3_derive
set_option maxRecDepth 20000 in
theorem ggX2_applyToWhole_X2_factorOf : GoodIn wsX2_applyToWhole wsX2_factorOf := goodIn_r _ [25, 26, 27, 28, 29, 30, 31, 15, 5, 16, 17, 42] (by decide +kernel) (by decide +kernel)
set_option maxRecDepth 20000 in
theorem gX2_applyToWhole_X2_factorOf : GoodIn wsX2_applyToWhole (va_wsS RX2 103 yX2_factorOf wsX2_factorOf) := goodIn_app (goodIn_of _ (by decide +kernel)) ggX2_applyToWhole_X2_factorOf
set_option maxRecDepth 20000 in
theorem ggX2_applyToWhole_X2_addWhole : GoodIn wsX2_applyToWhole wsX2_addWhole := goodIn_r _ [35, 2, 1, 31, 15, 5, 16, 17, 36, 37, 38, 39, 40, 41] (by decide +kernel) (by decide +kernel)
set_option maxRecDepth 20000 in
theorem gX2_applyToWhole_X2_addWhole : GoodIn wsX2_applyToWhole (wsV RX2 107 RX2 yX2_addWhole wsX2_addWhole) := goodIn_app (goodIn_of _ (by decide +kernel)) ggX2_applyToWhole_X2_addWhole
theorem dX2_applyToWhole_0 : decode cX2_applyToWhole 0 = .ok (.aload_n 0, 1) := by decide +kernel
theorem dX2_applyToWhole_1 : decode cX2_applyToWhole 1 = .ok (.getfield 27, 3) := by decide +kernel
theorem dX2_applyToWhole_4 : decode cX2_applyToWhole 4 = .ok (.aload_n 2, 1) := by decide +kernel
theorem dX2_applyToWhole_5 : decode cX2_applyToWhole 5 = .ok (.iload_n 3, 1) := by decide +kernel
theorem dX2_applyToWhole_6 : decode cX2_applyToWhole 6 = .ok (.iconst 1, 1) := by decide +kernel
theorem dX2_applyToWhole_7 : decode cX2_applyToWhole 7 = .ok (.iadd, 1) := by decide +kernel
theorem dX2_applyToWhole_8 : decode cX2_applyToWhole 8 = .ok (.invokestatic 87, 3) := by decide +kernel
theorem dX2_applyToWhole_11 : decode cX2_applyToWhole 11 = .ok (.aload_n 0, 1) := by decide +kernel
theorem dX2_applyToWhole_12 : decode cX2_applyToWhole 12 = .ok (.getfield 18, 3) := by decide +kernel
theorem dX2_applyToWhole_15 : decode cX2_applyToWhole 15 = .ok (.iconst 0, 1) := by decide +kernel
theorem dX2_applyToWhole_16 : decode cX2_applyToWhole 16 = .ok (.invokestatic 30, 3) := by decide +kernel
theorem dX2_applyToWhole_19 : decode cX2_applyToWhole 19 = .ok (.iconst 0, 1) := by decide +kernel
theorem dX2_applyToWhole_20 : decode cX2_applyToWhole 20 = .ok (.istore 4, 2) := by decide +kernel
theorem dX2_applyToWhole_22 : decode cX2_applyToWhole 22 = .ok (.iload 4, 2) := by decide +kernel
theorem dX2_applyToWhole_24 : decode cX2_applyToWhole 24 = .ok (.iconst 4, 1) := by decide +kernel
theorem dX2_applyToWhole_25 : decode cX2_applyToWhole 25 = .ok (.if_icmp .gt 51, 3) := by decide +kernel
theorem dX2_applyToWhole_28 : decode cX2_applyToWhole 28 = .ok (.iload 4, 2) := by decide +kernel
theorem dX2_applyToWhole_30 : decode cX2_applyToWhole 30 = .ok (.ifCond .le 10, 3) := by decide +kernel
theorem dX2_applyToWhole_33 : decode cX2_applyToWhole 33 = .ok (.aload_n 0, 1) := by decide +kernel
theorem dX2_applyToWhole_34 : decode cX2_applyToWhole 34 = .ok (.getfield 27, 3) := by decide +kernel
theorem dX2_applyToWhole_37 : decode cX2_applyToWhole 37 = .ok (.invokestatic 99, 3) := by decide +kernel
theorem dX2_applyToWhole_40 : decode cX2_applyToWhole 40 = .ok (.iconst 0, 1) := by decide +kernel
theorem dX2_applyToWhole_41 : decode cX2_applyToWhole 41 = .ok (.istore 5, 2) := by decide +kernel
theorem dX2_applyToWhole_43 : decode cX2_applyToWhole 43 = .ok (.iload 5, 2) := by decide +kernel
theorem dX2_applyToWhole_45 : decode cX2_applyToWhole 45 = .ok (.iconst 4, 1) := by decide +kernel
theorem dX2_applyToWhole_46 : decode cX2_applyToWhole 46 = .ok (.if_icmp .gt 24, 3) := by decide +kernel
theorem dX2_applyToWhole_49 : decode cX2_applyToWhole 49 = .ok (.aload_n 0, 1) := by decide +kernel
theorem dX2_applyToWhole_50 : decode cX2_applyToWhole 50 = .ok (.aload_n 1, 1) := by decide +kernel
theorem dX2_applyToWhole_51 : decode cX2_applyToWhole 51 = .ok (.iload 4, 2) := by decide +kernel
theorem dX2_applyToWhole_53 : decode cX2_applyToWhole 53 = .ok (.iload 5, 2) := by decide +kernel
theorem dX2_applyToWhole_55 : decode cX2_applyToWhole 55 = .ok (.iload_n 3, 1) := by decide +kernel
theorem dX2_applyToWhole_56 : decode cX2_applyToWhole 56 = .ok (.invokestatic 103, 3) := by decide +kernel
theorem dX2_applyToWhole_59 : decode cX2_applyToWhole 59 = .ok (.iload 5, 2) := by decide +kernel
theorem dX2_applyToWhole_61 : decode cX2_applyToWhole 61 = .ok (.invokevirtual 107, 3) := by decide +kernel
theorem dX2_applyToWhole_64 : decode cX2_applyToWhole 64 = .ok (.iinc 5 1, 3) := by decide +kernel
theorem dX2_applyToWhole_67 : decode cX2_applyToWhole 67 = .ok (.goto (-24), 3) := by decide +kernel
theorem dX2_applyToWhole_70 : decode cX2_applyToWhole 70 = .ok (.iinc 4 1, 3) := by decide +kernel
theorem dX2_applyToWhole_73 : decode cX2_applyToWhole 73 = .ok (.goto (-51), 3) := by decide +kernel
theorem dX2_applyToWhole_76 : decode cX2_applyToWhole 76 = .ok (.return_, 1) := by decide +kernel
set_option maxRecDepth 20000 in
theorem ggX2_factorOf_X4_index : GoodIn wsX2_factorOf wsX4_index := goodIn_r _ [5] (by decide +kernel) (by decide +kernel)
set_option maxRecDepth 20000 in
theorem gX2_factorOf_X4_index : GoodIn wsX2_factorOf (va_wsS RX2 71 yX4_index wsX4_index) := goodIn_app (goodIn_of _ (by decide +kernel)) ggX2_factorOf_X4_index
set_option maxRecDepth 20000 in
theorem ggX2_factorOf_X3_fold : GoodIn wsX2_factorOf wsX3_fold := goodIn_r _ [9, 10] (by decide +kernel) (by decide +kernel)
set_option maxRecDepth 20000 in
theorem gX2_factorOf_X3_fold : GoodIn wsX2_factorOf (va_wsS RX2 36 yX3_fold wsX3_fold) := goodIn_app (goodIn_of _ (by decide +kernel)) ggX2_factorOf_X3_fold
theorem dX2_factorOf_0 : decode cX2_factorOf 0 = .ok (.lconst 0, 1) := by decide +kernel
theorem dX2_factorOf_1 : decode cX2_factorOf 1 = .ok (.lstore 4, 2) := by decide +kernel
theorem dX2_factorOf_3 : decode cX2_factorOf 3 = .ok (.iconst 2, 1) := by decide +kernel
theorem dX2_factorOf_4 : decode cX2_factorOf 4 = .ok (.istore 6, 2) := by decide +kernel
theorem dX2_factorOf_6 : decode cX2_factorOf 6 = .ok (.iload 6, 2) := by decide +kernel
theorem dX2_factorOf_8 : decode cX2_factorOf 8 = .ok (.ifCond .lt 30, 3) := by decide +kernel
theorem dX2_factorOf_11 : decode cX2_factorOf 11 = .ok (.lload 4, 2) := by decide +kernel
theorem dX2_factorOf_13 : decode cX2_factorOf 13 = .ok (.iload_n 3, 1) := by decide +kernel
theorem dX2_factorOf_14 : decode cX2_factorOf 14 = .ok (.i2l, 1) := by decide +kernel
theorem dX2_factorOf_15 : decode cX2_factorOf 15 = .ok (.lmul, 1) := by decide +kernel
theorem dX2_factorOf_16 : decode cX2_factorOf 16 = .ok (.aload_n 0, 1) := by decide +kernel
theorem dX2_factorOf_17 : decode cX2_factorOf 17 = .ok (.getfield 68, 3) := by decide +kernel
theorem dX2_factorOf_20 : decode cX2_factorOf 20 = .ok (.iload_n 1, 1) := by decide +kernel
theorem dX2_factorOf_21 : decode cX2_factorOf 21 = .ok (.iload_n 2, 1) := by decide +kernel
theorem dX2_factorOf_22 : decode cX2_factorOf 22 = .ok (.iload 6, 2) := by decide +kernel
theorem dX2_factorOf_24 : decode cX2_factorOf 24 = .ok (.invokestatic 71, 3) := by decide +kernel
theorem dX2_factorOf_27 : decode cX2_factorOf 27 = .ok (.iaload, 1) := by decide +kernel
theorem dX2_factorOf_28 : decode cX2_factorOf 28 = .ok (.i2l, 1) := by decide +kernel
theorem dX2_factorOf_29 : decode cX2_factorOf 29 = .ok (.ladd, 1) := by decide +kernel
theorem dX2_factorOf_30 : decode cX2_factorOf 30 = .ok (.lstore 4, 2) := by decide +kernel
theorem dX2_factorOf_32 : decode cX2_factorOf 32 = .ok (.iinc 6 (-1), 3) := by decide +kernel
theorem dX2_factorOf_35 : decode cX2_factorOf 35 = .ok (.goto (-29), 3) := by decide +kernel
theorem dX2_factorOf_38 : decode cX2_factorOf 38 = .ok (.lload 4, 2) := by decide +kernel
theorem dX2_factorOf_40 : decode cX2_factorOf 40 = .ok (.invokestatic 36, 3) := by decide +kernel
theorem dX2_factorOf_43 : decode cX2_factorOf 43 = .ok (.ireturn, 1) := by decide +kernel
set_option maxRecDepth 20000 in
theorem ggX2_addWhole_X3_fold : GoodIn wsX2_addWhole wsX3_fold := goodIn_r _ [6, 7] (by decide +kernel) (by decide +kernel)
set_option maxRecDepth 20000 in
theorem gX2_addWhole_X3_fold : GoodIn wsX2_addWhole (va_wsS RX2 36 yX3_fold wsX3_fold) := goodIn_app (goodIn_of _ (by decide +kernel)) ggX2_addWhole_X3_fold
theorem dX2_addWhole_0 : decode cX2_addWhole 0 = .ok (.iload_n 2, 1) := by decide +kernel
theorem dX2_addWhole_1 : decode cX2_addWhole 1 = .ok (.istore_n 3, 1) := by decide +kernel
theorem dX2_addWhole_2 : decode cX2_addWhole 2 = .ok (.iload_n 3, 1) := by decide +kernel
theorem dX2_addWhole_3 : decode cX2_addWhole 3 = .ok (.bipush 20, 2) := by decide +kernel
theorem dX2_addWhole_5 : decode cX2_addWhole 5 = .ok (.if_icmp .gt 38, 3) := by decide +kernel
theorem dX2_addWhole_8 : decode cX2_addWhole 8 = .ok (.aload_n 0, 1) := by decide +kernel
theorem dX2_addWhole_9 : decode cX2_addWhole 9 = .ok (.getfield 18, 3) := by decide +kernel
theorem dX2_addWhole_12 : decode cX2_addWhole 12 = .ok (.iload_n 3, 1) := by decide +kernel
theorem dX2_addWhole_13 : decode cX2_addWhole 13 = .ok (.aload_n 0, 1) := by decide +kernel
theorem dX2_addWhole_14 : decode cX2_addWhole 14 = .ok (.getfield 18, 3) := by decide +kernel
theorem dX2_addWhole_17 : decode cX2_addWhole 17 = .ok (.iload_n 3, 1) := by decide +kernel
theorem dX2_addWhole_18 : decode cX2_addWhole 18 = .ok (.iaload, 1) := by decide +kernel
theorem dX2_addWhole_19 : decode cX2_addWhole 19 = .ok (.i2l, 1) := by decide +kernel
theorem dX2_addWhole_20 : decode cX2_addWhole 20 = .ok (.iload_n 1, 1) := by decide +kernel
theorem dX2_addWhole_21 : decode cX2_addWhole 21 = .ok (.i2l, 1) := by decide +kernel
theorem dX2_addWhole_22 : decode cX2_addWhole 22 = .ok (.aload_n 0, 1) := by decide +kernel
theorem dX2_addWhole_23 : decode cX2_addWhole 23 = .ok (.getfield 27, 3) := by decide +kernel
theorem dX2_addWhole_26 : decode cX2_addWhole 26 = .ok (.iload_n 3, 1) := by decide +kernel
theorem dX2_addWhole_27 : decode cX2_addWhole 27 = .ok (.iload_n 2, 1) := by decide +kernel
theorem dX2_addWhole_28 : decode cX2_addWhole 28 = .ok (.isub, 1) := by decide +kernel
theorem dX2_addWhole_29 : decode cX2_addWhole 29 = .ok (.iaload, 1) := by decide +kernel
theorem dX2_addWhole_30 : decode cX2_addWhole 30 = .ok (.i2l, 1) := by decide +kernel
theorem dX2_addWhole_31 : decode cX2_addWhole 31 = .ok (.lmul, 1) := by decide +kernel
theorem dX2_addWhole_32 : decode cX2_addWhole 32 = .ok (.ladd, 1) := by decide +kernel
theorem dX2_addWhole_33 : decode cX2_addWhole 33 = .ok (.invokestatic 36, 3) := by decide +kernel
theorem dX2_addWhole_36 : decode cX2_addWhole 36 = .ok (.iastore, 1) := by decide +kernel
theorem dX2_addWhole_37 : decode cX2_addWhole 37 = .ok (.iinc 3 1, 3) := by decide +kernel
theorem dX2_addWhole_40 : decode cX2_addWhole 40 = .ok (.goto (-38), 3) := by decide +kernel
theorem dX2_addWhole_43 : decode cX2_addWhole 43 = .ok (.return_, 1) := by decide +kernel
set_option maxRecDepth 20000 in
theorem ggX2_wholeIs_X3_raise : GoodIn wsX2_wholeIs wsX3_raise := goodIn_r _ [6, 7, 8, 9, 10, 11, 12, 5, 13, 14, 15, 16, 17] (by decide +kernel) (by decide +kernel)
set_option maxRecDepth 20000 in
theorem gX2_wholeIs_X3_raise : GoodIn wsX2_wholeIs (va_wsS RX2 87 yX3_raise wsX3_raise) := goodIn_app (goodIn_of _ (by decide +kernel)) ggX2_wholeIs_X3_raise
set_option maxRecDepth 20000 in
theorem ggX2_wholeIs_X3_fold : GoodIn wsX2_wholeIs wsX3_fold := goodIn_r _ [16, 17] (by decide +kernel) (by decide +kernel)
set_option maxRecDepth 20000 in
theorem gX2_wholeIs_X3_fold : GoodIn wsX2_wholeIs (va_wsS RX2 36 yX3_fold wsX3_fold) := goodIn_app (goodIn_of _ (by decide +kernel)) ggX2_wholeIs_X3_fold
theorem dX2_wholeIs_0 : decode cX2_wholeIs 0 = .ok (.aload_n 0, 1) := by decide +kernel
theorem dX2_wholeIs_1 : decode cX2_wholeIs 1 = .ok (.getfield 27, 3) := by decide +kernel
theorem dX2_wholeIs_4 : decode cX2_wholeIs 4 = .ok (.aload_n 2, 1) := by decide +kernel
theorem dX2_wholeIs_5 : decode cX2_wholeIs 5 = .ok (.iload_n 3, 1) := by decide +kernel
theorem dX2_wholeIs_6 : decode cX2_wholeIs 6 = .ok (.invokestatic 87, 3) := by decide +kernel
theorem dX2_wholeIs_9 : decode cX2_wholeIs 9 = .ok (.iconst 0, 1) := by decide +kernel
theorem dX2_wholeIs_10 : decode cX2_wholeIs 10 = .ok (.istore 4, 2) := by decide +kernel
theorem dX2_wholeIs_12 : decode cX2_wholeIs 12 = .ok (.iload 4, 2) := by decide +kernel
theorem dX2_wholeIs_14 : decode cX2_wholeIs 14 = .ok (.bipush 20, 2) := by decide +kernel
theorem dX2_wholeIs_16 : decode cX2_wholeIs 16 = .ok (.if_icmp .gt 35, 3) := by decide +kernel
theorem dX2_wholeIs_19 : decode cX2_wholeIs 19 = .ok (.aload_n 0, 1) := by decide +kernel
theorem dX2_wholeIs_20 : decode cX2_wholeIs 20 = .ok (.getfield 18, 3) := by decide +kernel
theorem dX2_wholeIs_23 : decode cX2_wholeIs 23 = .ok (.iload 4, 2) := by decide +kernel
theorem dX2_wholeIs_25 : decode cX2_wholeIs 25 = .ok (.iaload, 1) := by decide +kernel
theorem dX2_wholeIs_26 : decode cX2_wholeIs 26 = .ok (.iload_n 1, 1) := by decide +kernel
theorem dX2_wholeIs_27 : decode cX2_wholeIs 27 = .ok (.i2l, 1) := by decide +kernel
theorem dX2_wholeIs_28 : decode cX2_wholeIs 28 = .ok (.aload_n 0, 1) := by decide +kernel
theorem dX2_wholeIs_29 : decode cX2_wholeIs 29 = .ok (.getfield 27, 3) := by decide +kernel
theorem dX2_wholeIs_32 : decode cX2_wholeIs 32 = .ok (.iload 4, 2) := by decide +kernel
theorem dX2_wholeIs_34 : decode cX2_wholeIs 34 = .ok (.iaload, 1) := by decide +kernel
theorem dX2_wholeIs_35 : decode cX2_wholeIs 35 = .ok (.i2l, 1) := by decide +kernel
theorem dX2_wholeIs_36 : decode cX2_wholeIs 36 = .ok (.lmul, 1) := by decide +kernel
theorem dX2_wholeIs_37 : decode cX2_wholeIs 37 = .ok (.invokestatic 36, 3) := by decide +kernel
theorem dX2_wholeIs_40 : decode cX2_wholeIs 40 = .ok (.if_icmp .eq 5, 3) := by decide +kernel
theorem dX2_wholeIs_43 : decode cX2_wholeIs 43 = .ok (.iconst 0, 1) := by decide +kernel
theorem dX2_wholeIs_44 : decode cX2_wholeIs 44 = .ok (.ireturn, 1) := by decide +kernel
theorem dX2_wholeIs_45 : decode cX2_wholeIs 45 = .ok (.iinc 4 1, 3) := by decide +kernel
theorem dX2_wholeIs_48 : decode cX2_wholeIs 48 = .ok (.goto (-36), 3) := by decide +kernel
theorem dX2_wholeIs_51 : decode cX2_wholeIs 51 = .ok (.iconst 1, 1) := by decide +kernel
theorem dX2_wholeIs_52 : decode cX2_wholeIs 52 = .ok (.ireturn, 1) := by decide +kernel
theorem dX3_fold_0 : decode cX3_fold 0 = .ok (.lload_n 0, 1) := by decide +kernel
theorem dX3_fold_1 : decode cX3_fold 1 = .ok (.ldc2_w 9, 3) := by decide +kernel
theorem dX3_fold_4 : decode cX3_fold 4 = .ok (.lrem, 1) := by decide +kernel
theorem dX3_fold_5 : decode cX3_fold 5 = .ok (.l2i, 1) := by decide +kernel
theorem dX3_fold_6 : decode cX3_fold 6 = .ok (.istore_n 2, 1) := by decide +kernel
theorem dX3_fold_7 : decode cX3_fold 7 = .ok (.iload_n 2, 1) := by decide +kernel
theorem dX3_fold_8 : decode cX3_fold 8 = .ok (.sipush 5003, 3) := by decide +kernel
theorem dX3_fold_11 : decode cX3_fold 11 = .ok (.if_icmp .le 9, 3) := by decide +kernel
theorem dX3_fold_14 : decode cX3_fold 14 = .ok (.iload_n 2, 1) := by decide +kernel
theorem dX3_fold_15 : decode cX3_fold 15 = .ok (.sipush 10007, 3) := by decide +kernel
theorem dX3_fold_18 : decode cX3_fold 18 = .ok (.isub, 1) := by decide +kernel
theorem dX3_fold_19 : decode cX3_fold 19 = .ok (.ireturn, 1) := by decide +kernel
theorem dX3_fold_20 : decode cX3_fold 20 = .ok (.iload_n 2, 1) := by decide +kernel
theorem dX3_fold_21 : decode cX3_fold 21 = .ok (.sipush (-5003), 3) := by decide +kernel
theorem dX3_fold_24 : decode cX3_fold 24 = .ok (.if_icmp .ge 11, 3) := by decide +kernel
theorem dX3_fold_27 : decode cX3_fold 27 = .ok (.iload_n 2, 1) := by decide +kernel
theorem dX3_fold_28 : decode cX3_fold 28 = .ok (.sipush 10007, 3) := by decide +kernel
theorem dX3_fold_31 : decode cX3_fold 31 = .ok (.iadd, 1) := by decide +kernel
theorem dX3_fold_32 : decode cX3_fold 32 = .ok (.goto 4, 3) := by decide +kernel
theorem dX3_fold_35 : decode cX3_fold 35 = .ok (.iload_n 2, 1) := by decide +kernel
theorem dX3_fold_36 : decode cX3_fold 36 = .ok (.ireturn, 1) := by decide +kernel
set_option maxRecDepth 20000 in
theorem ggX3_inverse_X3_fold : GoodIn wsX3_inverse wsX3_fold := goodIn_r _ [4, 5] (by decide +kernel) (by decide +kernel)
set_option maxRecDepth 20000 in
theorem gX3_inverse_X3_fold : GoodIn wsX3_inverse (va_wsS RX3 11 yX3_fold wsX3_fold) := goodIn_app (goodIn_of _ (by decide +kernel)) ggX3_inverse_X3_fold
theorem dX3_inverse_0 : decode cX3_inverse 0 = .ok (.iconst 1, 1) := by decide +kernel
theorem dX3_inverse_1 : decode cX3_inverse 1 = .ok (.istore_n 1, 1) := by decide +kernel
theorem dX3_inverse_2 : decode cX3_inverse 2 = .ok (.iload_n 0, 1) := by decide +kernel
theorem dX3_inverse_3 : decode cX3_inverse 3 = .ok (.i2l, 1) := by decide +kernel
theorem dX3_inverse_4 : decode cX3_inverse 4 = .ok (.invokestatic 11, 3) := by decide +kernel
theorem dX3_inverse_7 : decode cX3_inverse 7 = .ok (.istore_n 2, 1) := by decide +kernel
theorem dX3_inverse_8 : decode cX3_inverse 8 = .ok (.sipush 10005, 3) := by decide +kernel
theorem dX3_inverse_11 : decode cX3_inverse 11 = .ok (.istore_n 3, 1) := by decide +kernel
theorem dX3_inverse_12 : decode cX3_inverse 12 = .ok (.iload_n 3, 1) := by decide +kernel
theorem dX3_inverse_13 : decode cX3_inverse 13 = .ok (.ifCond .le 35, 3) := by decide +kernel
theorem dX3_inverse_16 : decode cX3_inverse 16 = .ok (.iload_n 3, 1) := by decide +kernel
theorem dX3_inverse_17 : decode cX3_inverse 17 = .ok (.iconst 1, 1) := by decide +kernel
theorem dX3_inverse_18 : decode cX3_inverse 18 = .ok (.iand, 1) := by decide +kernel
theorem dX3_inverse_19 : decode cX3_inverse 19 = .ok (.iconst 1, 1) := by decide +kernel
theorem dX3_inverse_20 : decode cX3_inverse 20 = .ok (.if_icmp .ne 12, 3) := by decide +kernel
theorem dX3_inverse_23 : decode cX3_inverse 23 = .ok (.iload_n 1, 1) := by decide +kernel
theorem dX3_inverse_24 : decode cX3_inverse 24 = .ok (.i2l, 1) := by decide +kernel
theorem dX3_inverse_25 : decode cX3_inverse 25 = .ok (.iload_n 2, 1) := by decide +kernel
theorem dX3_inverse_26 : decode cX3_inverse 26 = .ok (.i2l, 1) := by decide +kernel
theorem dX3_inverse_27 : decode cX3_inverse 27 = .ok (.lmul, 1) := by decide +kernel
theorem dX3_inverse_28 : decode cX3_inverse 28 = .ok (.invokestatic 11, 3) := by decide +kernel
theorem dX3_inverse_31 : decode cX3_inverse 31 = .ok (.istore_n 1, 1) := by decide +kernel
theorem dX3_inverse_32 : decode cX3_inverse 32 = .ok (.iload_n 2, 1) := by decide +kernel
theorem dX3_inverse_33 : decode cX3_inverse 33 = .ok (.i2l, 1) := by decide +kernel
theorem dX3_inverse_34 : decode cX3_inverse 34 = .ok (.iload_n 2, 1) := by decide +kernel
theorem dX3_inverse_35 : decode cX3_inverse 35 = .ok (.i2l, 1) := by decide +kernel
theorem dX3_inverse_36 : decode cX3_inverse 36 = .ok (.lmul, 1) := by decide +kernel
theorem dX3_inverse_37 : decode cX3_inverse 37 = .ok (.invokestatic 11, 3) := by decide +kernel
theorem dX3_inverse_40 : decode cX3_inverse 40 = .ok (.istore_n 2, 1) := by decide +kernel
theorem dX3_inverse_41 : decode cX3_inverse 41 = .ok (.iload_n 3, 1) := by decide +kernel
theorem dX3_inverse_42 : decode cX3_inverse 42 = .ok (.iconst 1, 1) := by decide +kernel
theorem dX3_inverse_43 : decode cX3_inverse 43 = .ok (.ishr, 1) := by decide +kernel
theorem dX3_inverse_44 : decode cX3_inverse 44 = .ok (.istore_n 3, 1) := by decide +kernel
theorem dX3_inverse_45 : decode cX3_inverse 45 = .ok (.goto (-33), 3) := by decide +kernel
theorem dX3_inverse_48 : decode cX3_inverse 48 = .ok (.iload_n 1, 1) := by decide +kernel
theorem dX3_inverse_49 : decode cX3_inverse 49 = .ok (.ireturn, 1) := by decide +kernel
theorem dX3_highest_0 : decode cX3_highest 0 = .ok (.aload_n 0, 1) := by decide +kernel
theorem dX3_highest_1 : decode cX3_highest 1 = .ok (.arraylength, 1) := by decide +kernel
theorem dX3_highest_2 : decode cX3_highest 2 = .ok (.iconst 1, 1) := by decide +kernel
theorem dX3_highest_3 : decode cX3_highest 3 = .ok (.isub, 1) := by decide +kernel
theorem dX3_highest_4 : decode cX3_highest 4 = .ok (.istore_n 1, 1) := by decide +kernel
theorem dX3_highest_5 : decode cX3_highest 5 = .ok (.iload_n 1, 1) := by decide +kernel
theorem dX3_highest_6 : decode cX3_highest 6 = .ok (.ifCond .lt 17, 3) := by decide +kernel
theorem dX3_highest_9 : decode cX3_highest 9 = .ok (.aload_n 0, 1) := by decide +kernel
theorem dX3_highest_10 : decode cX3_highest 10 = .ok (.iload_n 1, 1) := by decide +kernel
theorem dX3_highest_11 : decode cX3_highest 11 = .ok (.iaload, 1) := by decide +kernel
theorem dX3_highest_12 : decode cX3_highest 12 = .ok (.ifCond .eq 5, 3) := by decide +kernel
theorem dX3_highest_15 : decode cX3_highest 15 = .ok (.iload_n 1, 1) := by decide +kernel
theorem dX3_highest_16 : decode cX3_highest 16 = .ok (.ireturn, 1) := by decide +kernel
theorem dX3_highest_17 : decode cX3_highest 17 = .ok (.iinc 1 (-1), 3) := by decide +kernel
theorem dX3_highest_20 : decode cX3_highest 20 = .ok (.goto (-15), 3) := by decide +kernel
theorem dX3_highest_23 : decode cX3_highest 23 = .ok (.iconst (-1), 1) := by decide +kernel
theorem dX3_highest_24 : decode cX3_highest 24 = .ok (.ireturn, 1) := by decide +kernel
theorem dX3_others_0 : decode cX3_others 0 = .ok (.iconst 0, 1) := by decide +kernel
theorem dX3_others_1 : decode cX3_others 1 = .ok (.istore_n 1, 1) := by decide +kernel
theorem dX3_others_2 : decode cX3_others 2 = .ok (.aload_n 0, 1) := by decide +kernel
theorem dX3_others_3 : decode cX3_others 3 = .ok (.astore_n 2, 1) := by decide +kernel
theorem dX3_others_4 : decode cX3_others 4 = .ok (.aload_n 2, 1) := by decide +kernel
theorem dX3_others_5 : decode cX3_others 5 = .ok (.arraylength, 1) := by decide +kernel
theorem dX3_others_6 : decode cX3_others 6 = .ok (.istore_n 3, 1) := by decide +kernel
theorem dX3_others_7 : decode cX3_others 7 = .ok (.iconst 0, 1) := by decide +kernel
theorem dX3_others_8 : decode cX3_others 8 = .ok (.istore 4, 2) := by decide +kernel
theorem dX3_others_10 : decode cX3_others 10 = .ok (.iload 4, 2) := by decide +kernel
theorem dX3_others_12 : decode cX3_others 12 = .ok (.iload_n 3, 1) := by decide +kernel
theorem dX3_others_13 : decode cX3_others 13 = .ok (.if_icmp .ge 23, 3) := by decide +kernel
theorem dX3_others_16 : decode cX3_others 16 = .ok (.aload_n 2, 1) := by decide +kernel
theorem dX3_others_17 : decode cX3_others 17 = .ok (.iload 4, 2) := by decide +kernel
theorem dX3_others_19 : decode cX3_others 19 = .ok (.iaload, 1) := by decide +kernel
theorem dX3_others_20 : decode cX3_others 20 = .ok (.istore 5, 2) := by decide +kernel
theorem dX3_others_22 : decode cX3_others 22 = .ok (.iload 5, 2) := by decide +kernel
theorem dX3_others_24 : decode cX3_others 24 = .ok (.ifCond .eq 6, 3) := by decide +kernel
theorem dX3_others_27 : decode cX3_others 27 = .ok (.iinc 1 1, 3) := by decide +kernel
theorem dX3_others_30 : decode cX3_others 30 = .ok (.iinc 4 1, 3) := by decide +kernel
theorem dX3_others_33 : decode cX3_others 33 = .ok (.goto (-23), 3) := by decide +kernel
theorem dX3_others_36 : decode cX3_others 36 = .ok (.iload_n 1, 1) := by decide +kernel
theorem dX3_others_37 : decode cX3_others 37 = .ok (.ireturn, 1) := by decide +kernel
theorem dX3_notBelow_0 : decode cX3_notBelow 0 = .ok (.iconst 0, 1) := by decide +kernel
theorem dX3_notBelow_1 : decode cX3_notBelow 1 = .ok (.istore_n 1, 1) := by decide +kernel
theorem dX3_notBelow_2 : decode cX3_notBelow 2 = .ok (.aload_n 0, 1) := by decide +kernel
theorem dX3_notBelow_3 : decode cX3_notBelow 3 = .ok (.astore_n 2, 1) := by decide +kernel
theorem dX3_notBelow_4 : decode cX3_notBelow 4 = .ok (.aload_n 2, 1) := by decide +kernel
theorem dX3_notBelow_5 : decode cX3_notBelow 5 = .ok (.arraylength, 1) := by decide +kernel
theorem dX3_notBelow_6 : decode cX3_notBelow 6 = .ok (.istore_n 3, 1) := by decide +kernel
theorem dX3_notBelow_7 : decode cX3_notBelow 7 = .ok (.iconst 0, 1) := by decide +kernel
theorem dX3_notBelow_8 : decode cX3_notBelow 8 = .ok (.istore 4, 2) := by decide +kernel
theorem dX3_notBelow_10 : decode cX3_notBelow 10 = .ok (.iload 4, 2) := by decide +kernel
theorem dX3_notBelow_12 : decode cX3_notBelow 12 = .ok (.iload_n 3, 1) := by decide +kernel
theorem dX3_notBelow_13 : decode cX3_notBelow 13 = .ok (.if_icmp .ge 23, 3) := by decide +kernel
theorem dX3_notBelow_16 : decode cX3_notBelow 16 = .ok (.aload_n 2, 1) := by decide +kernel
theorem dX3_notBelow_17 : decode cX3_notBelow 17 = .ok (.iload 4, 2) := by decide +kernel
theorem dX3_notBelow_19 : decode cX3_notBelow 19 = .ok (.iaload, 1) := by decide +kernel
theorem dX3_notBelow_20 : decode cX3_notBelow 20 = .ok (.istore 5, 2) := by decide +kernel
theorem dX3_notBelow_22 : decode cX3_notBelow 22 = .ok (.iload 5, 2) := by decide +kernel
theorem dX3_notBelow_24 : decode cX3_notBelow 24 = .ok (.ifCond .lt 6, 3) := by decide +kernel
theorem dX3_notBelow_27 : decode cX3_notBelow 27 = .ok (.iinc 1 1, 3) := by decide +kernel
theorem dX3_notBelow_30 : decode cX3_notBelow 30 = .ok (.iinc 4 1, 3) := by decide +kernel
theorem dX3_notBelow_33 : decode cX3_notBelow 33 = .ok (.goto (-23), 3) := by decide +kernel
theorem dX3_notBelow_36 : decode cX3_notBelow 36 = .ok (.iload_n 1, 1) := by decide +kernel
theorem dX3_notBelow_37 : decode cX3_notBelow 37 = .ok (.ireturn, 1) := by decide +kernel
set_option maxRecDepth 20000 in
theorem ggX3_multiply_X3_fold : GoodIn wsX3_multiply wsX3_fold := goodIn_r _ [4, 5] (by decide +kernel) (by decide +kernel)
set_option maxRecDepth 20000 in
theorem gX3_multiply_X3_fold : GoodIn wsX3_multiply (va_wsS RX3 11 yX3_fold wsX3_fold) := goodIn_app (goodIn_of _ (by decide +kernel)) ggX3_multiply_X3_fold
theorem dX3_multiply_0 : decode cX3_multiply 0 = .ok (.aload_n 0, 1) := by decide +kernel
theorem dX3_multiply_1 : decode cX3_multiply 1 = .ok (.arraylength, 1) := by decide +kernel
theorem dX3_multiply_2 : decode cX3_multiply 2 = .ok (.iconst 1, 1) := by decide +kernel
theorem dX3_multiply_3 : decode cX3_multiply 3 = .ok (.isub, 1) := by decide +kernel
theorem dX3_multiply_4 : decode cX3_multiply 4 = .ok (.istore_n 2, 1) := by decide +kernel
theorem dX3_multiply_5 : decode cX3_multiply 5 = .ok (.iload_n 2, 1) := by decide +kernel
theorem dX3_multiply_6 : decode cX3_multiply 6 = .ok (.ifCond .lt 55, 3) := by decide +kernel
theorem dX3_multiply_9 : decode cX3_multiply 9 = .ok (.lconst 0, 1) := by decide +kernel
theorem dX3_multiply_10 : decode cX3_multiply 10 = .ok (.lstore_n 3, 1) := by decide +kernel
theorem dX3_multiply_11 : decode cX3_multiply 11 = .ok (.iconst 0, 1) := by decide +kernel
theorem dX3_multiply_12 : decode cX3_multiply 12 = .ok (.istore 5, 2) := by decide +kernel
theorem dX3_multiply_14 : decode cX3_multiply 14 = .ok (.iload 5, 2) := by decide +kernel
theorem dX3_multiply_16 : decode cX3_multiply 16 = .ok (.iconst 4, 1) := by decide +kernel
theorem dX3_multiply_17 : decode cX3_multiply 17 = .ok (.if_icmp .gt 31, 3) := by decide +kernel
theorem dX3_multiply_20 : decode cX3_multiply 20 = .ok (.iload 5, 2) := by decide +kernel
theorem dX3_multiply_22 : decode cX3_multiply 22 = .ok (.iload_n 2, 1) := by decide +kernel
theorem dX3_multiply_23 : decode cX3_multiply 23 = .ok (.if_icmp .gt 25, 3) := by decide +kernel
theorem dX3_multiply_26 : decode cX3_multiply 26 = .ok (.lload_n 3, 1) := by decide +kernel
theorem dX3_multiply_27 : decode cX3_multiply 27 = .ok (.aload_n 1, 1) := by decide +kernel
theorem dX3_multiply_28 : decode cX3_multiply 28 = .ok (.iload 5, 2) := by decide +kernel
theorem dX3_multiply_30 : decode cX3_multiply 30 = .ok (.iaload, 1) := by decide +kernel
theorem dX3_multiply_31 : decode cX3_multiply 31 = .ok (.i2l, 1) := by decide +kernel
theorem dX3_multiply_32 : decode cX3_multiply 32 = .ok (.aload_n 0, 1) := by decide +kernel
theorem dX3_multiply_33 : decode cX3_multiply 33 = .ok (.iload_n 2, 1) := by decide +kernel
theorem dX3_multiply_34 : decode cX3_multiply 34 = .ok (.iload 5, 2) := by decide +kernel
theorem dX3_multiply_36 : decode cX3_multiply 36 = .ok (.isub, 1) := by decide +kernel
theorem dX3_multiply_37 : decode cX3_multiply 37 = .ok (.iaload, 1) := by decide +kernel
theorem dX3_multiply_38 : decode cX3_multiply 38 = .ok (.i2l, 1) := by decide +kernel
theorem dX3_multiply_39 : decode cX3_multiply 39 = .ok (.lmul, 1) := by decide +kernel
theorem dX3_multiply_40 : decode cX3_multiply 40 = .ok (.ladd, 1) := by decide +kernel
theorem dX3_multiply_41 : decode cX3_multiply 41 = .ok (.lstore_n 3, 1) := by decide +kernel
theorem dX3_multiply_42 : decode cX3_multiply 42 = .ok (.iinc 5 1, 3) := by decide +kernel
theorem dX3_multiply_45 : decode cX3_multiply 45 = .ok (.goto (-31), 3) := by decide +kernel
theorem dX3_multiply_48 : decode cX3_multiply 48 = .ok (.aload_n 0, 1) := by decide +kernel
theorem dX3_multiply_49 : decode cX3_multiply 49 = .ok (.iload_n 2, 1) := by decide +kernel
theorem dX3_multiply_50 : decode cX3_multiply 50 = .ok (.lload_n 3, 1) := by decide +kernel
theorem dX3_multiply_51 : decode cX3_multiply 51 = .ok (.invokestatic 11, 3) := by decide +kernel
theorem dX3_multiply_54 : decode cX3_multiply 54 = .ok (.iastore, 1) := by decide +kernel
theorem dX3_multiply_55 : decode cX3_multiply 55 = .ok (.iinc 2 (-1), 3) := by decide +kernel
theorem dX3_multiply_58 : decode cX3_multiply 58 = .ok (.goto (-53), 3) := by decide +kernel
theorem dX3_multiply_61 : decode cX3_multiply 61 = .ok (.return_, 1) := by decide +kernel
set_option maxRecDepth 20000 in
theorem ggX3_raise_J7_fill_53178 : GoodIn wsX3_raise wsJ7_fill_53178 := goodIn_r _ [4] (by decide +kernel) (by decide +kernel)
set_option maxRecDepth 20000 in
theorem gX3_raise_J7_fill_53178 : GoodIn wsX3_raise (va_wsS RX3 17 yJ7_fill_53178 wsJ7_fill_53178) := goodIn_app (goodIn_of _ (by decide +kernel)) ggX3_raise_J7_fill_53178
set_option maxRecDepth 20000 in
theorem ggX3_raise_X3_multiply : GoodIn wsX3_raise wsX3_multiply := goodIn_r _ [8, 9, 10, 7, 11, 12] (by decide +kernel) (by decide +kernel)
set_option maxRecDepth 20000 in
theorem gX3_raise_X3_multiply : GoodIn wsX3_raise (va_wsS RX3 23 yX3_multiply wsX3_multiply) := goodIn_app (goodIn_of _ (by decide +kernel)) ggX3_raise_X3_multiply
theorem dX3_raise_0 : decode cX3_raise 0 = .ok (.aload_n 0, 1) := by decide +kernel
theorem dX3_raise_1 : decode cX3_raise 1 = .ok (.iconst 0, 1) := by decide +kernel
theorem dX3_raise_2 : decode cX3_raise 2 = .ok (.invokestatic 17, 3) := by decide +kernel
theorem dX3_raise_5 : decode cX3_raise 5 = .ok (.aload_n 0, 1) := by decide +kernel
theorem dX3_raise_6 : decode cX3_raise 6 = .ok (.iconst 0, 1) := by decide +kernel
theorem dX3_raise_7 : decode cX3_raise 7 = .ok (.iconst 1, 1) := by decide +kernel
theorem dX3_raise_8 : decode cX3_raise 8 = .ok (.iastore, 1) := by decide +kernel
theorem dX3_raise_9 : decode cX3_raise 9 = .ok (.iconst 0, 1) := by decide +kernel
theorem dX3_raise_10 : decode cX3_raise 10 = .ok (.istore_n 3, 1) := by decide +kernel
theorem dX3_raise_11 : decode cX3_raise 11 = .ok (.iload_n 3, 1) := by decide +kernel
theorem dX3_raise_12 : decode cX3_raise 12 = .ok (.iload_n 2, 1) := by decide +kernel
theorem dX3_raise_13 : decode cX3_raise 13 = .ok (.if_icmp .ge 14, 3) := by decide +kernel
theorem dX3_raise_16 : decode cX3_raise 16 = .ok (.aload_n 0, 1) := by decide +kernel
theorem dX3_raise_17 : decode cX3_raise 17 = .ok (.aload_n 1, 1) := by decide +kernel
theorem dX3_raise_18 : decode cX3_raise 18 = .ok (.invokestatic 23, 3) := by decide +kernel
theorem dX3_raise_21 : decode cX3_raise 21 = .ok (.iinc 3 1, 3) := by decide +kernel
theorem dX3_raise_24 : decode cX3_raise 24 = .ok (.goto (-13), 3) := by decide +kernel
theorem dX3_raise_27 : decode cX3_raise 27 = .ok (.return_, 1) := by decide +kernel
set_option maxRecDepth 20000 in
theorem ggX3_derive_X3_fold : GoodIn wsX3_derive wsX3_fold := goodIn_r _ [4, 5] (by decide +kernel) (by decide +kernel)
set_option maxRecDepth 20000 in
theorem gX3_derive_X3_fold : GoodIn wsX3_derive (va_wsS RX3 11 yX3_fold wsX3_fold) := goodIn_app (goodIn_of _ (by decide +kernel)) ggX3_derive_X3_fold
theorem dX3_derive_0 : decode cX3_derive 0 = .ok (.iconst 1, 1) := by decide +kernel
theorem dX3_derive_1 : decode cX3_derive 1 = .ok (.istore_n 1, 1) := by decide +kernel
theorem dX3_derive_2 : decode cX3_derive 2 = .ok (.iload_n 1, 1) := by decide +kernel
theorem dX3_derive_3 : decode cX3_derive 3 = .ok (.aload_n 0, 1) := by decide +kernel
theorem dX3_derive_4 : decode cX3_derive 4 = .ok (.arraylength, 1) := by decide +kernel
theorem dX3_derive_5 : decode cX3_derive 5 = .ok (.if_icmp .ge 24, 3) := by decide +kernel
theorem dX3_derive_8 : decode cX3_derive 8 = .ok (.aload_n 0, 1) := by decide +kernel
theorem dX3_derive_9 : decode cX3_derive 9 = .ok (.iload_n 1, 1) := by decide +kernel
theorem dX3_derive_10 : decode cX3_derive 10 = .ok (.iconst 1, 1) := by decide +kernel
theorem dX3_derive_11 : decode cX3_derive 11 = .ok (.isub, 1) := by decide +kernel
theorem dX3_derive_12 : decode cX3_derive 12 = .ok (.iload_n 1, 1) := by decide +kernel
theorem dX3_derive_13 : decode cX3_derive 13 = .ok (.i2l, 1) := by decide +kernel
theorem dX3_derive_14 : decode cX3_derive 14 = .ok (.aload_n 0, 1) := by decide +kernel
theorem dX3_derive_15 : decode cX3_derive 15 = .ok (.iload_n 1, 1) := by decide +kernel
theorem dX3_derive_16 : decode cX3_derive 16 = .ok (.iaload, 1) := by decide +kernel
theorem dX3_derive_17 : decode cX3_derive 17 = .ok (.i2l, 1) := by decide +kernel
theorem dX3_derive_18 : decode cX3_derive 18 = .ok (.lmul, 1) := by decide +kernel
theorem dX3_derive_19 : decode cX3_derive 19 = .ok (.invokestatic 11, 3) := by decide +kernel
theorem dX3_derive_22 : decode cX3_derive 22 = .ok (.iastore, 1) := by decide +kernel
theorem dX3_derive_23 : decode cX3_derive 23 = .ok (.iinc 1 1, 3) := by decide +kernel
theorem dX3_derive_26 : decode cX3_derive 26 = .ok (.goto (-24), 3) := by decide +kernel
theorem dX3_derive_29 : decode cX3_derive 29 = .ok (.aload_n 0, 1) := by decide +kernel
theorem dX3_derive_30 : decode cX3_derive 30 = .ok (.aload_n 0, 1) := by decide +kernel
theorem dX3_derive_31 : decode cX3_derive 31 = .ok (.arraylength, 1) := by decide +kernel
theorem dX3_derive_32 : decode cX3_derive 32 = .ok (.iconst 1, 1) := by decide +kernel
theorem dX3_derive_33 : decode cX3_derive 33 = .ok (.isub, 1) := by decide +kernel
theorem dX3_derive_34 : decode cX3_derive 34 = .ok (.iconst 0, 1) := by decide +kernel
theorem dX3_derive_35 : decode cX3_derive 35 = .ok (.iastore, 1) := by decide +kernel
theorem dX3_derive_36 : decode cX3_derive 36 = .ok (.return_, 1) := by decide +kernel
theorem dX4_init_0 : decode cX4_init 0 = .ok (.aload_n 0, 1) := by decide +kernel
theorem dX4_init_1 : decode cX4_init 1 = .ok (.invokespecial 1, 3) := by decide +kernel
theorem dX4_init_4 : decode cX4_init 4 = .ok (.aload_n 0, 1) := by decide +kernel
theorem dX4_init_5 : decode cX4_init 5 = .ok (.bipush 75, 2) := by decide +kernel
theorem dX4_init_7 : decode cX4_init 7 = .ok (.newarray .int, 2) := by decide +kernel
theorem dX4_init_9 : decode cX4_init 9 = .ok (.putfield 9, 3) := by decide +kernel
theorem dX4_init_12 : decode cX4_init 12 = .ok (.return_, 1) := by decide +kernel
set_option maxRecDepth 20000 in
theorem ggX4_names_X11_within : GoodIn wsX4_names wsX11_within := goodIn_r _ [3] (by decide +kernel) (by decide +kernel)
set_option maxRecDepth 20000 in
theorem gX4_names_X11_within_n13 : GoodIn wsX4_names (wsX11_within) := ggX4_names_X11_within
theorem dX4_names_0 : decode cX4_names 0 = .ok (.iload_n 0, 1) := by decide +kernel
theorem dX4_names_1 : decode cX4_names 1 = .ok (.iconst 0, 1) := by decide +kernel
theorem dX4_names_2 : decode cX4_names 2 = .ok (.iconst 4, 1) := by decide +kernel
theorem dX4_names_3 : decode cX4_names 3 = .ok (.invokestatic 13, 3) := by decide +kernel
theorem dX4_names_6 : decode cX4_names 6 = .ok (.ifCond .eq 25, 3) := by decide +kernel
theorem dX4_names_9 : decode cX4_names 9 = .ok (.iload_n 1, 1) := by decide +kernel
theorem dX4_names_10 : decode cX4_names 10 = .ok (.iconst 0, 1) := by decide +kernel
theorem dX4_names_11 : decode cX4_names 11 = .ok (.iconst 4, 1) := by decide +kernel
theorem dX4_names_12 : decode cX4_names 12 = .ok (.invokestatic 13, 3) := by decide +kernel
theorem dX4_names_15 : decode cX4_names 15 = .ok (.ifCond .eq 16, 3) := by decide +kernel
theorem dX4_names_18 : decode cX4_names 18 = .ok (.iload_n 2, 1) := by decide +kernel
theorem dX4_names_19 : decode cX4_names 19 = .ok (.iconst 0, 1) := by decide +kernel
theorem dX4_names_20 : decode cX4_names 20 = .ok (.iconst 2, 1) := by decide +kernel
theorem dX4_names_21 : decode cX4_names 21 = .ok (.invokestatic 13, 3) := by decide +kernel
theorem dX4_names_24 : decode cX4_names 24 = .ok (.ifCond .eq 7, 3) := by decide +kernel
theorem dX4_names_27 : decode cX4_names 27 = .ok (.iconst 1, 1) := by decide +kernel
theorem dX4_names_28 : decode cX4_names 28 = .ok (.goto 4, 3) := by decide +kernel
theorem dX4_names_31 : decode cX4_names 31 = .ok (.iconst 0, 1) := by decide +kernel
theorem dX4_names_32 : decode cX4_names 32 = .ok (.ireturn, 1) := by decide +kernel
theorem dX4_index_0 : decode cX4_index 0 = .ok (.iload_n 0, 1) := by decide +kernel
theorem dX4_index_1 : decode cX4_index 1 = .ok (.bipush 15, 2) := by decide +kernel
theorem dX4_index_3 : decode cX4_index 3 = .ok (.imul, 1) := by decide +kernel
theorem dX4_index_4 : decode cX4_index 4 = .ok (.iload_n 1, 1) := by decide +kernel
theorem dX4_index_5 : decode cX4_index 5 = .ok (.iconst 3, 1) := by decide +kernel
theorem dX4_index_6 : decode cX4_index 6 = .ok (.imul, 1) := by decide +kernel
theorem dX4_index_7 : decode cX4_index 7 = .ok (.iadd, 1) := by decide +kernel
theorem dX4_index_8 : decode cX4_index 8 = .ok (.iload_n 2, 1) := by decide +kernel
theorem dX4_index_9 : decode cX4_index 9 = .ok (.iadd, 1) := by decide +kernel
theorem dX4_index_10 : decode cX4_index 10 = .ok (.ireturn, 1) := by decide +kernel
set_option maxRecDepth 20000 in
theorem ggX4_topDerivative_X3_highest : GoodIn wsX4_topDerivative wsX3_highest := goodIn_r _ [5] (by decide +kernel) (by decide +kernel)
set_option maxRecDepth 20000 in
theorem gX4_topDerivative_X3_highest : GoodIn wsX4_topDerivative (va_wsS RX4 19 yX3_highest wsX3_highest) := goodIn_app (goodIn_of _ (by decide +kernel)) ggX4_topDerivative_X3_highest
theorem dX4_topDerivative_0 : decode cX4_topDerivative 0 = .ok (.aload_n 0, 1) := by decide +kernel
theorem dX4_topDerivative_1 : decode cX4_topDerivative 1 = .ok (.getfield 9, 3) := by decide +kernel
theorem dX4_topDerivative_4 : decode cX4_topDerivative 4 = .ok (.invokestatic 19, 3) := by decide +kernel
theorem dX4_topDerivative_7 : decode cX4_topDerivative 7 = .ok (.istore_n 1, 1) := by decide +kernel
theorem dX4_topDerivative_8 : decode cX4_topDerivative 8 = .ok (.iload_n 1, 1) := by decide +kernel
theorem dX4_topDerivative_9 : decode cX4_topDerivative 9 = .ok (.ifCond .ge 7, 3) := by decide +kernel
theorem dX4_topDerivative_12 : decode cX4_topDerivative 12 = .ok (.iconst 0, 1) := by decide +kernel
theorem dX4_topDerivative_13 : decode cX4_topDerivative 13 = .ok (.goto 7, 3) := by decide +kernel
theorem dX4_topDerivative_16 : decode cX4_topDerivative 16 = .ok (.iload_n 1, 1) := by decide +kernel
theorem dX4_topDerivative_17 : decode cX4_topDerivative 17 = .ok (.bipush 15, 2) := by decide +kernel
theorem dX4_topDerivative_19 : decode cX4_topDerivative 19 = .ok (.idiv, 1) := by decide +kernel
theorem dX4_topDerivative_20 : decode cX4_topDerivative 20 = .ok (.ireturn, 1) := by decide +kernel
theorem dX4_become_0 : decode cX4_become 0 = .ok (.aload_n 1, 1) := by decide +kernel
theorem dX4_become_1 : decode cX4_become 1 = .ok (.getfield 9, 3) := by decide +kernel
theorem dX4_become_4 : decode cX4_become 4 = .ok (.iconst 0, 1) := by decide +kernel
theorem dX4_become_5 : decode cX4_become 5 = .ok (.aload_n 0, 1) := by decide +kernel
theorem dX4_become_6 : decode cX4_become 6 = .ok (.getfield 9, 3) := by decide +kernel
theorem dX4_become_9 : decode cX4_become 9 = .ok (.iconst 0, 1) := by decide +kernel
theorem dX4_become_10 : decode cX4_become 10 = .ok (.bipush 75, 2) := by decide +kernel
theorem dX4_become_12 : decode cX4_become 12 = .ok (.invokestatic 25, 3) := by decide +kernel
theorem dX4_become_15 : decode cX4_become 15 = .ok (.return_, 1) := by decide +kernel
theorem dX5_init_0 : decode cX5_init 0 = .ok (.aload_n 0, 1) := by decide +kernel
theorem dX5_init_1 : decode cX5_init 1 = .ok (.invokespecial 3, 3) := by decide +kernel
theorem dX5_init_4 : decode cX5_init 4 = .ok (.aload_n 0, 1) := by decide +kernel
theorem dX5_init_5 : decode cX5_init 5 = .ok (.bipush 8, 2) := by decide +kernel
theorem dX5_init_7 : decode cX5_init 7 = .ok (.newarray .int, 2) := by decide +kernel
theorem dX5_init_9 : decode cX5_init 9 = .ok (.putfield 11, 3) := by decide +kernel
theorem dX5_init_12 : decode cX5_init 12 = .ok (.aload_n 0, 1) := by decide +kernel
theorem dX5_init_13 : decode cX5_init 13 = .ok (.bipush 8, 2) := by decide +kernel
theorem dX5_init_15 : decode cX5_init 15 = .ok (.newarray .int, 2) := by decide +kernel
theorem dX5_init_17 : decode cX5_init 17 = .ok (.putfield 15, 3) := by decide +kernel
theorem dX5_init_20 : decode cX5_init 20 = .ok (.aload_n 0, 1) := by decide +kernel
theorem dX5_init_21 : decode cX5_init 21 = .ok (.iconst 0, 1) := by decide +kernel
theorem dX5_init_22 : decode cX5_init 22 = .ok (.putfield 18, 3) := by decide +kernel
theorem dX5_init_25 : decode cX5_init 25 = .ok (.return_, 1) := by decide +kernel
theorem dX5_append_0 : decode cX5_append 0 = .ok (.aload_n 0, 1) := by decide +kernel
theorem dX5_append_1 : decode cX5_append 1 = .ok (.getfield 18, 3) := by decide +kernel
theorem dX5_append_4 : decode cX5_append 4 = .ok (.bipush 8, 2) := by decide +kernel
theorem dX5_append_6 : decode cX5_append 6 = .ok (.if_icmp .ge 33, 3) := by decide +kernel
theorem dX5_append_9 : decode cX5_append 9 = .ok (.aload_n 0, 1) := by decide +kernel
theorem dX5_append_10 : decode cX5_append 10 = .ok (.getfield 11, 3) := by decide +kernel
theorem dX5_append_13 : decode cX5_append 13 = .ok (.aload_n 0, 1) := by decide +kernel
theorem dX5_append_14 : decode cX5_append 14 = .ok (.getfield 18, 3) := by decide +kernel
theorem dX5_append_17 : decode cX5_append 17 = .ok (.iload_n 1, 1) := by decide +kernel
theorem dX5_append_18 : decode cX5_append 18 = .ok (.iastore, 1) := by decide +kernel
theorem dX5_append_19 : decode cX5_append 19 = .ok (.aload_n 0, 1) := by decide +kernel
theorem dX5_append_20 : decode cX5_append 20 = .ok (.getfield 15, 3) := by decide +kernel
theorem dX5_append_23 : decode cX5_append 23 = .ok (.aload_n 0, 1) := by decide +kernel
theorem dX5_append_24 : decode cX5_append 24 = .ok (.getfield 18, 3) := by decide +kernel
theorem dX5_append_27 : decode cX5_append 27 = .ok (.iload_n 2, 1) := by decide +kernel
theorem dX5_append_28 : decode cX5_append 28 = .ok (.iastore, 1) := by decide +kernel
theorem dX5_append_29 : decode cX5_append 29 = .ok (.aload_n 0, 1) := by decide +kernel
theorem dX5_append_30 : decode cX5_append 30 = .ok (.dup, 1) := by decide +kernel
theorem dX5_append_31 : decode cX5_append 31 = .ok (.getfield 18, 3) := by decide +kernel
theorem dX5_append_34 : decode cX5_append 34 = .ok (.iconst 1, 1) := by decide +kernel
theorem dX5_append_35 : decode cX5_append 35 = .ok (.iadd, 1) := by decide +kernel
theorem dX5_append_36 : decode cX5_append 36 = .ok (.putfield 18, 3) := by decide +kernel
theorem dX5_append_39 : decode cX5_append 39 = .ok (.return_, 1) := by decide +kernel
theorem dX5_become_0 : decode cX5_become 0 = .ok (.aload_n 1, 1) := by decide +kernel
theorem dX5_become_1 : decode cX5_become 1 = .ok (.getfield 11, 3) := by decide +kernel
theorem dX5_become_4 : decode cX5_become 4 = .ok (.iconst 0, 1) := by decide +kernel
theorem dX5_become_5 : decode cX5_become 5 = .ok (.aload_n 0, 1) := by decide +kernel
theorem dX5_become_6 : decode cX5_become 6 = .ok (.getfield 11, 3) := by decide +kernel
theorem dX5_become_9 : decode cX5_become 9 = .ok (.iconst 0, 1) := by decide +kernel
theorem dX5_become_10 : decode cX5_become 10 = .ok (.bipush 8, 2) := by decide +kernel
theorem dX5_become_12 : decode cX5_become 12 = .ok (.invokestatic 22, 3) := by decide +kernel
theorem dX5_become_15 : decode cX5_become 15 = .ok (.aload_n 1, 1) := by decide +kernel
theorem dX5_become_16 : decode cX5_become 16 = .ok (.getfield 15, 3) := by decide +kernel
theorem dX5_become_19 : decode cX5_become 19 = .ok (.iconst 0, 1) := by decide +kernel
theorem dX5_become_20 : decode cX5_become 20 = .ok (.aload_n 0, 1) := by decide +kernel
theorem dX5_become_21 : decode cX5_become 21 = .ok (.getfield 15, 3) := by decide +kernel
theorem dX5_become_24 : decode cX5_become 24 = .ok (.iconst 0, 1) := by decide +kernel
theorem dX5_become_25 : decode cX5_become 25 = .ok (.bipush 8, 2) := by decide +kernel
theorem dX5_become_27 : decode cX5_become 27 = .ok (.invokestatic 22, 3) := by decide +kernel
theorem dX5_become_30 : decode cX5_become 30 = .ok (.aload_n 0, 1) := by decide +kernel
theorem dX5_become_31 : decode cX5_become 31 = .ok (.aload_n 1, 1) := by decide +kernel
theorem dX5_become_32 : decode cX5_become 32 = .ok (.getfield 18, 3) := by decide +kernel
theorem dX5_become_35 : decode cX5_become 35 = .ok (.putfield 18, 3) := by decide +kernel
theorem dX5_become_38 : decode cX5_become 38 = .ok (.return_, 1) := by decide +kernel
set_option maxRecDepth 20000 in
theorem ggX5_change_X5_changeOnce : GoodIn wsX5_change wsX5_changeOnce := goodIn_r _ [7, 8, 9, 6, 10, 11, 12, 13, 14, 15, 16, 17, 18, 19, 20, 21, 22, 23, 24, 25] (by decide +kernel) (by decide +kernel)
set_option maxRecDepth 20000 in
theorem gX5_change_X5_changeOnce : GoodIn wsX5_change (va_wsS RX5 28 yX5_changeOnce wsX5_changeOnce) := goodIn_app (goodIn_of _ (by decide +kernel)) ggX5_change_X5_changeOnce
theorem dX5_change_0 : decode cX5_change 0 = .ok (.iconst 0, 1) := by decide +kernel
theorem dX5_change_1 : decode cX5_change 1 = .ok (.istore_n 2, 1) := by decide +kernel
theorem dX5_change_2 : decode cX5_change 2 = .ok (.iload_n 2, 1) := by decide +kernel
theorem dX5_change_3 : decode cX5_change 3 = .ok (.aload_n 0, 1) := by decide +kernel
theorem dX5_change_4 : decode cX5_change 4 = .ok (.getfield 18, 3) := by decide +kernel
theorem dX5_change_7 : decode cX5_change 7 = .ok (.if_icmp .ge 31, 3) := by decide +kernel
theorem dX5_change_10 : decode cX5_change 10 = .ok (.iload_n 2, 1) := by decide +kernel
theorem dX5_change_11 : decode cX5_change 11 = .ok (.bipush 8, 2) := by decide +kernel
theorem dX5_change_13 : decode cX5_change 13 = .ok (.if_icmp .ge 25, 3) := by decide +kernel
theorem dX5_change_16 : decode cX5_change 16 = .ok (.aload_n 1, 1) := by decide +kernel
theorem dX5_change_17 : decode cX5_change 17 = .ok (.aload_n 0, 1) := by decide +kernel
theorem dX5_change_18 : decode cX5_change 18 = .ok (.getfield 11, 3) := by decide +kernel
theorem dX5_change_21 : decode cX5_change 21 = .ok (.iload_n 2, 1) := by decide +kernel
theorem dX5_change_22 : decode cX5_change 22 = .ok (.iaload, 1) := by decide +kernel
theorem dX5_change_23 : decode cX5_change 23 = .ok (.aload_n 0, 1) := by decide +kernel
theorem dX5_change_24 : decode cX5_change 24 = .ok (.getfield 15, 3) := by decide +kernel
theorem dX5_change_27 : decode cX5_change 27 = .ok (.iload_n 2, 1) := by decide +kernel
theorem dX5_change_28 : decode cX5_change 28 = .ok (.iaload, 1) := by decide +kernel
theorem dX5_change_29 : decode cX5_change 29 = .ok (.invokestatic 28, 3) := by decide +kernel
theorem dX5_change_32 : decode cX5_change 32 = .ok (.iinc 2 1, 3) := by decide +kernel
theorem dX5_change_35 : decode cX5_change 35 = .ok (.goto (-33), 3) := by decide +kernel
theorem dX5_change_38 : decode cX5_change 38 = .ok (.return_, 1) := by decide +kernel
set_option maxRecDepth 20000 in
theorem ggX5_changeOnce_X5_move : GoodIn wsX5_changeOnce wsX5_move := goodIn_r _ [4, 5, 6, 7, 8, 9] (by decide +kernel) (by decide +kernel)
set_option maxRecDepth 20000 in
theorem gX5_changeOnce_X5_move : GoodIn wsX5_changeOnce (va_wsS RX5 32 yX5_move wsX5_move) := goodIn_app (goodIn_of _ (by decide +kernel)) ggX5_changeOnce_X5_move
set_option maxRecDepth 20000 in
theorem ggX5_changeOnce_X5_stretch : GoodIn wsX5_changeOnce wsX5_stretch := goodIn_r _ [12, 5, 6, 7, 8, 9] (by decide +kernel) (by decide +kernel)
set_option maxRecDepth 20000 in
theorem gX5_changeOnce_X5_stretch : GoodIn wsX5_changeOnce (va_wsS RX5 36 yX5_stretch wsX5_stretch) := goodIn_app (goodIn_of _ (by decide +kernel)) ggX5_changeOnce_X5_stretch
set_option maxRecDepth 20000 in
theorem ggX5_changeOnce_X5_turn : GoodIn wsX5_changeOnce wsX5_turn := goodIn_r _ [15] (by decide +kernel) (by decide +kernel)
set_option maxRecDepth 20000 in
theorem gX5_changeOnce_X5_turn : GoodIn wsX5_changeOnce (va_wsS RX5 39 yX5_turn wsX5_turn) := goodIn_app (goodIn_of _ (by decide +kernel)) ggX5_changeOnce_X5_turn
set_option maxRecDepth 20000 in
theorem ggX5_changeOnce_X3_derive : GoodIn wsX5_changeOnce wsX3_derive := goodIn_r _ [18, 19, 6, 7, 8, 9] (by decide +kernel) (by decide +kernel)
set_option maxRecDepth 20000 in
theorem gX5_changeOnce_X3_derive : GoodIn wsX5_changeOnce (va_wsS RX5 43 yX3_derive wsX3_derive) := goodIn_app (goodIn_of _ (by decide +kernel)) ggX5_changeOnce_X3_derive
theorem dX5_changeOnce_0 : decode cX5_changeOnce 0 = .ok (.iload_n 1, 1) := by decide +kernel
theorem dX5_changeOnce_1 : decode cX5_changeOnce 1 = .ok (.tableswitch 62 0 3 #[31, 39, 48, 55], 31) := by decide +kernel
theorem dX5_changeOnce_32 : decode cX5_changeOnce 32 = .ok (.aload_n 0, 1) := by decide +kernel
theorem dX5_changeOnce_33 : decode cX5_changeOnce 33 = .ok (.iload_n 2, 1) := by decide +kernel
theorem dX5_changeOnce_34 : decode cX5_changeOnce 34 = .ok (.invokestatic 32, 3) := by decide +kernel
theorem dX5_changeOnce_37 : decode cX5_changeOnce 37 = .ok (.goto 32, 3) := by decide +kernel
theorem dX5_changeOnce_40 : decode cX5_changeOnce 40 = .ok (.aload_n 0, 1) := by decide +kernel
theorem dX5_changeOnce_41 : decode cX5_changeOnce 41 = .ok (.iload_n 2, 1) := by decide +kernel
theorem dX5_changeOnce_42 : decode cX5_changeOnce 42 = .ok (.iconst 1, 1) := by decide +kernel
theorem dX5_changeOnce_43 : decode cX5_changeOnce 43 = .ok (.invokestatic 36, 3) := by decide +kernel
theorem dX5_changeOnce_46 : decode cX5_changeOnce 46 = .ok (.goto 23, 3) := by decide +kernel
theorem dX5_changeOnce_49 : decode cX5_changeOnce 49 = .ok (.aload_n 0, 1) := by decide +kernel
theorem dX5_changeOnce_50 : decode cX5_changeOnce 50 = .ok (.invokestatic 39, 3) := by decide +kernel
theorem dX5_changeOnce_53 : decode cX5_changeOnce 53 = .ok (.goto 16, 3) := by decide +kernel
theorem dX5_changeOnce_56 : decode cX5_changeOnce 56 = .ok (.aload_n 0, 1) := by decide +kernel
theorem dX5_changeOnce_57 : decode cX5_changeOnce 57 = .ok (.invokestatic 43, 3) := by decide +kernel
theorem dX5_changeOnce_60 : decode cX5_changeOnce 60 = .ok (.goto 9, 3) := by decide +kernel
theorem dX5_changeOnce_63 : decode cX5_changeOnce 63 = .ok (.aload_n 0, 1) := by decide +kernel
theorem dX5_changeOnce_64 : decode cX5_changeOnce 64 = .ok (.iconst 1, 1) := by decide +kernel
theorem dX5_changeOnce_65 : decode cX5_changeOnce 65 = .ok (.iload_n 2, 1) := by decide +kernel
theorem dX5_changeOnce_66 : decode cX5_changeOnce 66 = .ok (.invokestatic 36, 3) := by decide +kernel
theorem dX5_changeOnce_69 : decode cX5_changeOnce 69 = .ok (.return_, 1) := by decide +kernel
set_option maxRecDepth 20000 in
theorem ggX5_move_X3_fold : GoodIn wsX5_move wsX3_fold := goodIn_r _ [4, 5] (by decide +kernel) (by decide +kernel)
set_option maxRecDepth 20000 in
theorem gX5_move_X3_fold : GoodIn wsX5_move (va_wsS RX5 48 yX3_fold wsX3_fold) := goodIn_app (goodIn_of _ (by decide +kernel)) ggX5_move_X3_fold
theorem dX5_move_0 : decode cX5_move 0 = .ok (.iconst 0, 1) := by decide +kernel
theorem dX5_move_1 : decode cX5_move 1 = .ok (.istore_n 2, 1) := by decide +kernel
theorem dX5_move_2 : decode cX5_move 2 = .ok (.iload_n 2, 1) := by decide +kernel
theorem dX5_move_3 : decode cX5_move 3 = .ok (.iconst 4, 1) := by decide +kernel
theorem dX5_move_4 : decode cX5_move 4 = .ok (.if_icmp .ge 42, 3) := by decide +kernel
theorem dX5_move_7 : decode cX5_move 7 = .ok (.iconst 3, 1) := by decide +kernel
theorem dX5_move_8 : decode cX5_move 8 = .ok (.istore_n 3, 1) := by decide +kernel
theorem dX5_move_9 : decode cX5_move 9 = .ok (.iload_n 3, 1) := by decide +kernel
theorem dX5_move_10 : decode cX5_move 10 = .ok (.iload_n 2, 1) := by decide +kernel
theorem dX5_move_11 : decode cX5_move 11 = .ok (.if_icmp .lt 29, 3) := by decide +kernel
theorem dX5_move_14 : decode cX5_move 14 = .ok (.aload_n 0, 1) := by decide +kernel
theorem dX5_move_15 : decode cX5_move 15 = .ok (.iload_n 3, 1) := by decide +kernel
theorem dX5_move_16 : decode cX5_move 16 = .ok (.aload_n 0, 1) := by decide +kernel
theorem dX5_move_17 : decode cX5_move 17 = .ok (.iload_n 3, 1) := by decide +kernel
theorem dX5_move_18 : decode cX5_move 18 = .ok (.iaload, 1) := by decide +kernel
theorem dX5_move_19 : decode cX5_move 19 = .ok (.i2l, 1) := by decide +kernel
theorem dX5_move_20 : decode cX5_move 20 = .ok (.iload_n 1, 1) := by decide +kernel
theorem dX5_move_21 : decode cX5_move 21 = .ok (.i2l, 1) := by decide +kernel
theorem dX5_move_22 : decode cX5_move 22 = .ok (.aload_n 0, 1) := by decide +kernel
theorem dX5_move_23 : decode cX5_move 23 = .ok (.iload_n 3, 1) := by decide +kernel
theorem dX5_move_24 : decode cX5_move 24 = .ok (.iconst 1, 1) := by decide +kernel
theorem dX5_move_25 : decode cX5_move 25 = .ok (.iadd, 1) := by decide +kernel
theorem dX5_move_26 : decode cX5_move 26 = .ok (.iaload, 1) := by decide +kernel
theorem dX5_move_27 : decode cX5_move 27 = .ok (.i2l, 1) := by decide +kernel
theorem dX5_move_28 : decode cX5_move 28 = .ok (.lmul, 1) := by decide +kernel
theorem dX5_move_29 : decode cX5_move 29 = .ok (.ladd, 1) := by decide +kernel
theorem dX5_move_30 : decode cX5_move 30 = .ok (.invokestatic 48, 3) := by decide +kernel
theorem dX5_move_33 : decode cX5_move 33 = .ok (.iastore, 1) := by decide +kernel
theorem dX5_move_34 : decode cX5_move 34 = .ok (.iinc 3 (-1), 3) := by decide +kernel
theorem dX5_move_37 : decode cX5_move 37 = .ok (.goto (-28), 3) := by decide +kernel
theorem dX5_move_40 : decode cX5_move 40 = .ok (.iinc 2 1, 3) := by decide +kernel
theorem dX5_move_43 : decode cX5_move 43 = .ok (.goto (-41), 3) := by decide +kernel
theorem dX5_move_46 : decode cX5_move 46 = .ok (.return_, 1) := by decide +kernel
set_option maxRecDepth 20000 in
theorem ggX5_stretch_X3_fold : GoodIn wsX5_stretch wsX3_fold := goodIn_r _ [4, 5] (by decide +kernel) (by decide +kernel)
set_option maxRecDepth 20000 in
theorem gX5_stretch_X3_fold : GoodIn wsX5_stretch (va_wsS RX5 48 yX3_fold wsX3_fold) := goodIn_app (goodIn_of _ (by decide +kernel)) ggX5_stretch_X3_fold
theorem dX5_stretch_0 : decode cX5_stretch 0 = .ok (.iload_n 1, 1) := by decide +kernel
theorem dX5_stretch_1 : decode cX5_stretch 1 = .ok (.istore_n 3, 1) := by decide +kernel
theorem dX5_stretch_2 : decode cX5_stretch 2 = .ok (.iconst 0, 1) := by decide +kernel
theorem dX5_stretch_3 : decode cX5_stretch 3 = .ok (.istore 4, 2) := by decide +kernel
theorem dX5_stretch_5 : decode cX5_stretch 5 = .ok (.iload 4, 2) := by decide +kernel
theorem dX5_stretch_7 : decode cX5_stretch 7 = .ok (.iconst 4, 1) := by decide +kernel
theorem dX5_stretch_8 : decode cX5_stretch 8 = .ok (.if_icmp .gt 33, 3) := by decide +kernel
theorem dX5_stretch_11 : decode cX5_stretch 11 = .ok (.aload_n 0, 1) := by decide +kernel
theorem dX5_stretch_12 : decode cX5_stretch 12 = .ok (.iload 4, 2) := by decide +kernel
theorem dX5_stretch_14 : decode cX5_stretch 14 = .ok (.iload_n 3, 1) := by decide +kernel
theorem dX5_stretch_15 : decode cX5_stretch 15 = .ok (.i2l, 1) := by decide +kernel
theorem dX5_stretch_16 : decode cX5_stretch 16 = .ok (.aload_n 0, 1) := by decide +kernel
theorem dX5_stretch_17 : decode cX5_stretch 17 = .ok (.iload 4, 2) := by decide +kernel
theorem dX5_stretch_19 : decode cX5_stretch 19 = .ok (.iaload, 1) := by decide +kernel
theorem dX5_stretch_20 : decode cX5_stretch 20 = .ok (.i2l, 1) := by decide +kernel
theorem dX5_stretch_21 : decode cX5_stretch 21 = .ok (.lmul, 1) := by decide +kernel
theorem dX5_stretch_22 : decode cX5_stretch 22 = .ok (.invokestatic 48, 3) := by decide +kernel
theorem dX5_stretch_25 : decode cX5_stretch 25 = .ok (.iastore, 1) := by decide +kernel
theorem dX5_stretch_26 : decode cX5_stretch 26 = .ok (.iload_n 3, 1) := by decide +kernel
theorem dX5_stretch_27 : decode cX5_stretch 27 = .ok (.i2l, 1) := by decide +kernel
theorem dX5_stretch_28 : decode cX5_stretch 28 = .ok (.iload_n 2, 1) := by decide +kernel
theorem dX5_stretch_29 : decode cX5_stretch 29 = .ok (.i2l, 1) := by decide +kernel
theorem dX5_stretch_30 : decode cX5_stretch 30 = .ok (.lmul, 1) := by decide +kernel
theorem dX5_stretch_31 : decode cX5_stretch 31 = .ok (.invokestatic 48, 3) := by decide +kernel
theorem dX5_stretch_34 : decode cX5_stretch 34 = .ok (.istore_n 3, 1) := by decide +kernel
theorem dX5_stretch_35 : decode cX5_stretch 35 = .ok (.iinc 4 1, 3) := by decide +kernel
theorem dX5_stretch_38 : decode cX5_stretch 38 = .ok (.goto (-33), 3) := by decide +kernel
theorem dX5_stretch_41 : decode cX5_stretch 41 = .ok (.return_, 1) := by decide +kernel
theorem dX5_turn_0 : decode cX5_turn 0 = .ok (.iconst 0, 1) := by decide +kernel
theorem dX5_turn_1 : decode cX5_turn 1 = .ok (.istore_n 1, 1) := by decide +kernel
theorem dX5_turn_2 : decode cX5_turn 2 = .ok (.iload_n 1, 1) := by decide +kernel
theorem dX5_turn_3 : decode cX5_turn 3 = .ok (.iconst 4, 1) := by decide +kernel
theorem dX5_turn_4 : decode cX5_turn 4 = .ok (.iload_n 1, 1) := by decide +kernel
theorem dX5_turn_5 : decode cX5_turn 5 = .ok (.isub, 1) := by decide +kernel
theorem dX5_turn_6 : decode cX5_turn 6 = .ok (.if_icmp .ge 27, 3) := by decide +kernel
theorem dX5_turn_9 : decode cX5_turn 9 = .ok (.aload_n 0, 1) := by decide +kernel
theorem dX5_turn_10 : decode cX5_turn 10 = .ok (.iload_n 1, 1) := by decide +kernel
theorem dX5_turn_11 : decode cX5_turn 11 = .ok (.iaload, 1) := by decide +kernel
theorem dX5_turn_12 : decode cX5_turn 12 = .ok (.istore_n 2, 1) := by decide +kernel
theorem dX5_turn_13 : decode cX5_turn 13 = .ok (.aload_n 0, 1) := by decide +kernel
theorem dX5_turn_14 : decode cX5_turn 14 = .ok (.iload_n 1, 1) := by decide +kernel
theorem dX5_turn_15 : decode cX5_turn 15 = .ok (.aload_n 0, 1) := by decide +kernel
theorem dX5_turn_16 : decode cX5_turn 16 = .ok (.iconst 4, 1) := by decide +kernel
theorem dX5_turn_17 : decode cX5_turn 17 = .ok (.iload_n 1, 1) := by decide +kernel
theorem dX5_turn_18 : decode cX5_turn 18 = .ok (.isub, 1) := by decide +kernel
theorem dX5_turn_19 : decode cX5_turn 19 = .ok (.iaload, 1) := by decide +kernel
theorem dX5_turn_20 : decode cX5_turn 20 = .ok (.iastore, 1) := by decide +kernel
theorem dX5_turn_21 : decode cX5_turn 21 = .ok (.aload_n 0, 1) := by decide +kernel
theorem dX5_turn_22 : decode cX5_turn 22 = .ok (.iconst 4, 1) := by decide +kernel
theorem dX5_turn_23 : decode cX5_turn 23 = .ok (.iload_n 1, 1) := by decide +kernel
theorem dX5_turn_24 : decode cX5_turn 24 = .ok (.isub, 1) := by decide +kernel
theorem dX5_turn_25 : decode cX5_turn 25 = .ok (.iload_n 2, 1) := by decide +kernel
theorem dX5_turn_26 : decode cX5_turn 26 = .ok (.iastore, 1) := by decide +kernel
theorem dX5_turn_27 : decode cX5_turn 27 = .ok (.iinc 1 1, 3) := by decide +kernel
theorem dX5_turn_30 : decode cX5_turn 30 = .ok (.goto (-28), 3) := by decide +kernel
theorem dX5_turn_33 : decode cX5_turn 33 = .ok (.return_, 1) := by decide +kernel
set_option maxRecDepth 20000 in
theorem ggX6_init_J7_fill_53178 : GoodIn wsX6_init wsJ7_fill_53178 := goodIn_r _ [13] (by decide +kernel) (by decide +kernel)
set_option maxRecDepth 20000 in
theorem gX6_init_J7_fill_53178 : GoodIn wsX6_init (va_wsS RX6 23 yJ7_fill_53178 wsJ7_fill_53178) := goodIn_app (goodIn_of _ (by decide +kernel)) ggX6_init_J7_fill_53178
theorem dX6_init_0 : decode cX6_init 0 = .ok (.aload_n 0, 1) := by decide +kernel
theorem dX6_init_1 : decode cX6_init 1 = .ok (.invokespecial 1, 3) := by decide +kernel
theorem dX6_init_4 : decode cX6_init 4 = .ok (.aload_n 0, 1) := by decide +kernel
theorem dX6_init_5 : decode cX6_init 5 = .ok (.iconst 3, 1) := by decide +kernel
theorem dX6_init_6 : decode cX6_init 6 = .ok (.newarray .int, 2) := by decide +kernel
theorem dX6_init_8 : decode cX6_init 8 = .ok (.putfield 9, 3) := by decide +kernel
theorem dX6_init_11 : decode cX6_init 11 = .ok (.aload_n 0, 1) := by decide +kernel
theorem dX6_init_12 : decode cX6_init 12 = .ok (.iconst 3, 1) := by decide +kernel
theorem dX6_init_13 : decode cX6_init 13 = .ok (.newarray .int, 2) := by decide +kernel
theorem dX6_init_15 : decode cX6_init 15 = .ok (.putfield 13, 3) := by decide +kernel
theorem dX6_init_18 : decode cX6_init 18 = .ok (.aload_n 0, 1) := by decide +kernel
theorem dX6_init_19 : decode cX6_init 19 = .ok (.bipush 30, 2) := by decide +kernel
theorem dX6_init_21 : decode cX6_init 21 = .ok (.newarray .int, 2) := by decide +kernel
theorem dX6_init_23 : decode cX6_init 23 = .ok (.putfield 16, 3) := by decide +kernel
theorem dX6_init_26 : decode cX6_init 26 = .ok (.aload_n 0, 1) := by decide +kernel
theorem dX6_init_27 : decode cX6_init 27 = .ok (.bipush 30, 2) := by decide +kernel
theorem dX6_init_29 : decode cX6_init 29 = .ok (.newarray .boolean, 2) := by decide +kernel
theorem dX6_init_31 : decode cX6_init 31 = .ok (.putfield 19, 3) := by decide +kernel
theorem dX6_init_34 : decode cX6_init 34 = .ok (.aload_n 0, 1) := by decide +kernel
theorem dX6_init_35 : decode cX6_init 35 = .ok (.getfield 9, 3) := by decide +kernel
theorem dX6_init_38 : decode cX6_init 38 = .ok (.iconst (-1), 1) := by decide +kernel
theorem dX6_init_39 : decode cX6_init 39 = .ok (.invokestatic 23, 3) := by decide +kernel
theorem dX6_init_42 : decode cX6_init 42 = .ok (.return_, 1) := by decide +kernel
theorem dX6_drop_0 : decode cX6_drop 0 = .ok (.aload_n 0, 1) := by decide +kernel
theorem dX6_drop_1 : decode cX6_drop 1 = .ok (.getfield 9, 3) := by decide +kernel
