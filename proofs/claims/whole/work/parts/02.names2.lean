theorem dX6_drop_4 : decode cX6_drop 4 = .ok (.iload_n 1, 1) := by decide +kernel
theorem dX6_drop_5 : decode cX6_drop 5 = .ok (.iconst (-1), 1) := by decide +kernel
theorem dX6_drop_6 : decode cX6_drop 6 = .ok (.iastore, 1) := by decide +kernel
theorem dX6_drop_7 : decode cX6_drop 7 = .ok (.aload_n 0, 1) := by decide +kernel
theorem dX6_drop_8 : decode cX6_drop 8 = .ok (.getfield 13, 3) := by decide +kernel
theorem dX6_drop_11 : decode cX6_drop 11 = .ok (.iload_n 1, 1) := by decide +kernel
theorem dX6_drop_12 : decode cX6_drop 12 = .ok (.iconst 0, 1) := by decide +kernel
theorem dX6_drop_13 : decode cX6_drop 13 = .ok (.iastore, 1) := by decide +kernel
theorem dX6_drop_14 : decode cX6_drop 14 = .ok (.return_, 1) := by decide +kernel
theorem dX6_make_0 : decode cX6_make 0 = .ok (.aload_n 0, 1) := by decide +kernel
theorem dX6_make_1 : decode cX6_make 1 = .ok (.getfield 9, 3) := by decide +kernel
theorem dX6_make_4 : decode cX6_make 4 = .ok (.iload_n 1, 1) := by decide +kernel
theorem dX6_make_5 : decode cX6_make 5 = .ok (.iload_n 2, 1) := by decide +kernel
theorem dX6_make_6 : decode cX6_make 6 = .ok (.iastore, 1) := by decide +kernel
theorem dX6_make_7 : decode cX6_make 7 = .ok (.aload_n 0, 1) := by decide +kernel
theorem dX6_make_8 : decode cX6_make 8 = .ok (.getfield 13, 3) := by decide +kernel
theorem dX6_make_11 : decode cX6_make 11 = .ok (.iload_n 1, 1) := by decide +kernel
theorem dX6_make_12 : decode cX6_make 12 = .ok (.iload_n 3, 1) := by decide +kernel
theorem dX6_make_13 : decode cX6_make 13 = .ok (.iastore, 1) := by decide +kernel
theorem dX6_make_14 : decode cX6_make 14 = .ok (.iconst 0, 1) := by decide +kernel
theorem dX6_make_15 : decode cX6_make 15 = .ok (.istore 4, 2) := by decide +kernel
theorem dX6_make_17 : decode cX6_make 17 = .ok (.iload 4, 2) := by decide +kernel
theorem dX6_make_19 : decode cX6_make 19 = .ok (.bipush 10, 2) := by decide +kernel
theorem dX6_make_21 : decode cX6_make 21 = .ok (.if_icmp .ge 22, 3) := by decide +kernel
theorem dX6_make_24 : decode cX6_make 24 = .ok (.aload_n 0, 1) := by decide +kernel
theorem dX6_make_25 : decode cX6_make 25 = .ok (.getfield 19, 3) := by decide +kernel
theorem dX6_make_28 : decode cX6_make 28 = .ok (.iload_n 1, 1) := by decide +kernel
theorem dX6_make_29 : decode cX6_make 29 = .ok (.bipush 10, 2) := by decide +kernel
theorem dX6_make_31 : decode cX6_make 31 = .ok (.imul, 1) := by decide +kernel
theorem dX6_make_32 : decode cX6_make 32 = .ok (.iload 4, 2) := by decide +kernel
theorem dX6_make_34 : decode cX6_make 34 = .ok (.iadd, 1) := by decide +kernel
theorem dX6_make_35 : decode cX6_make 35 = .ok (.iconst 0, 1) := by decide +kernel
theorem dX6_make_36 : decode cX6_make 36 = .ok (.bastore, 1) := by decide +kernel
theorem dX6_make_37 : decode cX6_make 37 = .ok (.iinc 4 1, 3) := by decide +kernel
theorem dX6_make_40 : decode cX6_make 40 = .ok (.goto (-23), 3) := by decide +kernel
theorem dX6_make_43 : decode cX6_make 43 = .ok (.return_, 1) := by decide +kernel
theorem dX6_bring_0 : decode cX6_bring 0 = .ok (.aload_n 0, 1) := by decide +kernel
theorem dX6_bring_1 : decode cX6_bring 1 = .ok (.getfield 16, 3) := by decide +kernel
theorem dX6_bring_4 : decode cX6_bring 4 = .ok (.iload_n 1, 1) := by decide +kernel
theorem dX6_bring_5 : decode cX6_bring 5 = .ok (.bipush 10, 2) := by decide +kernel
theorem dX6_bring_7 : decode cX6_bring 7 = .ok (.imul, 1) := by decide +kernel
theorem dX6_bring_8 : decode cX6_bring 8 = .ok (.iload_n 2, 1) := by decide +kernel
theorem dX6_bring_9 : decode cX6_bring 9 = .ok (.iadd, 1) := by decide +kernel
theorem dX6_bring_10 : decode cX6_bring 10 = .ok (.iload_n 3, 1) := by decide +kernel
theorem dX6_bring_11 : decode cX6_bring 11 = .ok (.iastore, 1) := by decide +kernel
theorem dX6_bring_12 : decode cX6_bring 12 = .ok (.aload_n 0, 1) := by decide +kernel
theorem dX6_bring_13 : decode cX6_bring 13 = .ok (.getfield 19, 3) := by decide +kernel
theorem dX6_bring_16 : decode cX6_bring 16 = .ok (.iload_n 1, 1) := by decide +kernel
theorem dX6_bring_17 : decode cX6_bring 17 = .ok (.bipush 10, 2) := by decide +kernel
theorem dX6_bring_19 : decode cX6_bring 19 = .ok (.imul, 1) := by decide +kernel
theorem dX6_bring_20 : decode cX6_bring 20 = .ok (.iload_n 2, 1) := by decide +kernel
theorem dX6_bring_21 : decode cX6_bring 21 = .ok (.iadd, 1) := by decide +kernel
theorem dX6_bring_22 : decode cX6_bring 22 = .ok (.iconst 1, 1) := by decide +kernel
theorem dX6_bring_23 : decode cX6_bring 23 = .ok (.bastore, 1) := by decide +kernel
theorem dX6_bring_24 : decode cX6_bring 24 = .ok (.return_, 1) := by decide +kernel
theorem dX6_holdsAt_0 : decode cX6_holdsAt 0 = .ok (.aload_n 0, 1) := by decide +kernel
theorem dX6_holdsAt_1 : decode cX6_holdsAt 1 = .ok (.getfield 19, 3) := by decide +kernel
theorem dX6_holdsAt_4 : decode cX6_holdsAt 4 = .ok (.iload_n 1, 1) := by decide +kernel
theorem dX6_holdsAt_5 : decode cX6_holdsAt 5 = .ok (.bipush 10, 2) := by decide +kernel
theorem dX6_holdsAt_7 : decode cX6_holdsAt 7 = .ok (.imul, 1) := by decide +kernel
theorem dX6_holdsAt_8 : decode cX6_holdsAt 8 = .ok (.iload_n 2, 1) := by decide +kernel
theorem dX6_holdsAt_9 : decode cX6_holdsAt 9 = .ok (.iadd, 1) := by decide +kernel
theorem dX6_holdsAt_10 : decode cX6_holdsAt 10 = .ok (.baload, 1) := by decide +kernel
theorem dX6_holdsAt_11 : decode cX6_holdsAt 11 = .ok (.ireturn, 1) := by decide +kernel
theorem dX6_numberAt_0 : decode cX6_numberAt 0 = .ok (.aload_n 0, 1) := by decide +kernel
theorem dX6_numberAt_1 : decode cX6_numberAt 1 = .ok (.getfield 16, 3) := by decide +kernel
theorem dX6_numberAt_4 : decode cX6_numberAt 4 = .ok (.iload_n 1, 1) := by decide +kernel
theorem dX6_numberAt_5 : decode cX6_numberAt 5 = .ok (.bipush 10, 2) := by decide +kernel
theorem dX6_numberAt_7 : decode cX6_numberAt 7 = .ok (.imul, 1) := by decide +kernel
theorem dX6_numberAt_8 : decode cX6_numberAt 8 = .ok (.iload_n 2, 1) := by decide +kernel
theorem dX6_numberAt_9 : decode cX6_numberAt 9 = .ok (.iadd, 1) := by decide +kernel
theorem dX6_numberAt_10 : decode cX6_numberAt 10 = .ok (.iaload, 1) := by decide +kernel
theorem dX6_numberAt_11 : decode cX6_numberAt 11 = .ok (.ireturn, 1) := by decide +kernel
theorem dX6_copyTo_0 : decode cX6_copyTo 0 = .ok (.aload_n 0, 1) := by decide +kernel
theorem dX6_copyTo_1 : decode cX6_copyTo 1 = .ok (.getfield 9, 3) := by decide +kernel
theorem dX6_copyTo_4 : decode cX6_copyTo 4 = .ok (.iload_n 2, 1) := by decide +kernel
theorem dX6_copyTo_5 : decode cX6_copyTo 5 = .ok (.aload_n 0, 1) := by decide +kernel
theorem dX6_copyTo_6 : decode cX6_copyTo 6 = .ok (.getfield 9, 3) := by decide +kernel
theorem dX6_copyTo_9 : decode cX6_copyTo 9 = .ok (.iload_n 1, 1) := by decide +kernel
theorem dX6_copyTo_10 : decode cX6_copyTo 10 = .ok (.iaload, 1) := by decide +kernel
theorem dX6_copyTo_11 : decode cX6_copyTo 11 = .ok (.iastore, 1) := by decide +kernel
theorem dX6_copyTo_12 : decode cX6_copyTo 12 = .ok (.aload_n 0, 1) := by decide +kernel
theorem dX6_copyTo_13 : decode cX6_copyTo 13 = .ok (.getfield 13, 3) := by decide +kernel
theorem dX6_copyTo_16 : decode cX6_copyTo 16 = .ok (.iload_n 2, 1) := by decide +kernel
theorem dX6_copyTo_17 : decode cX6_copyTo 17 = .ok (.aload_n 0, 1) := by decide +kernel
theorem dX6_copyTo_18 : decode cX6_copyTo 18 = .ok (.getfield 13, 3) := by decide +kernel
theorem dX6_copyTo_21 : decode cX6_copyTo 21 = .ok (.iload_n 1, 1) := by decide +kernel
theorem dX6_copyTo_22 : decode cX6_copyTo 22 = .ok (.iaload, 1) := by decide +kernel
theorem dX6_copyTo_23 : decode cX6_copyTo 23 = .ok (.iastore, 1) := by decide +kernel
theorem dX6_copyTo_24 : decode cX6_copyTo 24 = .ok (.iconst 0, 1) := by decide +kernel
theorem dX6_copyTo_25 : decode cX6_copyTo 25 = .ok (.istore_n 3, 1) := by decide +kernel
theorem dX6_copyTo_26 : decode cX6_copyTo 26 = .ok (.iload_n 3, 1) := by decide +kernel
theorem dX6_copyTo_27 : decode cX6_copyTo 27 = .ok (.bipush 10, 2) := by decide +kernel
theorem dX6_copyTo_29 : decode cX6_copyTo 29 = .ok (.if_icmp .ge 53, 3) := by decide +kernel
theorem dX6_copyTo_32 : decode cX6_copyTo 32 = .ok (.aload_n 0, 1) := by decide +kernel
theorem dX6_copyTo_33 : decode cX6_copyTo 33 = .ok (.getfield 16, 3) := by decide +kernel
theorem dX6_copyTo_36 : decode cX6_copyTo 36 = .ok (.iload_n 2, 1) := by decide +kernel
theorem dX6_copyTo_37 : decode cX6_copyTo 37 = .ok (.bipush 10, 2) := by decide +kernel
theorem dX6_copyTo_39 : decode cX6_copyTo 39 = .ok (.imul, 1) := by decide +kernel
theorem dX6_copyTo_40 : decode cX6_copyTo 40 = .ok (.iload_n 3, 1) := by decide +kernel
theorem dX6_copyTo_41 : decode cX6_copyTo 41 = .ok (.iadd, 1) := by decide +kernel
theorem dX6_copyTo_42 : decode cX6_copyTo 42 = .ok (.aload_n 0, 1) := by decide +kernel
theorem dX6_copyTo_43 : decode cX6_copyTo 43 = .ok (.getfield 16, 3) := by decide +kernel
theorem dX6_copyTo_46 : decode cX6_copyTo 46 = .ok (.iload_n 1, 1) := by decide +kernel
theorem dX6_copyTo_47 : decode cX6_copyTo 47 = .ok (.bipush 10, 2) := by decide +kernel
theorem dX6_copyTo_49 : decode cX6_copyTo 49 = .ok (.imul, 1) := by decide +kernel
theorem dX6_copyTo_50 : decode cX6_copyTo 50 = .ok (.iload_n 3, 1) := by decide +kernel
theorem dX6_copyTo_51 : decode cX6_copyTo 51 = .ok (.iadd, 1) := by decide +kernel
theorem dX6_copyTo_52 : decode cX6_copyTo 52 = .ok (.iaload, 1) := by decide +kernel
theorem dX6_copyTo_53 : decode cX6_copyTo 53 = .ok (.iastore, 1) := by decide +kernel
theorem dX6_copyTo_54 : decode cX6_copyTo 54 = .ok (.aload_n 0, 1) := by decide +kernel
theorem dX6_copyTo_55 : decode cX6_copyTo 55 = .ok (.getfield 19, 3) := by decide +kernel
theorem dX6_copyTo_58 : decode cX6_copyTo 58 = .ok (.iload_n 2, 1) := by decide +kernel
theorem dX6_copyTo_59 : decode cX6_copyTo 59 = .ok (.bipush 10, 2) := by decide +kernel
theorem dX6_copyTo_61 : decode cX6_copyTo 61 = .ok (.imul, 1) := by decide +kernel
theorem dX6_copyTo_62 : decode cX6_copyTo 62 = .ok (.iload_n 3, 1) := by decide +kernel
theorem dX6_copyTo_63 : decode cX6_copyTo 63 = .ok (.iadd, 1) := by decide +kernel
theorem dX6_copyTo_64 : decode cX6_copyTo 64 = .ok (.aload_n 0, 1) := by decide +kernel
theorem dX6_copyTo_65 : decode cX6_copyTo 65 = .ok (.getfield 19, 3) := by decide +kernel
theorem dX6_copyTo_68 : decode cX6_copyTo 68 = .ok (.iload_n 1, 1) := by decide +kernel
theorem dX6_copyTo_69 : decode cX6_copyTo 69 = .ok (.bipush 10, 2) := by decide +kernel
theorem dX6_copyTo_71 : decode cX6_copyTo 71 = .ok (.imul, 1) := by decide +kernel
theorem dX6_copyTo_72 : decode cX6_copyTo 72 = .ok (.iload_n 3, 1) := by decide +kernel
theorem dX6_copyTo_73 : decode cX6_copyTo 73 = .ok (.iadd, 1) := by decide +kernel
theorem dX6_copyTo_74 : decode cX6_copyTo 74 = .ok (.baload, 1) := by decide +kernel
theorem dX6_copyTo_75 : decode cX6_copyTo 75 = .ok (.bastore, 1) := by decide +kernel
theorem dX6_copyTo_76 : decode cX6_copyTo 76 = .ok (.iinc 3 1, 3) := by decide +kernel
theorem dX6_copyTo_79 : decode cX6_copyTo 79 = .ok (.goto (-53), 3) := by decide +kernel
theorem dX6_copyTo_82 : decode cX6_copyTo 82 = .ok (.return_, 1) := by decide +kernel
theorem dX7_init_0 : decode cX7_init 0 = .ok (.aload_n 0, 1) := by decide +kernel
theorem dX7_init_1 : decode cX7_init 1 = .ok (.invokespecial 5, 3) := by decide +kernel
theorem dX7_init_4 : decode cX7_init 4 = .ok (.aload_n 0, 1) := by decide +kernel
theorem dX7_init_5 : decode cX7_init 5 = .ok (.iload_n 1, 1) := by decide +kernel
theorem dX7_init_6 : decode cX7_init 6 = .ok (.putfield 11, 3) := by decide +kernel
theorem dX7_init_9 : decode cX7_init 9 = .ok (.aload_n 0, 1) := by decide +kernel
theorem dX7_init_10 : decode cX7_init 10 = .ok (.iconst 1, 1) := by decide +kernel
theorem dX7_init_11 : decode cX7_init 11 = .ok (.iload_n 2, 1) := by decide +kernel
theorem dX7_init_12 : decode cX7_init 12 = .ok (.ishl, 1) := by decide +kernel
theorem dX7_init_13 : decode cX7_init 13 = .ok (.iconst 1, 1) := by decide +kernel
theorem dX7_init_14 : decode cX7_init 14 = .ok (.isub, 1) := by decide +kernel
theorem dX7_init_15 : decode cX7_init 15 = .ok (.putfield 15, 3) := by decide +kernel
theorem dX7_init_18 : decode cX7_init 18 = .ok (.aload_n 0, 1) := by decide +kernel
theorem dX7_init_19 : decode cX7_init 19 = .ok (.aload_n 0, 1) := by decide +kernel
theorem dX7_init_20 : decode cX7_init 20 = .ok (.getfield 15, 3) := by decide +kernel
theorem dX7_init_23 : decode cX7_init 23 = .ok (.iconst 2, 1) := by decide +kernel
theorem dX7_init_24 : decode cX7_init 24 = .ok (.idiv, 1) := by decide +kernel
theorem dX7_init_25 : decode cX7_init 25 = .ok (.putfield 18, 3) := by decide +kernel
theorem dX7_init_28 : decode cX7_init 28 = .ok (.aload_n 0, 1) := by decide +kernel
theorem dX7_init_29 : decode cX7_init 29 = .ok (.lconst 1, 1) := by decide +kernel
theorem dX7_init_30 : decode cX7_init 30 = .ok (.iload_n 1, 1) := by decide +kernel
theorem dX7_init_31 : decode cX7_init 31 = .ok (.iload_n 2, 1) := by decide +kernel
theorem dX7_init_32 : decode cX7_init 32 = .ok (.iadd, 1) := by decide +kernel
theorem dX7_init_33 : decode cX7_init 33 = .ok (.lshl, 1) := by decide +kernel
theorem dX7_init_34 : decode cX7_init 34 = .ok (.putfield 21, 3) := by decide +kernel
theorem dX7_init_37 : decode cX7_init 37 = .ok (.aload_n 0, 1) := by decide +kernel
theorem dX7_init_38 : decode cX7_init 38 = .ok (.aload_n 0, 1) := by decide +kernel
theorem dX7_init_39 : decode cX7_init 39 = .ok (.getfield 15, 3) := by decide +kernel
theorem dX7_init_42 : decode cX7_init 42 = .ok (.i2l, 1) := by decide +kernel
theorem dX7_init_43 : decode cX7_init 43 = .ok (.iload_n 1, 1) := by decide +kernel
theorem dX7_init_44 : decode cX7_init 44 = .ok (.lshl, 1) := by decide +kernel
theorem dX7_init_45 : decode cX7_init 45 = .ok (.putfield 25, 3) := by decide +kernel
theorem dX7_init_48 : decode cX7_init 48 = .ok (.aload_n 0, 1) := by decide +kernel
theorem dX7_init_49 : decode cX7_init 49 = .ok (.aload_n 0, 1) := by decide +kernel
theorem dX7_init_50 : decode cX7_init 50 = .ok (.getfield 25, 3) := by decide +kernel
theorem dX7_init_53 : decode cX7_init 53 = .ok (.lconst 1, 1) := by decide +kernel
theorem dX7_init_54 : decode cX7_init 54 = .ok (.iload_n 1, 1) := by decide +kernel
theorem dX7_init_55 : decode cX7_init 55 = .ok (.iconst 1, 1) := by decide +kernel
theorem dX7_init_56 : decode cX7_init 56 = .ok (.isub, 1) := by decide +kernel
theorem dX7_init_57 : decode cX7_init 57 = .ok (.lshl, 1) := by decide +kernel
theorem dX7_init_58 : decode cX7_init 58 = .ok (.lor, 1) := by decide +kernel
theorem dX7_init_59 : decode cX7_init 59 = .ok (.putfield 28, 3) := by decide +kernel
theorem dX7_init_62 : decode cX7_init 62 = .ok (.return_, 1) := by decide +kernel
set_option maxRecDepth 20000 in
theorem ggX7_atPoint_X7_times : GoodIn wsX7_atPoint wsX7_times := goodIn_r _ [5, 6, 7, 8, 9, 10, 11, 4, 12, 13, 14, 15, 16, 17, 18, 19, 20, 21, 22, 23, 24, 25, 26, 27, 28, 29, 30, 31, 32, 33, 34, 35, 36, 52, 53, 54, 55, 56, 57] (by decide +kernel) (by decide +kernel)
set_option maxRecDepth 20000 in
theorem gX7_atPoint_X7_times : GoodIn wsX7_atPoint (wsV RX7 31 RX7 yX7_times wsX7_times) := goodIn_app (goodIn_of _ (by decide +kernel)) ggX7_atPoint_X7_times
set_option maxRecDepth 20000 in
theorem ggX7_atPoint_X7_ofWhole : GoodIn wsX7_atPoint wsX7_ofWhole := goodIn_r _ [40, 6, 18, 19, 4, 20, 21, 32, 33, 34, 35, 31, 36, 7, 17, 52, 53, 54, 55, 56, 57] (by decide +kernel) (by decide +kernel)
set_option maxRecDepth 20000 in
theorem gX7_atPoint_X7_ofWhole : GoodIn wsX7_atPoint (wsV RX7 35 RX7 yX7_ofWhole wsX7_ofWhole) := goodIn_app (goodIn_of _ (by decide +kernel)) ggX7_atPoint_X7_ofWhole
set_option maxRecDepth 20000 in
theorem ggX7_atPoint_X7_plus : GoodIn wsX7_atPoint wsX7_plus := goodIn_r _ [44, 9, 10, 11, 4, 12, 6, 45, 46, 47, 48, 7, 8, 27, 28, 29, 30, 17, 31, 18, 19, 20, 21, 13, 14, 15, 16, 49, 50, 51, 32, 33, 34, 35, 36, 52, 53, 54, 55, 56, 57] (by decide +kernel) (by decide +kernel)
set_option maxRecDepth 20000 in
theorem gX7_atPoint_X7_plus : GoodIn wsX7_atPoint (wsV RX7 39 RX7 yX7_plus wsX7_plus) := goodIn_app (goodIn_of _ (by decide +kernel)) ggX7_atPoint_X7_plus
theorem dX7_atPoint_0 : decode cX7_atPoint 0 = .ok (.lconst 0, 1) := by decide +kernel
theorem dX7_atPoint_1 : decode cX7_atPoint 1 = .ok (.lstore 4, 2) := by decide +kernel
theorem dX7_atPoint_3 : decode cX7_atPoint 3 = .ok (.iconst 4, 1) := by decide +kernel
theorem dX7_atPoint_4 : decode cX7_atPoint 4 = .ok (.istore 6, 2) := by decide +kernel
theorem dX7_atPoint_6 : decode cX7_atPoint 6 = .ok (.iload 6, 2) := by decide +kernel
theorem dX7_atPoint_8 : decode cX7_atPoint 8 = .ok (.ifCond .lt 30, 3) := by decide +kernel
theorem dX7_atPoint_11 : decode cX7_atPoint 11 = .ok (.aload_n 0, 1) := by decide +kernel
theorem dX7_atPoint_12 : decode cX7_atPoint 12 = .ok (.aload_n 0, 1) := by decide +kernel
theorem dX7_atPoint_13 : decode cX7_atPoint 13 = .ok (.lload 4, 2) := by decide +kernel
theorem dX7_atPoint_15 : decode cX7_atPoint 15 = .ok (.lload_n 2, 1) := by decide +kernel
theorem dX7_atPoint_16 : decode cX7_atPoint 16 = .ok (.invokevirtual 31, 3) := by decide +kernel
theorem dX7_atPoint_19 : decode cX7_atPoint 19 = .ok (.aload_n 0, 1) := by decide +kernel
theorem dX7_atPoint_20 : decode cX7_atPoint 20 = .ok (.aload_n 1, 1) := by decide +kernel
theorem dX7_atPoint_21 : decode cX7_atPoint 21 = .ok (.iload 6, 2) := by decide +kernel
theorem dX7_atPoint_23 : decode cX7_atPoint 23 = .ok (.iaload, 1) := by decide +kernel
theorem dX7_atPoint_24 : decode cX7_atPoint 24 = .ok (.invokevirtual 35, 3) := by decide +kernel
theorem dX7_atPoint_27 : decode cX7_atPoint 27 = .ok (.invokevirtual 39, 3) := by decide +kernel
theorem dX7_atPoint_30 : decode cX7_atPoint 30 = .ok (.lstore 4, 2) := by decide +kernel
theorem dX7_atPoint_32 : decode cX7_atPoint 32 = .ok (.iinc 6 (-1), 3) := by decide +kernel
theorem dX7_atPoint_35 : decode cX7_atPoint 35 = .ok (.goto (-29), 3) := by decide +kernel
theorem dX7_atPoint_38 : decode cX7_atPoint 38 = .ok (.lload 4, 2) := by decide +kernel
theorem dX7_atPoint_40 : decode cX7_atPoint 40 = .ok (.lreturn, 1) := by decide +kernel
set_option maxRecDepth 20000 in
theorem ggX7_risingAt_X7_times : GoodIn wsX7_risingAt wsX7_times := goodIn_r _ [5, 6, 7, 8, 9, 10, 11, 4, 12, 13, 14, 15, 16, 17, 18, 19, 20, 21, 22, 23, 24, 25, 26, 27, 28, 29, 30, 31, 32, 33, 34, 35, 36, 52, 53, 54, 55, 56, 57] (by decide +kernel) (by decide +kernel)
set_option maxRecDepth 20000 in
theorem gX7_risingAt_X7_times : GoodIn wsX7_risingAt (wsV RX7 31 RX7 yX7_times wsX7_times) := goodIn_app (goodIn_of _ (by decide +kernel)) ggX7_risingAt_X7_times
set_option maxRecDepth 20000 in
theorem ggX7_risingAt_X7_ofWhole : GoodIn wsX7_risingAt wsX7_ofWhole := goodIn_r _ [40, 6, 18, 19, 4, 20, 21, 32, 33, 34, 35, 31, 36, 7, 17, 52, 53, 54, 55, 56, 57] (by decide +kernel) (by decide +kernel)
set_option maxRecDepth 20000 in
theorem gX7_risingAt_X7_ofWhole : GoodIn wsX7_risingAt (wsV RX7 35 RX7 yX7_ofWhole wsX7_ofWhole) := goodIn_app (goodIn_of _ (by decide +kernel)) ggX7_risingAt_X7_ofWhole
set_option maxRecDepth 20000 in
theorem ggX7_risingAt_X7_plus : GoodIn wsX7_risingAt wsX7_plus := goodIn_r _ [44, 9, 10, 11, 4, 12, 6, 45, 46, 47, 48, 7, 8, 27, 28, 29, 30, 17, 31, 18, 19, 20, 21, 13, 14, 15, 16, 49, 50, 51, 32, 33, 34, 35, 36, 52, 53, 54, 55, 56, 57] (by decide +kernel) (by decide +kernel)
set_option maxRecDepth 20000 in
theorem gX7_risingAt_X7_plus : GoodIn wsX7_risingAt (wsV RX7 39 RX7 yX7_plus wsX7_plus) := goodIn_app (goodIn_of _ (by decide +kernel)) ggX7_risingAt_X7_plus
theorem dX7_risingAt_0 : decode cX7_risingAt 0 = .ok (.lconst 0, 1) := by decide +kernel
theorem dX7_risingAt_1 : decode cX7_risingAt 1 = .ok (.lstore 4, 2) := by decide +kernel
theorem dX7_risingAt_3 : decode cX7_risingAt 3 = .ok (.iconst 4, 1) := by decide +kernel
theorem dX7_risingAt_4 : decode cX7_risingAt 4 = .ok (.istore 6, 2) := by decide +kernel
theorem dX7_risingAt_6 : decode cX7_risingAt 6 = .ok (.iload 6, 2) := by decide +kernel
theorem dX7_risingAt_8 : decode cX7_risingAt 8 = .ok (.iconst 1, 1) := by decide +kernel
theorem dX7_risingAt_9 : decode cX7_risingAt 9 = .ok (.if_icmp .lt 33, 3) := by decide +kernel
theorem dX7_risingAt_12 : decode cX7_risingAt 12 = .ok (.aload_n 0, 1) := by decide +kernel
theorem dX7_risingAt_13 : decode cX7_risingAt 13 = .ok (.aload_n 0, 1) := by decide +kernel
theorem dX7_risingAt_14 : decode cX7_risingAt 14 = .ok (.lload 4, 2) := by decide +kernel
theorem dX7_risingAt_16 : decode cX7_risingAt 16 = .ok (.lload_n 2, 1) := by decide +kernel
theorem dX7_risingAt_17 : decode cX7_risingAt 17 = .ok (.invokevirtual 31, 3) := by decide +kernel
theorem dX7_risingAt_20 : decode cX7_risingAt 20 = .ok (.aload_n 0, 1) := by decide +kernel
theorem dX7_risingAt_21 : decode cX7_risingAt 21 = .ok (.iload 6, 2) := by decide +kernel
theorem dX7_risingAt_23 : decode cX7_risingAt 23 = .ok (.aload_n 1, 1) := by decide +kernel
theorem dX7_risingAt_24 : decode cX7_risingAt 24 = .ok (.iload 6, 2) := by decide +kernel
theorem dX7_risingAt_26 : decode cX7_risingAt 26 = .ok (.iaload, 1) := by decide +kernel
theorem dX7_risingAt_27 : decode cX7_risingAt 27 = .ok (.imul, 1) := by decide +kernel
theorem dX7_risingAt_28 : decode cX7_risingAt 28 = .ok (.invokevirtual 35, 3) := by decide +kernel
theorem dX7_risingAt_31 : decode cX7_risingAt 31 = .ok (.invokevirtual 39, 3) := by decide +kernel
theorem dX7_risingAt_34 : decode cX7_risingAt 34 = .ok (.lstore 4, 2) := by decide +kernel
theorem dX7_risingAt_36 : decode cX7_risingAt 36 = .ok (.iinc 6 (-1), 3) := by decide +kernel
theorem dX7_risingAt_39 : decode cX7_risingAt 39 = .ok (.goto (-33), 3) := by decide +kernel
theorem dX7_risingAt_42 : decode cX7_risingAt 42 = .ok (.lload 4, 2) := by decide +kernel
theorem dX7_risingAt_44 : decode cX7_risingAt 44 = .ok (.lreturn, 1) := by decide +kernel
set_option maxRecDepth 20000 in
theorem ggX7_towardsNought_X7_magnitude : GoodIn wsX7_towardsNought wsX7_magnitude := goodIn_r _ [8, 3, 64, 65, 66, 67, 68, 69] (by decide +kernel) (by decide +kernel)
set_option maxRecDepth 20000 in
theorem gX7_towardsNought_X7_magnitude : GoodIn wsX7_towardsNought (wsV RX7 42 RX7 yX7_magnitude wsX7_magnitude) := goodIn_app (goodIn_of _ (by decide +kernel)) ggX7_towardsNought_X7_magnitude
set_option maxRecDepth 20000 in
theorem ggX7_towardsNought_X7_atPoint : GoodIn wsX7_towardsNought wsX7_atPoint := goodIn_r _ [12, 13, 14, 15, 7, 16, 3, 1, 2, 4, 5, 6, 8, 17, 18, 19, 20, 21, 22, 23, 24, 25, 26, 27, 28, 29, 30, 31, 32, 33, 34, 35, 36, 37, 38, 39, 40, 41, 42, 43, 44, 45, 46, 47, 48, 49, 50, 51, 52, 53, 54, 55, 64, 65, 66, 67, 68, 69] (by decide +kernel) (by decide +kernel)
set_option maxRecDepth 20000 in
theorem gX7_towardsNought_X7_atPoint : GoodIn wsX7_towardsNought (wsV RX7 46 RX7 yX7_atPoint wsX7_atPoint) := goodIn_app (goodIn_of _ (by decide +kernel)) ggX7_towardsNought_X7_atPoint
set_option maxRecDepth 20000 in
theorem ggX7_towardsNought_X7_risingAt : GoodIn wsX7_towardsNought wsX7_risingAt := goodIn_r _ [59, 13, 14, 15, 7, 16, 3, 1, 2, 4, 5, 6, 8, 17, 18, 19, 20, 21, 22, 23, 24, 25, 26, 27, 28, 29, 30, 31, 32, 33, 34, 35, 36, 37, 38, 39, 40, 41, 42, 43, 44, 45, 46, 47, 48, 49, 50, 51, 52, 53, 54, 55, 64, 65, 66, 67, 68, 69] (by decide +kernel) (by decide +kernel)
set_option maxRecDepth 20000 in
theorem gX7_towardsNought_X7_risingAt : GoodIn wsX7_towardsNought (wsV RX7 50 RX7 yX7_risingAt wsX7_risingAt) := goodIn_app (goodIn_of _ (by decide +kernel)) ggX7_towardsNought_X7_risingAt
set_option maxRecDepth 20000 in
theorem ggX7_towardsNought_X7_shortQuotient : GoodIn wsX7_towardsNought wsX7_shortQuotient := goodIn_r _ [63, 3, 1, 2, 4, 5, 6, 7, 8, 17, 18, 19, 20, 21, 22, 23, 24, 25, 31, 32, 33, 34, 35, 36, 37, 38, 39, 40, 64, 65, 66, 67, 68, 69] (by decide +kernel) (by decide +kernel)
set_option maxRecDepth 20000 in
theorem gX7_towardsNought_X7_shortQuotient : GoodIn wsX7_towardsNought (wsV RX7 53 RX7 yX7_shortQuotient wsX7_shortQuotient) := goodIn_app (goodIn_of _ (by decide +kernel)) ggX7_towardsNought_X7_shortQuotient
set_option maxRecDepth 20000 in
theorem ggX7_towardsNought_X7_plus : GoodIn wsX7_towardsNought wsX7_plus := goodIn_r _ [48, 4, 5, 6, 7, 8, 3, 49, 50, 51, 52, 1, 2, 31, 32, 33, 34, 21, 35, 22, 23, 24, 25, 17, 18, 19, 20, 53, 54, 55, 36, 37, 38, 39, 40, 64, 65, 66, 67, 68, 69] (by decide +kernel) (by decide +kernel)
set_option maxRecDepth 20000 in
theorem gX7_towardsNought_X7_plus : GoodIn wsX7_towardsNought (wsV RX7 39 RX7 yX7_plus wsX7_plus) := goodIn_app (goodIn_of _ (by decide +kernel)) ggX7_towardsNought_X7_plus
theorem dX7_towardsNought_0 : decode cX7_towardsNought 0 = .ok (.aload_n 0, 1) := by decide +kernel
theorem dX7_towardsNought_1 : decode cX7_towardsNought 1 = .ok (.lload_n 2, 1) := by decide +kernel
theorem dX7_towardsNought_2 : decode cX7_towardsNought 2 = .ok (.invokevirtual 42, 3) := by decide +kernel
theorem dX7_towardsNought_5 : decode cX7_towardsNought 5 = .ok (.aload_n 0, 1) := by decide +kernel
theorem dX7_towardsNought_6 : decode cX7_towardsNought 6 = .ok (.getfield 25, 3) := by decide +kernel
theorem dX7_towardsNought_9 : decode cX7_towardsNought 9 = .ok (.lcmp, 1) := by decide +kernel
theorem dX7_towardsNought_10 : decode cX7_towardsNought 10 = .ok (.ifCond .le 10, 3) := by decide +kernel
theorem dX7_towardsNought_13 : decode cX7_towardsNought 13 = .ok (.aload_n 0, 1) := by decide +kernel
theorem dX7_towardsNought_14 : decode cX7_towardsNought 14 = .ok (.getfield 28, 3) := by decide +kernel
theorem dX7_towardsNought_17 : decode cX7_towardsNought 17 = .ok (.goto 4, 3) := by decide +kernel
theorem dX7_towardsNought_20 : decode cX7_towardsNought 20 = .ok (.lload_n 2, 1) := by decide +kernel
theorem dX7_towardsNought_21 : decode cX7_towardsNought 21 = .ok (.lstore 5, 2) := by decide +kernel
theorem dX7_towardsNought_23 : decode cX7_towardsNought 23 = .ok (.iconst 0, 1) := by decide +kernel
theorem dX7_towardsNought_24 : decode cX7_towardsNought 24 = .ok (.istore 7, 2) := by decide +kernel
theorem dX7_towardsNought_26 : decode cX7_towardsNought 26 = .ok (.iload 7, 2) := by decide +kernel
theorem dX7_towardsNought_28 : decode cX7_towardsNought 28 = .ok (.iload 4, 2) := by decide +kernel
theorem dX7_towardsNought_30 : decode cX7_towardsNought 30 = .ok (.if_icmp .ge 40, 3) := by decide +kernel
theorem dX7_towardsNought_33 : decode cX7_towardsNought 33 = .ok (.aload_n 0, 1) := by decide +kernel
theorem dX7_towardsNought_34 : decode cX7_towardsNought 34 = .ok (.lload 5, 2) := by decide +kernel
theorem dX7_towardsNought_36 : decode cX7_towardsNought 36 = .ok (.aload_n 0, 1) := by decide +kernel
theorem dX7_towardsNought_37 : decode cX7_towardsNought 37 = .ok (.getfield 21, 3) := by decide +kernel
theorem dX7_towardsNought_40 : decode cX7_towardsNought 40 = .ok (.aload_n 0, 1) := by decide +kernel
theorem dX7_towardsNought_41 : decode cX7_towardsNought 41 = .ok (.aload_n 0, 1) := by decide +kernel
theorem dX7_towardsNought_42 : decode cX7_towardsNought 42 = .ok (.aload_n 1, 1) := by decide +kernel
theorem dX7_towardsNought_43 : decode cX7_towardsNought 43 = .ok (.lload 5, 2) := by decide +kernel
theorem dX7_towardsNought_45 : decode cX7_towardsNought 45 = .ok (.invokevirtual 46, 3) := by decide +kernel
theorem dX7_towardsNought_48 : decode cX7_towardsNought 48 = .ok (.aload_n 0, 1) := by decide +kernel
theorem dX7_towardsNought_49 : decode cX7_towardsNought 49 = .ok (.aload_n 1, 1) := by decide +kernel
theorem dX7_towardsNought_50 : decode cX7_towardsNought 50 = .ok (.lload 5, 2) := by decide +kernel
theorem dX7_towardsNought_52 : decode cX7_towardsNought 52 = .ok (.invokevirtual 50, 3) := by decide +kernel
theorem dX7_towardsNought_55 : decode cX7_towardsNought 55 = .ok (.invokevirtual 53, 3) := by decide +kernel
theorem dX7_towardsNought_58 : decode cX7_towardsNought 58 = .ok (.lxor, 1) := by decide +kernel
theorem dX7_towardsNought_59 : decode cX7_towardsNought 59 = .ok (.invokevirtual 39, 3) := by decide +kernel
theorem dX7_towardsNought_62 : decode cX7_towardsNought 62 = .ok (.lstore 5, 2) := by decide +kernel
theorem dX7_towardsNought_64 : decode cX7_towardsNought 64 = .ok (.iinc 7 1, 3) := by decide +kernel
theorem dX7_towardsNought_67 : decode cX7_towardsNought 67 = .ok (.goto (-41), 3) := by decide +kernel
theorem dX7_towardsNought_70 : decode cX7_towardsNought 70 = .ok (.lload 5, 2) := by decide +kernel
theorem dX7_towardsNought_72 : decode cX7_towardsNought 72 = .ok (.lreturn, 1) := by decide +kernel
set_option maxRecDepth 20000 in
theorem ggX7_cutToInt_X7_magnitude : GoodIn wsX7_cutToInt wsX7_magnitude := goodIn_r _ [9, 2, 24, 25, 26, 27, 28, 29] (by decide +kernel) (by decide +kernel)
set_option maxRecDepth 20000 in
theorem gX7_cutToInt_X7_magnitude : GoodIn wsX7_cutToInt (wsV RX7 42 RX7 yX7_magnitude wsX7_magnitude) := goodIn_app (goodIn_of _ (by decide +kernel)) ggX7_cutToInt_X7_magnitude
set_option maxRecDepth 20000 in
theorem ggX7_cutToInt_X7_exponentOf : GoodIn wsX7_cutToInt wsX7_exponentOf := goodIn_r _ [13, 14, 15, 16, 17, 8, 18, 19, 24, 25, 26, 27, 28, 29] (by decide +kernel) (by decide +kernel)
set_option maxRecDepth 20000 in
theorem gX7_cutToInt_X7_exponentOf : GoodIn wsX7_cutToInt (wsV RX7 56 RX7 yX7_exponentOf wsX7_exponentOf) := goodIn_app (goodIn_of _ (by decide +kernel)) ggX7_cutToInt_X7_exponentOf
set_option maxRecDepth 20000 in
theorem ggX7_cutToInt_X7_significandOf : GoodIn wsX7_cutToInt wsX7_significandOf := goodIn_r _ [23, 14, 16, 17, 8, 18, 19, 24, 25, 26, 27, 28, 29] (by decide +kernel) (by decide +kernel)
set_option maxRecDepth 20000 in
theorem gX7_cutToInt_X7_significandOf : GoodIn wsX7_cutToInt (wsV RX7 64 RX7 yX7_significandOf wsX7_significandOf) := goodIn_app (goodIn_of _ (by decide +kernel)) ggX7_cutToInt_X7_significandOf
theorem dX7_cutToInt_0 : decode cX7_cutToInt 0 = .ok (.aload_n 0, 1) := by decide +kernel
theorem dX7_cutToInt_1 : decode cX7_cutToInt 1 = .ok (.lload_n 1, 1) := by decide +kernel
theorem dX7_cutToInt_2 : decode cX7_cutToInt 2 = .ok (.invokevirtual 42, 3) := by decide +kernel
theorem dX7_cutToInt_5 : decode cX7_cutToInt 5 = .ok (.lstore_n 3, 1) := by decide +kernel
theorem dX7_cutToInt_6 : decode cX7_cutToInt 6 = .ok (.lload_n 3, 1) := by decide +kernel
theorem dX7_cutToInt_7 : decode cX7_cutToInt 7 = .ok (.aload_n 0, 1) := by decide +kernel
theorem dX7_cutToInt_8 : decode cX7_cutToInt 8 = .ok (.getfield 25, 3) := by decide +kernel
theorem dX7_cutToInt_11 : decode cX7_cutToInt 11 = .ok (.lcmp, 1) := by decide +kernel
theorem dX7_cutToInt_12 : decode cX7_cutToInt 12 = .ok (.ifCond .gt 9, 3) := by decide +kernel
theorem dX7_cutToInt_15 : decode cX7_cutToInt 15 = .ok (.lload_n 3, 1) := by decide +kernel
theorem dX7_cutToInt_16 : decode cX7_cutToInt 16 = .ok (.lconst 0, 1) := by decide +kernel
theorem dX7_cutToInt_17 : decode cX7_cutToInt 17 = .ok (.lcmp, 1) := by decide +kernel
theorem dX7_cutToInt_18 : decode cX7_cutToInt 18 = .ok (.ifCond .ne 5, 3) := by decide +kernel
theorem dX7_cutToInt_21 : decode cX7_cutToInt 21 = .ok (.iconst 0, 1) := by decide +kernel
theorem dX7_cutToInt_22 : decode cX7_cutToInt 22 = .ok (.ireturn, 1) := by decide +kernel
theorem dX7_cutToInt_23 : decode cX7_cutToInt 23 = .ok (.lload_n 1, 1) := by decide +kernel
theorem dX7_cutToInt_24 : decode cX7_cutToInt 24 = .ok (.aload_n 0, 1) := by decide +kernel
theorem dX7_cutToInt_25 : decode cX7_cutToInt 25 = .ok (.getfield 21, 3) := by decide +kernel
theorem dX7_cutToInt_28 : decode cX7_cutToInt 28 = .ok (.land, 1) := by decide +kernel
theorem dX7_cutToInt_29 : decode cX7_cutToInt 29 = .ok (.lconst 0, 1) := by decide +kernel
theorem dX7_cutToInt_30 : decode cX7_cutToInt 30 = .ok (.lcmp, 1) := by decide +kernel
theorem dX7_cutToInt_31 : decode cX7_cutToInt 31 = .ok (.ifCond .eq 7, 3) := by decide +kernel
theorem dX7_cutToInt_34 : decode cX7_cutToInt 34 = .ok (.iconst 1, 1) := by decide +kernel
theorem dX7_cutToInt_35 : decode cX7_cutToInt 35 = .ok (.goto 4, 3) := by decide +kernel
theorem dX7_cutToInt_38 : decode cX7_cutToInt 38 = .ok (.iconst 0, 1) := by decide +kernel
theorem dX7_cutToInt_39 : decode cX7_cutToInt 39 = .ok (.istore 5, 2) := by decide +kernel
theorem dX7_cutToInt_41 : decode cX7_cutToInt 41 = .ok (.aload_n 0, 1) := by decide +kernel
theorem dX7_cutToInt_42 : decode cX7_cutToInt 42 = .ok (.lload_n 3, 1) := by decide +kernel
theorem dX7_cutToInt_43 : decode cX7_cutToInt 43 = .ok (.invokevirtual 56, 3) := by decide +kernel
theorem dX7_cutToInt_46 : decode cX7_cutToInt 46 = .ok (.istore 6, 2) := by decide +kernel
theorem dX7_cutToInt_48 : decode cX7_cutToInt 48 = .ok (.iload 6, 2) := by decide +kernel
theorem dX7_cutToInt_50 : decode cX7_cutToInt 50 = .ok (.ifCond .ge 5, 3) := by decide +kernel
theorem dX7_cutToInt_53 : decode cX7_cutToInt 53 = .ok (.iconst 0, 1) := by decide +kernel
theorem dX7_cutToInt_54 : decode cX7_cutToInt 54 = .ok (.ireturn, 1) := by decide +kernel
theorem dX7_cutToInt_55 : decode cX7_cutToInt 55 = .ok (.iload 6, 2) := by decide +kernel
theorem dX7_cutToInt_57 : decode cX7_cutToInt 57 = .ok (.bipush 30, 2) := by decide +kernel
theorem dX7_cutToInt_59 : decode cX7_cutToInt 59 = .ok (.if_icmp .le 16, 3) := by decide +kernel
theorem dX7_cutToInt_62 : decode cX7_cutToInt 62 = .ok (.iload 5, 2) := by decide +kernel
theorem dX7_cutToInt_64 : decode cX7_cutToInt 64 = .ok (.ifCond .eq 8, 3) := by decide +kernel
theorem dX7_cutToInt_67 : decode cX7_cutToInt 67 = .ok (.ldc 62, 2) := by decide +kernel
theorem dX7_cutToInt_69 : decode cX7_cutToInt 69 = .ok (.goto 5, 3) := by decide +kernel
theorem dX7_cutToInt_72 : decode cX7_cutToInt 72 = .ok (.ldc 63, 2) := by decide +kernel
theorem dX7_cutToInt_74 : decode cX7_cutToInt 74 = .ok (.ireturn, 1) := by decide +kernel
theorem dX7_cutToInt_75 : decode cX7_cutToInt 75 = .ok (.aload_n 0, 1) := by decide +kernel
theorem dX7_cutToInt_76 : decode cX7_cutToInt 76 = .ok (.lload_n 3, 1) := by decide +kernel
theorem dX7_cutToInt_77 : decode cX7_cutToInt 77 = .ok (.invokevirtual 64, 3) := by decide +kernel
theorem dX7_cutToInt_80 : decode cX7_cutToInt 80 = .ok (.bipush 62, 2) := by decide +kernel
theorem dX7_cutToInt_82 : decode cX7_cutToInt 82 = .ok (.iload 6, 2) := by decide +kernel
theorem dX7_cutToInt_84 : decode cX7_cutToInt 84 = .ok (.isub, 1) := by decide +kernel
theorem dX7_cutToInt_85 : decode cX7_cutToInt 85 = .ok (.lushr, 1) := by decide +kernel
theorem dX7_cutToInt_86 : decode cX7_cutToInt 86 = .ok (.l2i, 1) := by decide +kernel
theorem dX7_cutToInt_87 : decode cX7_cutToInt 87 = .ok (.istore 7, 2) := by decide +kernel
theorem dX7_cutToInt_89 : decode cX7_cutToInt 89 = .ok (.iload 5, 2) := by decide +kernel
theorem dX7_cutToInt_91 : decode cX7_cutToInt 91 = .ok (.ifCond .eq 9, 3) := by decide +kernel
theorem dX7_cutToInt_94 : decode cX7_cutToInt 94 = .ok (.iload 7, 2) := by decide +kernel
theorem dX7_cutToInt_96 : decode cX7_cutToInt 96 = .ok (.ineg, 1) := by decide +kernel
theorem dX7_cutToInt_97 : decode cX7_cutToInt 97 = .ok (.goto 5, 3) := by decide +kernel
theorem dX7_cutToInt_100 : decode cX7_cutToInt 100 = .ok (.iload 7, 2) := by decide +kernel
theorem dX7_cutToInt_102 : decode cX7_cutToInt 102 = .ok (.ireturn, 1) := by decide +kernel
set_option maxRecDepth 20000 in
theorem ggX7_likeOther_X7_magnitude : GoodIn wsX7_likeOther wsX7_magnitude := goodIn_r _ [8, 3, 28, 29, 30, 31, 32, 33] (by decide +kernel) (by decide +kernel)
set_option maxRecDepth 20000 in
theorem gX7_likeOther_X7_magnitude : GoodIn wsX7_likeOther (wsV RX7 42 RX7 yX7_magnitude wsX7_magnitude) := goodIn_app (goodIn_of _ (by decide +kernel)) ggX7_likeOther_X7_magnitude
set_option maxRecDepth 20000 in
theorem ggX7_likeOther_X7_exponentOf : GoodIn wsX7_likeOther wsX7_exponentOf := goodIn_r _ [12, 13, 14, 15, 16, 7, 17, 18, 28, 29, 30, 31, 32, 33] (by decide +kernel) (by decide +kernel)
set_option maxRecDepth 20000 in
theorem gX7_likeOther_X7_exponentOf : GoodIn wsX7_likeOther (wsV RX7 56 RX7 yX7_exponentOf wsX7_exponentOf) := goodIn_app (goodIn_of _ (by decide +kernel)) ggX7_likeOther_X7_exponentOf
set_option maxRecDepth 20000 in
theorem ggX7_likeOther_X7_significandOf : GoodIn wsX7_likeOther wsX7_significandOf := goodIn_r _ [22, 13, 15, 16, 7, 17, 18, 28, 29, 30, 31, 32, 33] (by decide +kernel) (by decide +kernel)
set_option maxRecDepth 20000 in
theorem gX7_likeOther_X7_significandOf : GoodIn wsX7_likeOther (wsV RX7 64 RX7 yX7_significandOf wsX7_significandOf) := goodIn_app (goodIn_of _ (by decide +kernel)) ggX7_likeOther_X7_significandOf
set_option maxRecDepth 20000 in
theorem ggX7_likeOther_X7_rounded : GoodIn wsX7_likeOther wsX7_rounded := goodIn_r _ [26, 14, 27, 1, 13, 28, 29, 30, 31, 32, 33] (by decide +kernel) (by decide +kernel)
set_option maxRecDepth 20000 in
theorem gX7_likeOther_X7_rounded : GoodIn wsX7_likeOther (wsV RX7 67 RX7 yX7_rounded wsX7_rounded) := goodIn_app (goodIn_of _ (by decide +kernel)) ggX7_likeOther_X7_rounded
theorem dX7_likeOther_0 : decode cX7_likeOther 0 = .ok (.aload_n 1, 1) := by decide +kernel
theorem dX7_likeOther_1 : decode cX7_likeOther 1 = .ok (.lload_n 2, 1) := by decide +kernel
theorem dX7_likeOther_2 : decode cX7_likeOther 2 = .ok (.invokevirtual 42, 3) := by decide +kernel
theorem dX7_likeOther_5 : decode cX7_likeOther 5 = .ok (.lstore 4, 2) := by decide +kernel
theorem dX7_likeOther_7 : decode cX7_likeOther 7 = .ok (.lload 4, 2) := by decide +kernel
theorem dX7_likeOther_9 : decode cX7_likeOther 9 = .ok (.aload_n 1, 1) := by decide +kernel
theorem dX7_likeOther_10 : decode cX7_likeOther 10 = .ok (.getfield 25, 3) := by decide +kernel
theorem dX7_likeOther_13 : decode cX7_likeOther 13 = .ok (.lcmp, 1) := by decide +kernel
theorem dX7_likeOther_14 : decode cX7_likeOther 14 = .ok (.ifCond .le 8, 3) := by decide +kernel
theorem dX7_likeOther_17 : decode cX7_likeOther 17 = .ok (.aload_n 0, 1) := by decide +kernel
theorem dX7_likeOther_18 : decode cX7_likeOther 18 = .ok (.getfield 28, 3) := by decide +kernel
theorem dX7_likeOther_21 : decode cX7_likeOther 21 = .ok (.lreturn, 1) := by decide +kernel
theorem dX7_likeOther_22 : decode cX7_likeOther 22 = .ok (.lload_n 2, 1) := by decide +kernel
theorem dX7_likeOther_23 : decode cX7_likeOther 23 = .ok (.aload_n 1, 1) := by decide +kernel
theorem dX7_likeOther_24 : decode cX7_likeOther 24 = .ok (.getfield 21, 3) := by decide +kernel
theorem dX7_likeOther_27 : decode cX7_likeOther 27 = .ok (.land, 1) := by decide +kernel
theorem dX7_likeOther_28 : decode cX7_likeOther 28 = .ok (.lconst 0, 1) := by decide +kernel
theorem dX7_likeOther_29 : decode cX7_likeOther 29 = .ok (.lcmp, 1) := by decide +kernel
theorem dX7_likeOther_30 : decode cX7_likeOther 30 = .ok (.ifCond .eq 10, 3) := by decide +kernel
theorem dX7_likeOther_33 : decode cX7_likeOther 33 = .ok (.aload_n 0, 1) := by decide +kernel
theorem dX7_likeOther_34 : decode cX7_likeOther 34 = .ok (.getfield 21, 3) := by decide +kernel
theorem dX7_likeOther_37 : decode cX7_likeOther 37 = .ok (.goto 4, 3) := by decide +kernel
theorem dX7_likeOther_40 : decode cX7_likeOther 40 = .ok (.lconst 0, 1) := by decide +kernel
theorem dX7_likeOther_41 : decode cX7_likeOther 41 = .ok (.lstore 6, 2) := by decide +kernel
theorem dX7_likeOther_43 : decode cX7_likeOther 43 = .ok (.lload 4, 2) := by decide +kernel
theorem dX7_likeOther_45 : decode cX7_likeOther 45 = .ok (.aload_n 1, 1) := by decide +kernel
theorem dX7_likeOther_46 : decode cX7_likeOther 46 = .ok (.getfield 25, 3) := by decide +kernel
theorem dX7_likeOther_49 : decode cX7_likeOther 49 = .ok (.lcmp, 1) := by decide +kernel
theorem dX7_likeOther_50 : decode cX7_likeOther 50 = .ok (.ifCond .ne 11, 3) := by decide +kernel
theorem dX7_likeOther_53 : decode cX7_likeOther 53 = .ok (.lload 6, 2) := by decide +kernel
theorem dX7_likeOther_55 : decode cX7_likeOther 55 = .ok (.aload_n 0, 1) := by decide +kernel
theorem dX7_likeOther_56 : decode cX7_likeOther 56 = .ok (.getfield 25, 3) := by decide +kernel
theorem dX7_likeOther_59 : decode cX7_likeOther 59 = .ok (.lor, 1) := by decide +kernel
theorem dX7_likeOther_60 : decode cX7_likeOther 60 = .ok (.lreturn, 1) := by decide +kernel
theorem dX7_likeOther_61 : decode cX7_likeOther 61 = .ok (.lload 4, 2) := by decide +kernel
theorem dX7_likeOther_63 : decode cX7_likeOther 63 = .ok (.lconst 0, 1) := by decide +kernel
theorem dX7_likeOther_64 : decode cX7_likeOther 64 = .ok (.lcmp, 1) := by decide +kernel
theorem dX7_likeOther_65 : decode cX7_likeOther 65 = .ok (.ifCond .ne 8, 3) := by decide +kernel
theorem dX7_likeOther_68 : decode cX7_likeOther 68 = .ok (.lload 6, 2) := by decide +kernel
theorem dX7_likeOther_70 : decode cX7_likeOther 70 = .ok (.goto 21, 3) := by decide +kernel
theorem dX7_likeOther_73 : decode cX7_likeOther 73 = .ok (.aload_n 0, 1) := by decide +kernel
theorem dX7_likeOther_74 : decode cX7_likeOther 74 = .ok (.lload 6, 2) := by decide +kernel
theorem dX7_likeOther_76 : decode cX7_likeOther 76 = .ok (.aload_n 1, 1) := by decide +kernel
theorem dX7_likeOther_77 : decode cX7_likeOther 77 = .ok (.lload 4, 2) := by decide +kernel
theorem dX7_likeOther_79 : decode cX7_likeOther 79 = .ok (.invokevirtual 56, 3) := by decide +kernel
theorem dX7_likeOther_82 : decode cX7_likeOther 82 = .ok (.aload_n 1, 1) := by decide +kernel
theorem dX7_likeOther_83 : decode cX7_likeOther 83 = .ok (.lload 4, 2) := by decide +kernel
theorem dX7_likeOther_85 : decode cX7_likeOther 85 = .ok (.invokevirtual 64, 3) := by decide +kernel
theorem dX7_likeOther_88 : decode cX7_likeOther 88 = .ok (.invokevirtual 67, 3) := by decide +kernel
theorem dX7_likeOther_91 : decode cX7_likeOther 91 = .ok (.lreturn, 1) := by decide +kernel
set_option maxRecDepth 20000 in
theorem ggX7_ofWhole_X7_gapOf : GoodIn wsX7_ofWhole wsX7_gapOf := goodIn_r _ [5, 6] (by decide +kernel) (by decide +kernel)
set_option maxRecDepth 20000 in
theorem gX7_ofWhole_X7_gapOf : GoodIn wsX7_ofWhole (va_wsS RX7 71 yX7_gapOf wsX7_gapOf) := goodIn_app (goodIn_of _ (by decide +kernel)) ggX7_ofWhole_X7_gapOf
set_option maxRecDepth 20000 in
theorem ggX7_ofWhole_X7_rounded : GoodIn wsX7_ofWhole wsX7_rounded := goodIn_r _ [10, 11, 12, 13, 14, 15, 16, 17, 18, 19, 20] (by decide +kernel) (by decide +kernel)
set_option maxRecDepth 20000 in
theorem gX7_ofWhole_X7_rounded : GoodIn wsX7_ofWhole (wsV RX7 67 RX7 yX7_rounded wsX7_rounded) := goodIn_app (goodIn_of _ (by decide +kernel)) ggX7_ofWhole_X7_rounded
theorem dX7_ofWhole_0 : decode cX7_ofWhole 0 = .ok (.iload_n 1, 1) := by decide +kernel
theorem dX7_ofWhole_1 : decode cX7_ofWhole 1 = .ok (.ifCond .ne 5, 3) := by decide +kernel
theorem dX7_ofWhole_4 : decode cX7_ofWhole 4 = .ok (.lconst 0, 1) := by decide +kernel
theorem dX7_ofWhole_5 : decode cX7_ofWhole 5 = .ok (.lreturn, 1) := by decide +kernel
theorem dX7_ofWhole_6 : decode cX7_ofWhole 6 = .ok (.iload_n 1, 1) := by decide +kernel
theorem dX7_ofWhole_7 : decode cX7_ofWhole 7 = .ok (.ifCond .ge 9, 3) := by decide +kernel
theorem dX7_ofWhole_10 : decode cX7_ofWhole 10 = .ok (.iload_n 1, 1) := by decide +kernel
theorem dX7_ofWhole_11 : decode cX7_ofWhole 11 = .ok (.i2l, 1) := by decide +kernel
theorem dX7_ofWhole_12 : decode cX7_ofWhole 12 = .ok (.lneg, 1) := by decide +kernel
theorem dX7_ofWhole_13 : decode cX7_ofWhole 13 = .ok (.goto 5, 3) := by decide +kernel
theorem dX7_ofWhole_16 : decode cX7_ofWhole 16 = .ok (.iload_n 1, 1) := by decide +kernel
theorem dX7_ofWhole_17 : decode cX7_ofWhole 17 = .ok (.i2l, 1) := by decide +kernel
theorem dX7_ofWhole_18 : decode cX7_ofWhole 18 = .ok (.lstore_n 2, 1) := by decide +kernel
theorem dX7_ofWhole_19 : decode cX7_ofWhole 19 = .ok (.lload_n 2, 1) := by decide +kernel
theorem dX7_ofWhole_20 : decode cX7_ofWhole 20 = .ok (.invokestatic 71, 3) := by decide +kernel
theorem dX7_ofWhole_23 : decode cX7_ofWhole 23 = .ok (.istore 4, 2) := by decide +kernel
theorem dX7_ofWhole_25 : decode cX7_ofWhole 25 = .ok (.aload_n 0, 1) := by decide +kernel
theorem dX7_ofWhole_26 : decode cX7_ofWhole 26 = .ok (.iload_n 1, 1) := by decide +kernel
theorem dX7_ofWhole_27 : decode cX7_ofWhole 27 = .ok (.ifCond .ge 10, 3) := by decide +kernel
theorem dX7_ofWhole_30 : decode cX7_ofWhole 30 = .ok (.aload_n 0, 1) := by decide +kernel
theorem dX7_ofWhole_31 : decode cX7_ofWhole 31 = .ok (.getfield 21, 3) := by decide +kernel
theorem dX7_ofWhole_34 : decode cX7_ofWhole 34 = .ok (.goto 4, 3) := by decide +kernel
theorem dX7_ofWhole_37 : decode cX7_ofWhole 37 = .ok (.lconst 0, 1) := by decide +kernel
theorem dX7_ofWhole_38 : decode cX7_ofWhole 38 = .ok (.bipush 62, 2) := by decide +kernel
theorem dX7_ofWhole_40 : decode cX7_ofWhole 40 = .ok (.iload 4, 2) := by decide +kernel
theorem dX7_ofWhole_42 : decode cX7_ofWhole 42 = .ok (.isub, 1) := by decide +kernel
theorem dX7_ofWhole_43 : decode cX7_ofWhole 43 = .ok (.lload_n 2, 1) := by decide +kernel
theorem dX7_ofWhole_44 : decode cX7_ofWhole 44 = .ok (.iload 4, 2) := by decide +kernel
theorem dX7_ofWhole_46 : decode cX7_ofWhole 46 = .ok (.lshl, 1) := by decide +kernel
theorem dX7_ofWhole_47 : decode cX7_ofWhole 47 = .ok (.invokevirtual 67, 3) := by decide +kernel
theorem dX7_ofWhole_50 : decode cX7_ofWhole 50 = .ok (.lreturn, 1) := by decide +kernel
theorem dX7_magnitude_0 : decode cX7_magnitude 0 = .ok (.lload_n 1, 1) := by decide +kernel
theorem dX7_magnitude_1 : decode cX7_magnitude 1 = .ok (.aload_n 0, 1) := by decide +kernel
theorem dX7_magnitude_2 : decode cX7_magnitude 2 = .ok (.getfield 21, 3) := by decide +kernel
theorem dX7_magnitude_5 : decode cX7_magnitude 5 = .ok (.lconst 1, 1) := by decide +kernel
theorem dX7_magnitude_6 : decode cX7_magnitude 6 = .ok (.lsub, 1) := by decide +kernel
theorem dX7_magnitude_7 : decode cX7_magnitude 7 = .ok (.land, 1) := by decide +kernel
theorem dX7_magnitude_8 : decode cX7_magnitude 8 = .ok (.lreturn, 1) := by decide +kernel
set_option maxRecDepth 20000 in
theorem ggX7_plus_X7_magnitude : GoodIn wsX7_plus wsX7_magnitude := goodIn_r _ [5, 6, 35, 36, 37, 38, 39, 40] (by decide +kernel) (by decide +kernel)
set_option maxRecDepth 20000 in
theorem gX7_plus_X7_magnitude : GoodIn wsX7_plus (wsV RX7 42 RX7 yX7_magnitude wsX7_magnitude) := goodIn_app (goodIn_of _ (by decide +kernel)) ggX7_plus_X7_magnitude
set_option maxRecDepth 20000 in
theorem ggX7_plus_X7_plusLesser : GoodIn wsX7_plus wsX7_plusLesser := goodIn_r _ [10, 6, 11, 12, 13, 14, 15, 4, 16, 17, 18, 19, 20, 21, 22, 23, 24, 25, 26, 27, 28, 29, 30, 31, 32, 33, 34, 35, 36, 37, 38, 39, 40] (by decide +kernel) (by decide +kernel)
set_option maxRecDepth 20000 in
theorem gX7_plus_X7_plusLesser : GoodIn wsX7_plus (wsV RX7 74 RX7 yX7_plusLesser wsX7_plusLesser) := goodIn_app (goodIn_of _ (by decide +kernel)) ggX7_plus_X7_plusLesser
theorem dX7_plus_0 : decode cX7_plus 0 = .ok (.aload_n 0, 1) := by decide +kernel
theorem dX7_plus_1 : decode cX7_plus 1 = .ok (.lload_n 1, 1) := by decide +kernel
theorem dX7_plus_2 : decode cX7_plus 2 = .ok (.invokevirtual 42, 3) := by decide +kernel
theorem dX7_plus_5 : decode cX7_plus 5 = .ok (.lstore 5, 2) := by decide +kernel
theorem dX7_plus_7 : decode cX7_plus 7 = .ok (.aload_n 0, 1) := by decide +kernel
theorem dX7_plus_8 : decode cX7_plus 8 = .ok (.lload_n 3, 1) := by decide +kernel
theorem dX7_plus_9 : decode cX7_plus 9 = .ok (.invokevirtual 42, 3) := by decide +kernel
theorem dX7_plus_12 : decode cX7_plus 12 = .ok (.lstore 7, 2) := by decide +kernel
theorem dX7_plus_14 : decode cX7_plus 14 = .ok (.lload 5, 2) := by decide +kernel
theorem dX7_plus_16 : decode cX7_plus 16 = .ok (.lload 7, 2) := by decide +kernel
theorem dX7_plus_18 : decode cX7_plus 18 = .ok (.lcmp, 1) := by decide +kernel
theorem dX7_plus_19 : decode cX7_plus 19 = .ok (.ifCond .ge 14, 3) := by decide +kernel
theorem dX7_plus_22 : decode cX7_plus 22 = .ok (.aload_n 0, 1) := by decide +kernel
theorem dX7_plus_23 : decode cX7_plus 23 = .ok (.lload_n 3, 1) := by decide +kernel
theorem dX7_plus_24 : decode cX7_plus 24 = .ok (.lload_n 1, 1) := by decide +kernel
theorem dX7_plus_25 : decode cX7_plus 25 = .ok (.lload 7, 2) := by decide +kernel
theorem dX7_plus_27 : decode cX7_plus 27 = .ok (.lload 5, 2) := by decide +kernel
theorem dX7_plus_29 : decode cX7_plus 29 = .ok (.invokevirtual 74, 3) := by decide +kernel
theorem dX7_plus_32 : decode cX7_plus 32 = .ok (.lreturn, 1) := by decide +kernel
theorem dX7_plus_33 : decode cX7_plus 33 = .ok (.aload_n 0, 1) := by decide +kernel
theorem dX7_plus_34 : decode cX7_plus 34 = .ok (.lload_n 1, 1) := by decide +kernel
theorem dX7_plus_35 : decode cX7_plus 35 = .ok (.lload_n 3, 1) := by decide +kernel
theorem dX7_plus_36 : decode cX7_plus 36 = .ok (.lload 5, 2) := by decide +kernel
theorem dX7_plus_38 : decode cX7_plus 38 = .ok (.lload 7, 2) := by decide +kernel
theorem dX7_plus_40 : decode cX7_plus 40 = .ok (.invokevirtual 74, 3) := by decide +kernel
theorem dX7_plus_43 : decode cX7_plus 43 = .ok (.lreturn, 1) := by decide +kernel
set_option maxRecDepth 20000 in
theorem ggX7_plusLesser_X7_exponentOf : GoodIn wsX7_plusLesser wsX7_exponentOf := goodIn_r _ [8, 9, 10, 11, 12, 7, 13, 14, 27, 28, 29, 30, 31, 32] (by decide +kernel) (by decide +kernel)
set_option maxRecDepth 20000 in
theorem gX7_plusLesser_X7_exponentOf : GoodIn wsX7_plusLesser (wsV RX7 56 RX7 yX7_exponentOf wsX7_exponentOf) := goodIn_app (goodIn_of _ (by decide +kernel)) ggX7_plusLesser_X7_exponentOf
set_option maxRecDepth 20000 in
theorem ggX7_plusLesser_X7_significandOf : GoodIn wsX7_plusLesser wsX7_significandOf := goodIn_r _ [18, 9, 11, 12, 7, 13, 14, 27, 28, 29, 30, 31, 32] (by decide +kernel) (by decide +kernel)
set_option maxRecDepth 20000 in
theorem gX7_plusLesser_X7_significandOf : GoodIn wsX7_plusLesser (wsV RX7 64 RX7 yX7_significandOf wsX7_significandOf) := goodIn_app (goodIn_of _ (by decide +kernel)) ggX7_plusLesser_X7_significandOf
set_option maxRecDepth 20000 in
theorem ggX7_plusLesser_X7_lowered : GoodIn wsX7_plusLesser wsX7_lowered := goodIn_r _ [21] (by decide +kernel) (by decide +kernel)
set_option maxRecDepth 20000 in
theorem gX7_plusLesser_X7_lowered : GoodIn wsX7_plusLesser (va_wsS RX7 78 yX7_lowered wsX7_lowered) := goodIn_app (goodIn_of _ (by decide +kernel)) ggX7_plusLesser_X7_lowered
set_option maxRecDepth 20000 in
theorem ggX7_plusLesser_X7_gapOf : GoodIn wsX7_plusLesser wsX7_gapOf := goodIn_r _ [13, 14] (by decide +kernel) (by decide +kernel)
set_option maxRecDepth 20000 in
theorem gX7_plusLesser_X7_gapOf : GoodIn wsX7_plusLesser (va_wsS RX7 71 yX7_gapOf wsX7_gapOf) := goodIn_app (goodIn_of _ (by decide +kernel)) ggX7_plusLesser_X7_gapOf
set_option maxRecDepth 20000 in
theorem ggX7_plusLesser_X7_rounded : GoodIn wsX7_plusLesser wsX7_rounded := goodIn_r _ [25, 10, 26, 2, 9, 27, 28, 29, 30, 31, 32] (by decide +kernel) (by decide +kernel)
set_option maxRecDepth 20000 in
theorem gX7_plusLesser_X7_rounded : GoodIn wsX7_plusLesser (wsV RX7 67 RX7 yX7_rounded wsX7_rounded) := goodIn_app (goodIn_of _ (by decide +kernel)) ggX7_plusLesser_X7_rounded
theorem dX7_plusLesser_0 : decode cX7_plusLesser 0 = .ok (.lload_n 1, 1) := by decide +kernel
theorem dX7_plusLesser_1 : decode cX7_plusLesser 1 = .ok (.lload_n 3, 1) := by decide +kernel
theorem dX7_plusLesser_2 : decode cX7_plusLesser 2 = .ok (.lxor, 1) := by decide +kernel
theorem dX7_plusLesser_3 : decode cX7_plusLesser 3 = .ok (.aload_n 0, 1) := by decide +kernel
theorem dX7_plusLesser_4 : decode cX7_plusLesser 4 = .ok (.getfield 21, 3) := by decide +kernel
theorem dX7_plusLesser_7 : decode cX7_plusLesser 7 = .ok (.land, 1) := by decide +kernel
theorem dX7_plusLesser_8 : decode cX7_plusLesser 8 = .ok (.lconst 0, 1) := by decide +kernel
theorem dX7_plusLesser_9 : decode cX7_plusLesser 9 = .ok (.lcmp, 1) := by decide +kernel
theorem dX7_plusLesser_10 : decode cX7_plusLesser 10 = .ok (.ifCond .ne 7, 3) := by decide +kernel
theorem dX7_plusLesser_13 : decode cX7_plusLesser 13 = .ok (.iconst 1, 1) := by decide +kernel
theorem dX7_plusLesser_14 : decode cX7_plusLesser 14 = .ok (.goto 4, 3) := by decide +kernel
theorem dX7_plusLesser_17 : decode cX7_plusLesser 17 = .ok (.iconst 0, 1) := by decide +kernel
theorem dX7_plusLesser_18 : decode cX7_plusLesser 18 = .ok (.istore 9, 2) := by decide +kernel
theorem dX7_plusLesser_20 : decode cX7_plusLesser 20 = .ok (.lload 5, 2) := by decide +kernel
theorem dX7_plusLesser_22 : decode cX7_plusLesser 22 = .ok (.aload_n 0, 1) := by decide +kernel
theorem dX7_plusLesser_23 : decode cX7_plusLesser 23 = .ok (.getfield 25, 3) := by decide +kernel
theorem dX7_plusLesser_26 : decode cX7_plusLesser 26 = .ok (.lcmp, 1) := by decide +kernel
theorem dX7_plusLesser_27 : decode cX7_plusLesser 27 = .ok (.ifCond .gt 28, 3) := by decide +kernel
theorem dX7_plusLesser_30 : decode cX7_plusLesser 30 = .ok (.lload 5, 2) := by decide +kernel
theorem dX7_plusLesser_32 : decode cX7_plusLesser 32 = .ok (.aload_n 0, 1) := by decide +kernel
theorem dX7_plusLesser_33 : decode cX7_plusLesser 33 = .ok (.getfield 25, 3) := by decide +kernel
theorem dX7_plusLesser_36 : decode cX7_plusLesser 36 = .ok (.lcmp, 1) := by decide +kernel
theorem dX7_plusLesser_37 : decode cX7_plusLesser 37 = .ok (.ifCond .ne 23, 3) := by decide +kernel
theorem dX7_plusLesser_40 : decode cX7_plusLesser 40 = .ok (.lload 7, 2) := by decide +kernel
theorem dX7_plusLesser_42 : decode cX7_plusLesser 42 = .ok (.aload_n 0, 1) := by decide +kernel
theorem dX7_plusLesser_43 : decode cX7_plusLesser 43 = .ok (.getfield 25, 3) := by decide +kernel
theorem dX7_plusLesser_46 : decode cX7_plusLesser 46 = .ok (.lcmp, 1) := by decide +kernel
theorem dX7_plusLesser_47 : decode cX7_plusLesser 47 = .ok (.ifCond .ne 13, 3) := by decide +kernel
theorem dX7_plusLesser_50 : decode cX7_plusLesser 50 = .ok (.iload 9, 2) := by decide +kernel
theorem dX7_plusLesser_52 : decode cX7_plusLesser 52 = .ok (.ifCond .ne 8, 3) := by decide +kernel
theorem dX7_plusLesser_55 : decode cX7_plusLesser 55 = .ok (.aload_n 0, 1) := by decide +kernel
theorem dX7_plusLesser_56 : decode cX7_plusLesser 56 = .ok (.getfield 28, 3) := by decide +kernel
theorem dX7_plusLesser_59 : decode cX7_plusLesser 59 = .ok (.lreturn, 1) := by decide +kernel
theorem dX7_plusLesser_60 : decode cX7_plusLesser 60 = .ok (.lload 7, 2) := by decide +kernel
theorem dX7_plusLesser_62 : decode cX7_plusLesser 62 = .ok (.lconst 0, 1) := by decide +kernel
theorem dX7_plusLesser_63 : decode cX7_plusLesser 63 = .ok (.lcmp, 1) := by decide +kernel
theorem dX7_plusLesser_64 : decode cX7_plusLesser 64 = .ok (.ifCond .ne 21, 3) := by decide +kernel
theorem dX7_plusLesser_67 : decode cX7_plusLesser 67 = .ok (.lload 5, 2) := by decide +kernel
theorem dX7_plusLesser_69 : decode cX7_plusLesser 69 = .ok (.lconst 0, 1) := by decide +kernel
theorem dX7_plusLesser_70 : decode cX7_plusLesser 70 = .ok (.lcmp, 1) := by decide +kernel
theorem dX7_plusLesser_71 : decode cX7_plusLesser 71 = .ok (.ifCond .ne 12, 3) := by decide +kernel
theorem dX7_plusLesser_74 : decode cX7_plusLesser 74 = .ok (.iload 9, 2) := by decide +kernel
theorem dX7_plusLesser_76 : decode cX7_plusLesser 76 = .ok (.ifCond .ne 7, 3) := by decide +kernel
theorem dX7_plusLesser_79 : decode cX7_plusLesser 79 = .ok (.lconst 0, 1) := by decide +kernel
theorem dX7_plusLesser_80 : decode cX7_plusLesser 80 = .ok (.goto 4, 3) := by decide +kernel
theorem dX7_plusLesser_83 : decode cX7_plusLesser 83 = .ok (.lload_n 1, 1) := by decide +kernel
theorem dX7_plusLesser_84 : decode cX7_plusLesser 84 = .ok (.lreturn, 1) := by decide +kernel
theorem dX7_plusLesser_85 : decode cX7_plusLesser 85 = .ok (.lload 5, 2) := by decide +kernel
theorem dX7_plusLesser_87 : decode cX7_plusLesser 87 = .ok (.aload_n 0, 1) := by decide +kernel
theorem dX7_plusLesser_88 : decode cX7_plusLesser 88 = .ok (.getfield 25, 3) := by decide +kernel
theorem dX7_plusLesser_91 : decode cX7_plusLesser 91 = .ok (.lcmp, 1) := by decide +kernel
theorem dX7_plusLesser_92 : decode cX7_plusLesser 92 = .ok (.ifCond .ne 5, 3) := by decide +kernel
theorem dX7_plusLesser_95 : decode cX7_plusLesser 95 = .ok (.lload_n 1, 1) := by decide +kernel
theorem dX7_plusLesser_96 : decode cX7_plusLesser 96 = .ok (.lreturn, 1) := by decide +kernel
theorem dX7_plusLesser_97 : decode cX7_plusLesser 97 = .ok (.aload_n 0, 1) := by decide +kernel
theorem dX7_plusLesser_98 : decode cX7_plusLesser 98 = .ok (.lload 5, 2) := by decide +kernel
theorem dX7_plusLesser_100 : decode cX7_plusLesser 100 = .ok (.invokevirtual 56, 3) := by decide +kernel
theorem dX7_plusLesser_103 : decode cX7_plusLesser 103 = .ok (.istore 10, 2) := by decide +kernel
theorem dX7_plusLesser_105 : decode cX7_plusLesser 105 = .ok (.aload_n 0, 1) := by decide +kernel
theorem dX7_plusLesser_106 : decode cX7_plusLesser 106 = .ok (.lload 5, 2) := by decide +kernel
theorem dX7_plusLesser_108 : decode cX7_plusLesser 108 = .ok (.invokevirtual 64, 3) := by decide +kernel
theorem dX7_plusLesser_111 : decode cX7_plusLesser 111 = .ok (.iconst 1, 1) := by decide +kernel
theorem dX7_plusLesser_112 : decode cX7_plusLesser 112 = .ok (.lushr, 1) := by decide +kernel
theorem dX7_plusLesser_113 : decode cX7_plusLesser 113 = .ok (.lstore 11, 2) := by decide +kernel
theorem dX7_plusLesser_115 : decode cX7_plusLesser 115 = .ok (.aload_n 0, 1) := by decide +kernel
theorem dX7_plusLesser_116 : decode cX7_plusLesser 116 = .ok (.lload 7, 2) := by decide +kernel
theorem dX7_plusLesser_118 : decode cX7_plusLesser 118 = .ok (.invokevirtual 64, 3) := by decide +kernel
theorem dX7_plusLesser_121 : decode cX7_plusLesser 121 = .ok (.iconst 1, 1) := by decide +kernel
theorem dX7_plusLesser_122 : decode cX7_plusLesser 122 = .ok (.lushr, 1) := by decide +kernel
theorem dX7_plusLesser_123 : decode cX7_plusLesser 123 = .ok (.iload 10, 2) := by decide +kernel
theorem dX7_plusLesser_125 : decode cX7_plusLesser 125 = .ok (.aload_n 0, 1) := by decide +kernel
theorem dX7_plusLesser_126 : decode cX7_plusLesser 126 = .ok (.lload 7, 2) := by decide +kernel
theorem dX7_plusLesser_128 : decode cX7_plusLesser 128 = .ok (.invokevirtual 56, 3) := by decide +kernel
theorem dX7_plusLesser_131 : decode cX7_plusLesser 131 = .ok (.isub, 1) := by decide +kernel
theorem dX7_plusLesser_132 : decode cX7_plusLesser 132 = .ok (.invokestatic 78, 3) := by decide +kernel
theorem dX7_plusLesser_135 : decode cX7_plusLesser 135 = .ok (.lstore 13, 2) := by decide +kernel
theorem dX7_plusLesser_137 : decode cX7_plusLesser 137 = .ok (.iload 9, 2) := by decide +kernel
theorem dX7_plusLesser_139 : decode cX7_plusLesser 139 = .ok (.ifCond .eq 11, 3) := by decide +kernel
theorem dX7_plusLesser_142 : decode cX7_plusLesser 142 = .ok (.lload 11, 2) := by decide +kernel
theorem dX7_plusLesser_144 : decode cX7_plusLesser 144 = .ok (.lload 13, 2) := by decide +kernel
theorem dX7_plusLesser_146 : decode cX7_plusLesser 146 = .ok (.ladd, 1) := by decide +kernel
theorem dX7_plusLesser_147 : decode cX7_plusLesser 147 = .ok (.goto 8, 3) := by decide +kernel
theorem dX7_plusLesser_150 : decode cX7_plusLesser 150 = .ok (.lload 11, 2) := by decide +kernel
theorem dX7_plusLesser_152 : decode cX7_plusLesser 152 = .ok (.lload 13, 2) := by decide +kernel
theorem dX7_plusLesser_154 : decode cX7_plusLesser 154 = .ok (.lsub, 1) := by decide +kernel
theorem dX7_plusLesser_155 : decode cX7_plusLesser 155 = .ok (.lstore 15, 2) := by decide +kernel
theorem dX7_plusLesser_157 : decode cX7_plusLesser 157 = .ok (.lload 15, 2) := by decide +kernel
theorem dX7_plusLesser_159 : decode cX7_plusLesser 159 = .ok (.lconst 0, 1) := by decide +kernel
theorem dX7_plusLesser_160 : decode cX7_plusLesser 160 = .ok (.lcmp, 1) := by decide +kernel
theorem dX7_plusLesser_161 : decode cX7_plusLesser 161 = .ok (.ifCond .ne 5, 3) := by decide +kernel
theorem dX7_plusLesser_164 : decode cX7_plusLesser 164 = .ok (.lconst 0, 1) := by decide +kernel
theorem dX7_plusLesser_165 : decode cX7_plusLesser 165 = .ok (.lreturn, 1) := by decide +kernel
theorem dX7_plusLesser_166 : decode cX7_plusLesser 166 = .ok (.lload 15, 2) := by decide +kernel
theorem dX7_plusLesser_168 : decode cX7_plusLesser 168 = .ok (.invokestatic 71, 3) := by decide +kernel
theorem dX7_plusLesser_171 : decode cX7_plusLesser 171 = .ok (.istore 17, 2) := by decide +kernel
theorem dX7_plusLesser_173 : decode cX7_plusLesser 173 = .ok (.aload_n 0, 1) := by decide +kernel
theorem dX7_plusLesser_174 : decode cX7_plusLesser 174 = .ok (.lload_n 1, 1) := by decide +kernel
theorem dX7_plusLesser_175 : decode cX7_plusLesser 175 = .ok (.aload_n 0, 1) := by decide +kernel
theorem dX7_plusLesser_176 : decode cX7_plusLesser 176 = .ok (.getfield 21, 3) := by decide +kernel
theorem dX7_plusLesser_179 : decode cX7_plusLesser 179 = .ok (.land, 1) := by decide +kernel
theorem dX7_plusLesser_180 : decode cX7_plusLesser 180 = .ok (.iload 10, 2) := by decide +kernel
theorem dX7_plusLesser_182 : decode cX7_plusLesser 182 = .ok (.iconst 1, 1) := by decide +kernel
theorem dX7_plusLesser_183 : decode cX7_plusLesser 183 = .ok (.iadd, 1) := by decide +kernel
theorem dX7_plusLesser_184 : decode cX7_plusLesser 184 = .ok (.iload 17, 2) := by decide +kernel
theorem dX7_plusLesser_186 : decode cX7_plusLesser 186 = .ok (.isub, 1) := by decide +kernel
theorem dX7_plusLesser_187 : decode cX7_plusLesser 187 = .ok (.lload 15, 2) := by decide +kernel
theorem dX7_plusLesser_189 : decode cX7_plusLesser 189 = .ok (.iload 17, 2) := by decide +kernel
theorem dX7_plusLesser_191 : decode cX7_plusLesser 191 = .ok (.lshl, 1) := by decide +kernel
theorem dX7_plusLesser_192 : decode cX7_plusLesser 192 = .ok (.invokevirtual 67, 3) := by decide +kernel
theorem dX7_plusLesser_195 : decode cX7_plusLesser 195 = .ok (.lreturn, 1) := by decide +kernel
theorem dX7_lowered_0 : decode cX7_lowered 0 = .ok (.iload_n 2, 1) := by decide +kernel
theorem dX7_lowered_1 : decode cX7_lowered 1 = .ok (.bipush 62, 2) := by decide +kernel
theorem dX7_lowered_3 : decode cX7_lowered 3 = .ok (.if_icmp .le 5, 3) := by decide +kernel
theorem dX7_lowered_6 : decode cX7_lowered 6 = .ok (.lconst 1, 1) := by decide +kernel
theorem dX7_lowered_7 : decode cX7_lowered 7 = .ok (.lreturn, 1) := by decide +kernel
theorem dX7_lowered_8 : decode cX7_lowered 8 = .ok (.lload_n 0, 1) := by decide +kernel
theorem dX7_lowered_9 : decode cX7_lowered 9 = .ok (.lconst 1, 1) := by decide +kernel
theorem dX7_lowered_10 : decode cX7_lowered 10 = .ok (.iload_n 2, 1) := by decide +kernel
theorem dX7_lowered_11 : decode cX7_lowered 11 = .ok (.lshl, 1) := by decide +kernel
theorem dX7_lowered_12 : decode cX7_lowered 12 = .ok (.lconst 1, 1) := by decide +kernel
theorem dX7_lowered_13 : decode cX7_lowered 13 = .ok (.lsub, 1) := by decide +kernel
theorem dX7_lowered_14 : decode cX7_lowered 14 = .ok (.land, 1) := by decide +kernel
theorem dX7_lowered_15 : decode cX7_lowered 15 = .ok (.lstore_n 3, 1) := by decide +kernel
theorem dX7_lowered_16 : decode cX7_lowered 16 = .ok (.lload_n 0, 1) := by decide +kernel
theorem dX7_lowered_17 : decode cX7_lowered 17 = .ok (.iload_n 2, 1) := by decide +kernel
theorem dX7_lowered_18 : decode cX7_lowered 18 = .ok (.lushr, 1) := by decide +kernel
theorem dX7_lowered_19 : decode cX7_lowered 19 = .ok (.lload_n 3, 1) := by decide +kernel
theorem dX7_lowered_20 : decode cX7_lowered 20 = .ok (.lconst 0, 1) := by decide +kernel
theorem dX7_lowered_21 : decode cX7_lowered 21 = .ok (.lcmp, 1) := by decide +kernel
theorem dX7_lowered_22 : decode cX7_lowered 22 = .ok (.ifCond .eq 7, 3) := by decide +kernel
theorem dX7_lowered_25 : decode cX7_lowered 25 = .ok (.iconst 1, 1) := by decide +kernel
theorem dX7_lowered_26 : decode cX7_lowered 26 = .ok (.goto 4, 3) := by decide +kernel
theorem dX7_lowered_29 : decode cX7_lowered 29 = .ok (.iconst 0, 1) := by decide +kernel
theorem dX7_lowered_30 : decode cX7_lowered 30 = .ok (.i2l, 1) := by decide +kernel
theorem dX7_lowered_31 : decode cX7_lowered 31 = .ok (.lor, 1) := by decide +kernel
theorem dX7_lowered_32 : decode cX7_lowered 32 = .ok (.lreturn, 1) := by decide +kernel
set_option maxRecDepth 20000 in
theorem ggX7_times_X7_magnitude : GoodIn wsX7_times wsX7_magnitude := goodIn_r _ [8, 1, 33, 34, 35, 36, 37, 38] (by decide +kernel) (by decide +kernel)
set_option maxRecDepth 20000 in
theorem gX7_times_X7_magnitude : GoodIn wsX7_times (wsV RX7 42 RX7 yX7_magnitude wsX7_magnitude) := goodIn_app (goodIn_of _ (by decide +kernel)) ggX7_times_X7_magnitude
set_option maxRecDepth 20000 in
theorem ggX7_times_X7_significandOf : GoodIn wsX7_times wsX7_significandOf := goodIn_r _ [12, 13, 14, 15, 7, 16, 17, 33, 34, 35, 36, 37, 38] (by decide +kernel) (by decide +kernel)
set_option maxRecDepth 20000 in
theorem gX7_times_X7_significandOf : GoodIn wsX7_times (wsV RX7 64 RX7 yX7_significandOf wsX7_significandOf) := goodIn_app (goodIn_of _ (by decide +kernel)) ggX7_times_X7_significandOf
set_option maxRecDepth 20000 in
theorem ggX7_times_X7_highProduct : GoodIn wsX7_times wsX7_highProduct := goodIn_r _ [20, 21, 22] (by decide +kernel) (by decide +kernel)
set_option maxRecDepth 20000 in
theorem gX7_times_X7_highProduct : GoodIn wsX7_times (va_wsS RX7 82 yX7_highProduct wsX7_highProduct) := goodIn_app (goodIn_of _ (by decide +kernel)) ggX7_times_X7_highProduct
set_option maxRecDepth 20000 in
theorem ggX7_times_X7_gapOf : GoodIn wsX7_times wsX7_gapOf := goodIn_r _ [16, 17] (by decide +kernel) (by decide +kernel)
set_option maxRecDepth 20000 in
theorem gX7_times_X7_gapOf : GoodIn wsX7_times (va_wsS RX7 71 yX7_gapOf wsX7_gapOf) := goodIn_app (goodIn_of _ (by decide +kernel)) ggX7_times_X7_gapOf
set_option maxRecDepth 20000 in
theorem ggX7_times_X7_exponentOf : GoodIn wsX7_times wsX7_exponentOf := goodIn_r _ [26, 13, 27, 14, 15, 7, 16, 17, 33, 34, 35, 36, 37, 38] (by decide +kernel) (by decide +kernel)
set_option maxRecDepth 20000 in
theorem gX7_times_X7_exponentOf : GoodIn wsX7_times (wsV RX7 56 RX7 yX7_exponentOf wsX7_exponentOf) := goodIn_app (goodIn_of _ (by decide +kernel)) ggX7_times_X7_exponentOf
set_option maxRecDepth 20000 in
theorem ggX7_times_X7_rounded : GoodIn wsX7_times wsX7_rounded := goodIn_r _ [31, 27, 32, 2, 13, 33, 34, 35, 36, 37, 38] (by decide +kernel) (by decide +kernel)
set_option maxRecDepth 20000 in
theorem gX7_times_X7_rounded : GoodIn wsX7_times (wsV RX7 67 RX7 yX7_rounded wsX7_rounded) := goodIn_app (goodIn_of _ (by decide +kernel)) ggX7_times_X7_rounded
theorem dX7_times_0 : decode cX7_times 0 = .ok (.lload_n 1, 1) := by decide +kernel
theorem dX7_times_1 : decode cX7_times 1 = .ok (.lload_n 3, 1) := by decide +kernel
theorem dX7_times_2 : decode cX7_times 2 = .ok (.lxor, 1) := by decide +kernel
theorem dX7_times_3 : decode cX7_times 3 = .ok (.aload_n 0, 1) := by decide +kernel
theorem dX7_times_4 : decode cX7_times 4 = .ok (.getfield 21, 3) := by decide +kernel
theorem dX7_times_7 : decode cX7_times 7 = .ok (.land, 1) := by decide +kernel
theorem dX7_times_8 : decode cX7_times 8 = .ok (.lstore 5, 2) := by decide +kernel
theorem dX7_times_10 : decode cX7_times 10 = .ok (.aload_n 0, 1) := by decide +kernel
theorem dX7_times_11 : decode cX7_times 11 = .ok (.lload_n 1, 1) := by decide +kernel
theorem dX7_times_12 : decode cX7_times 12 = .ok (.invokevirtual 42, 3) := by decide +kernel
theorem dX7_times_15 : decode cX7_times 15 = .ok (.lstore 7, 2) := by decide +kernel
theorem dX7_times_17 : decode cX7_times 17 = .ok (.aload_n 0, 1) := by decide +kernel
theorem dX7_times_18 : decode cX7_times 18 = .ok (.lload_n 3, 1) := by decide +kernel
theorem dX7_times_19 : decode cX7_times 19 = .ok (.invokevirtual 42, 3) := by decide +kernel
theorem dX7_times_22 : decode cX7_times 22 = .ok (.lstore 9, 2) := by decide +kernel
theorem dX7_times_24 : decode cX7_times 24 = .ok (.lload 7, 2) := by decide +kernel
theorem dX7_times_26 : decode cX7_times 26 = .ok (.aload_n 0, 1) := by decide +kernel
theorem dX7_times_27 : decode cX7_times 27 = .ok (.getfield 25, 3) := by decide +kernel
theorem dX7_times_30 : decode cX7_times 30 = .ok (.lcmp, 1) := by decide +kernel
theorem dX7_times_31 : decode cX7_times 31 = .ok (.ifCond .gt 13, 3) := by decide +kernel
theorem dX7_times_34 : decode cX7_times 34 = .ok (.lload 9, 2) := by decide +kernel
theorem dX7_times_36 : decode cX7_times 36 = .ok (.aload_n 0, 1) := by decide +kernel
theorem dX7_times_37 : decode cX7_times 37 = .ok (.getfield 25, 3) := by decide +kernel
theorem dX7_times_40 : decode cX7_times 40 = .ok (.lcmp, 1) := by decide +kernel
theorem dX7_times_41 : decode cX7_times 41 = .ok (.ifCond .le 8, 3) := by decide +kernel
theorem dX7_times_44 : decode cX7_times 44 = .ok (.aload_n 0, 1) := by decide +kernel
theorem dX7_times_45 : decode cX7_times 45 = .ok (.getfield 28, 3) := by decide +kernel
theorem dX7_times_48 : decode cX7_times 48 = .ok (.lreturn, 1) := by decide +kernel
theorem dX7_times_49 : decode cX7_times 49 = .ok (.lload 7, 2) := by decide +kernel
theorem dX7_times_51 : decode cX7_times 51 = .ok (.aload_n 0, 1) := by decide +kernel
theorem dX7_times_52 : decode cX7_times 52 = .ok (.getfield 25, 3) := by decide +kernel
theorem dX7_times_55 : decode cX7_times 55 = .ok (.lcmp, 1) := by decide +kernel
theorem dX7_times_56 : decode cX7_times 56 = .ok (.ifCond .eq 13, 3) := by decide +kernel
theorem dX7_times_59 : decode cX7_times 59 = .ok (.lload 9, 2) := by decide +kernel
theorem dX7_times_61 : decode cX7_times 61 = .ok (.aload_n 0, 1) := by decide +kernel
theorem dX7_times_62 : decode cX7_times 62 = .ok (.getfield 25, 3) := by decide +kernel
theorem dX7_times_65 : decode cX7_times 65 = .ok (.lcmp, 1) := by decide +kernel
theorem dX7_times_66 : decode cX7_times 66 = .ok (.ifCond .ne 32, 3) := by decide +kernel
theorem dX7_times_69 : decode cX7_times 69 = .ok (.lload 7, 2) := by decide +kernel
theorem dX7_times_71 : decode cX7_times 71 = .ok (.lconst 0, 1) := by decide +kernel
theorem dX7_times_72 : decode cX7_times 72 = .ok (.lcmp, 1) := by decide +kernel
theorem dX7_times_73 : decode cX7_times 73 = .ok (.ifCond .eq 10, 3) := by decide +kernel
theorem dX7_times_76 : decode cX7_times 76 = .ok (.lload 9, 2) := by decide +kernel
theorem dX7_times_78 : decode cX7_times 78 = .ok (.lconst 0, 1) := by decide +kernel
theorem dX7_times_79 : decode cX7_times 79 = .ok (.lcmp, 1) := by decide +kernel
theorem dX7_times_80 : decode cX7_times 80 = .ok (.ifCond .ne 10, 3) := by decide +kernel
theorem dX7_times_83 : decode cX7_times 83 = .ok (.aload_n 0, 1) := by decide +kernel
theorem dX7_times_84 : decode cX7_times 84 = .ok (.getfield 28, 3) := by decide +kernel
theorem dX7_times_87 : decode cX7_times 87 = .ok (.goto 10, 3) := by decide +kernel
theorem dX7_times_90 : decode cX7_times 90 = .ok (.lload 5, 2) := by decide +kernel
theorem dX7_times_92 : decode cX7_times 92 = .ok (.aload_n 0, 1) := by decide +kernel
theorem dX7_times_93 : decode cX7_times 93 = .ok (.getfield 25, 3) := by decide +kernel
theorem dX7_times_96 : decode cX7_times 96 = .ok (.lor, 1) := by decide +kernel
theorem dX7_times_97 : decode cX7_times 97 = .ok (.lreturn, 1) := by decide +kernel
theorem dX7_times_98 : decode cX7_times 98 = .ok (.lload 7, 2) := by decide +kernel
theorem dX7_times_100 : decode cX7_times 100 = .ok (.lconst 0, 1) := by decide +kernel
theorem dX7_times_101 : decode cX7_times 101 = .ok (.lcmp, 1) := by decide +kernel
theorem dX7_times_102 : decode cX7_times 102 = .ok (.ifCond .eq 10, 3) := by decide +kernel
theorem dX7_times_105 : decode cX7_times 105 = .ok (.lload 9, 2) := by decide +kernel
theorem dX7_times_107 : decode cX7_times 107 = .ok (.lconst 0, 1) := by decide +kernel
theorem dX7_times_108 : decode cX7_times 108 = .ok (.lcmp, 1) := by decide +kernel
theorem dX7_times_109 : decode cX7_times 109 = .ok (.ifCond .ne 6, 3) := by decide +kernel
theorem dX7_times_112 : decode cX7_times 112 = .ok (.lload 5, 2) := by decide +kernel
theorem dX7_times_114 : decode cX7_times 114 = .ok (.lreturn, 1) := by decide +kernel
theorem dX7_times_115 : decode cX7_times 115 = .ok (.aload_n 0, 1) := by decide +kernel
theorem dX7_times_116 : decode cX7_times 116 = .ok (.lload 7, 2) := by decide +kernel
theorem dX7_times_118 : decode cX7_times 118 = .ok (.invokevirtual 64, 3) := by decide +kernel
theorem dX7_times_121 : decode cX7_times 121 = .ok (.bipush 10, 2) := by decide +kernel
theorem dX7_times_123 : decode cX7_times 123 = .ok (.lushr, 1) := by decide +kernel
theorem dX7_times_124 : decode cX7_times 124 = .ok (.aload_n 0, 1) := by decide +kernel
theorem dX7_times_125 : decode cX7_times 125 = .ok (.lload 9, 2) := by decide +kernel
theorem dX7_times_127 : decode cX7_times 127 = .ok (.invokevirtual 64, 3) := by decide +kernel
theorem dX7_times_130 : decode cX7_times 130 = .ok (.bipush 10, 2) := by decide +kernel
theorem dX7_times_132 : decode cX7_times 132 = .ok (.lushr, 1) := by decide +kernel
theorem dX7_times_133 : decode cX7_times 133 = .ok (.invokestatic 82, 3) := by decide +kernel
theorem dX7_times_136 : decode cX7_times 136 = .ok (.lstore 11, 2) := by decide +kernel
theorem dX7_times_138 : decode cX7_times 138 = .ok (.lload 11, 2) := by decide +kernel
theorem dX7_times_140 : decode cX7_times 140 = .ok (.invokestatic 71, 3) := by decide +kernel
theorem dX7_times_143 : decode cX7_times 143 = .ok (.istore 13, 2) := by decide +kernel
theorem dX7_times_145 : decode cX7_times 145 = .ok (.aload_n 0, 1) := by decide +kernel
theorem dX7_times_146 : decode cX7_times 146 = .ok (.lload 5, 2) := by decide +kernel
theorem dX7_times_148 : decode cX7_times 148 = .ok (.aload_n 0, 1) := by decide +kernel
theorem dX7_times_149 : decode cX7_times 149 = .ok (.lload 7, 2) := by decide +kernel
theorem dX7_times_151 : decode cX7_times 151 = .ok (.invokevirtual 56, 3) := by decide +kernel
theorem dX7_times_154 : decode cX7_times 154 = .ok (.aload_n 0, 1) := by decide +kernel
theorem dX7_times_155 : decode cX7_times 155 = .ok (.lload 9, 2) := by decide +kernel
theorem dX7_times_157 : decode cX7_times 157 = .ok (.invokevirtual 56, 3) := by decide +kernel
theorem dX7_times_160 : decode cX7_times 160 = .ok (.iadd, 1) := by decide +kernel
theorem dX7_times_161 : decode cX7_times 161 = .ok (.iconst 1, 1) := by decide +kernel
theorem dX7_times_162 : decode cX7_times 162 = .ok (.iadd, 1) := by decide +kernel
theorem dX7_times_163 : decode cX7_times 163 = .ok (.iload 13, 2) := by decide +kernel
theorem dX7_times_165 : decode cX7_times 165 = .ok (.isub, 1) := by decide +kernel
theorem dX7_times_166 : decode cX7_times 166 = .ok (.lload 11, 2) := by decide +kernel
theorem dX7_times_168 : decode cX7_times 168 = .ok (.iload 13, 2) := by decide +kernel
theorem dX7_times_170 : decode cX7_times 170 = .ok (.lshl, 1) := by decide +kernel
theorem dX7_times_171 : decode cX7_times 171 = .ok (.invokevirtual 67, 3) := by decide +kernel
theorem dX7_times_174 : decode cX7_times 174 = .ok (.lreturn, 1) := by decide +kernel
theorem dX7_highProduct_0 : decode cX7_highProduct 0 = .ok (.lload_n 0, 1) := by decide +kernel
theorem dX7_highProduct_1 : decode cX7_highProduct 1 = .ok (.bipush 27, 2) := by decide +kernel
theorem dX7_highProduct_3 : decode cX7_highProduct 3 = .ok (.lushr, 1) := by decide +kernel
theorem dX7_highProduct_4 : decode cX7_highProduct 4 = .ok (.lstore 4, 2) := by decide +kernel
theorem dX7_highProduct_6 : decode cX7_highProduct 6 = .ok (.lload_n 0, 1) := by decide +kernel
theorem dX7_highProduct_7 : decode cX7_highProduct 7 = .ok (.ldc2_w 85, 3) := by decide +kernel
theorem dX7_highProduct_10 : decode cX7_highProduct 10 = .ok (.land, 1) := by decide +kernel
theorem dX7_highProduct_11 : decode cX7_highProduct 11 = .ok (.lstore 6, 2) := by decide +kernel
theorem dX7_highProduct_13 : decode cX7_highProduct 13 = .ok (.lload_n 2, 1) := by decide +kernel
theorem dX7_highProduct_14 : decode cX7_highProduct 14 = .ok (.bipush 27, 2) := by decide +kernel
theorem dX7_highProduct_16 : decode cX7_highProduct 16 = .ok (.lushr, 1) := by decide +kernel
theorem dX7_highProduct_17 : decode cX7_highProduct 17 = .ok (.lstore 8, 2) := by decide +kernel
theorem dX7_highProduct_19 : decode cX7_highProduct 19 = .ok (.lload_n 2, 1) := by decide +kernel
theorem dX7_highProduct_20 : decode cX7_highProduct 20 = .ok (.ldc2_w 85, 3) := by decide +kernel
theorem dX7_highProduct_23 : decode cX7_highProduct 23 = .ok (.land, 1) := by decide +kernel
theorem dX7_highProduct_24 : decode cX7_highProduct 24 = .ok (.lstore 10, 2) := by decide +kernel
theorem dX7_highProduct_26 : decode cX7_highProduct 26 = .ok (.lload 4, 2) := by decide +kernel
theorem dX7_highProduct_28 : decode cX7_highProduct 28 = .ok (.lload 10, 2) := by decide +kernel
theorem dX7_highProduct_30 : decode cX7_highProduct 30 = .ok (.lmul, 1) := by decide +kernel
theorem dX7_highProduct_31 : decode cX7_highProduct 31 = .ok (.lload 6, 2) := by decide +kernel
theorem dX7_highProduct_33 : decode cX7_highProduct 33 = .ok (.lload 8, 2) := by decide +kernel
theorem dX7_highProduct_35 : decode cX7_highProduct 35 = .ok (.lmul, 1) := by decide +kernel
theorem dX7_highProduct_36 : decode cX7_highProduct 36 = .ok (.ladd, 1) := by decide +kernel
theorem dX7_highProduct_37 : decode cX7_highProduct 37 = .ok (.lstore 12, 2) := by decide +kernel
theorem dX7_highProduct_39 : decode cX7_highProduct 39 = .ok (.lload 6, 2) := by decide +kernel
theorem dX7_highProduct_41 : decode cX7_highProduct 41 = .ok (.lload 10, 2) := by decide +kernel
theorem dX7_highProduct_43 : decode cX7_highProduct 43 = .ok (.lmul, 1) := by decide +kernel
theorem dX7_highProduct_44 : decode cX7_highProduct 44 = .ok (.lload 12, 2) := by decide +kernel
theorem dX7_highProduct_46 : decode cX7_highProduct 46 = .ok (.ldc2_w 85, 3) := by decide +kernel
theorem dX7_highProduct_49 : decode cX7_highProduct 49 = .ok (.land, 1) := by decide +kernel
theorem dX7_highProduct_50 : decode cX7_highProduct 50 = .ok (.bipush 27, 2) := by decide +kernel
theorem dX7_highProduct_52 : decode cX7_highProduct 52 = .ok (.lshl, 1) := by decide +kernel
theorem dX7_highProduct_53 : decode cX7_highProduct 53 = .ok (.ladd, 1) := by decide +kernel
theorem dX7_highProduct_54 : decode cX7_highProduct 54 = .ok (.lstore 14, 2) := by decide +kernel
theorem dX7_highProduct_56 : decode cX7_highProduct 56 = .ok (.lload 4, 2) := by decide +kernel
theorem dX7_highProduct_58 : decode cX7_highProduct 58 = .ok (.lload 8, 2) := by decide +kernel
theorem dX7_highProduct_60 : decode cX7_highProduct 60 = .ok (.lmul, 1) := by decide +kernel
theorem dX7_highProduct_61 : decode cX7_highProduct 61 = .ok (.lload 12, 2) := by decide +kernel
theorem dX7_highProduct_63 : decode cX7_highProduct 63 = .ok (.bipush 27, 2) := by decide +kernel
theorem dX7_highProduct_65 : decode cX7_highProduct 65 = .ok (.lushr, 1) := by decide +kernel
theorem dX7_highProduct_66 : decode cX7_highProduct 66 = .ok (.ladd, 1) := by decide +kernel
theorem dX7_highProduct_67 : decode cX7_highProduct 67 = .ok (.lload 14, 2) := by decide +kernel
theorem dX7_highProduct_69 : decode cX7_highProduct 69 = .ok (.bipush 54, 2) := by decide +kernel
theorem dX7_highProduct_71 : decode cX7_highProduct 71 = .ok (.lushr, 1) := by decide +kernel
theorem dX7_highProduct_72 : decode cX7_highProduct 72 = .ok (.ladd, 1) := by decide +kernel
theorem dX7_highProduct_73 : decode cX7_highProduct 73 = .ok (.lstore 16, 2) := by decide +kernel
theorem dX7_highProduct_75 : decode cX7_highProduct 75 = .ok (.lload 14, 2) := by decide +kernel
theorem dX7_highProduct_77 : decode cX7_highProduct 77 = .ok (.ldc2_w 87, 3) := by decide +kernel
theorem dX7_highProduct_80 : decode cX7_highProduct 80 = .ok (.land, 1) := by decide +kernel
theorem dX7_highProduct_81 : decode cX7_highProduct 81 = .ok (.lstore 18, 2) := by decide +kernel
theorem dX7_highProduct_83 : decode cX7_highProduct 83 = .ok (.bipush 11, 2) := by decide +kernel
theorem dX7_highProduct_85 : decode cX7_highProduct 85 = .ok (.istore 20, 2) := by decide +kernel
theorem dX7_highProduct_87 : decode cX7_highProduct 87 = .ok (.bipush 54, 2) := by decide +kernel
theorem dX7_highProduct_89 : decode cX7_highProduct 89 = .ok (.iload 20, 2) := by decide +kernel
theorem dX7_highProduct_91 : decode cX7_highProduct 91 = .ok (.isub, 1) := by decide +kernel
theorem dX7_highProduct_92 : decode cX7_highProduct 92 = .ok (.istore 21, 2) := by decide +kernel
theorem dX7_highProduct_94 : decode cX7_highProduct 94 = .ok (.lload 18, 2) := by decide +kernel
theorem dX7_highProduct_96 : decode cX7_highProduct 96 = .ok (.lconst 1, 1) := by decide +kernel
theorem dX7_highProduct_97 : decode cX7_highProduct 97 = .ok (.iload 21, 2) := by decide +kernel
theorem dX7_highProduct_99 : decode cX7_highProduct 99 = .ok (.lshl, 1) := by decide +kernel
theorem dX7_highProduct_100 : decode cX7_highProduct 100 = .ok (.lconst 1, 1) := by decide +kernel
theorem dX7_highProduct_101 : decode cX7_highProduct 101 = .ok (.lsub, 1) := by decide +kernel
theorem dX7_highProduct_102 : decode cX7_highProduct 102 = .ok (.land, 1) := by decide +kernel
theorem dX7_highProduct_103 : decode cX7_highProduct 103 = .ok (.lstore 22, 2) := by decide +kernel
theorem dX7_highProduct_105 : decode cX7_highProduct 105 = .ok (.lload 16, 2) := by decide +kernel
theorem dX7_highProduct_107 : decode cX7_highProduct 107 = .ok (.iload 20, 2) := by decide +kernel
theorem dX7_highProduct_109 : decode cX7_highProduct 109 = .ok (.lshl, 1) := by decide +kernel
theorem dX7_highProduct_110 : decode cX7_highProduct 110 = .ok (.lload 18, 2) := by decide +kernel
theorem dX7_highProduct_112 : decode cX7_highProduct 112 = .ok (.iload 21, 2) := by decide +kernel
theorem dX7_highProduct_114 : decode cX7_highProduct 114 = .ok (.lushr, 1) := by decide +kernel
theorem dX7_highProduct_115 : decode cX7_highProduct 115 = .ok (.lor, 1) := by decide +kernel
theorem dX7_highProduct_116 : decode cX7_highProduct 116 = .ok (.lload 22, 2) := by decide +kernel
theorem dX7_highProduct_118 : decode cX7_highProduct 118 = .ok (.lconst 0, 1) := by decide +kernel
theorem dX7_highProduct_119 : decode cX7_highProduct 119 = .ok (.lcmp, 1) := by decide +kernel
theorem dX7_highProduct_120 : decode cX7_highProduct 120 = .ok (.ifCond .eq 7, 3) := by decide +kernel
theorem dX7_highProduct_123 : decode cX7_highProduct 123 = .ok (.iconst 1, 1) := by decide +kernel
theorem dX7_highProduct_124 : decode cX7_highProduct 124 = .ok (.goto 4, 3) := by decide +kernel
theorem dX7_highProduct_127 : decode cX7_highProduct 127 = .ok (.iconst 0, 1) := by decide +kernel
theorem dX7_highProduct_128 : decode cX7_highProduct 128 = .ok (.i2l, 1) := by decide +kernel
theorem dX7_highProduct_129 : decode cX7_highProduct 129 = .ok (.lor, 1) := by decide +kernel
theorem dX7_highProduct_130 : decode cX7_highProduct 130 = .ok (.lreturn, 1) := by decide +kernel
set_option maxRecDepth 20000 in
theorem ggX7_shortQuotient_X7_magnitude : GoodIn wsX7_shortQuotient wsX7_magnitude := goodIn_r _ [8, 1, 28, 29, 30, 31, 32, 33] (by decide +kernel) (by decide +kernel)
set_option maxRecDepth 20000 in
theorem gX7_shortQuotient_X7_magnitude : GoodIn wsX7_shortQuotient (wsV RX7 42 RX7 yX7_magnitude wsX7_magnitude) := goodIn_app (goodIn_of _ (by decide +kernel)) ggX7_shortQuotient_X7_magnitude
set_option maxRecDepth 20000 in
theorem ggX7_shortQuotient_X7_significandOf : GoodIn wsX7_shortQuotient wsX7_significandOf := goodIn_r _ [12, 13, 14, 15, 7, 16, 17, 28, 29, 30, 31, 32, 33] (by decide +kernel) (by decide +kernel)
set_option maxRecDepth 20000 in
theorem gX7_shortQuotient_X7_significandOf : GoodIn wsX7_shortQuotient (wsV RX7 64 RX7 yX7_significandOf wsX7_significandOf) := goodIn_app (goodIn_of _ (by decide +kernel)) ggX7_shortQuotient_X7_significandOf
set_option maxRecDepth 20000 in
theorem ggX7_shortQuotient_X7_gapOf : GoodIn wsX7_shortQuotient wsX7_gapOf := goodIn_r _ [16, 17] (by decide +kernel) (by decide +kernel)
set_option maxRecDepth 20000 in
theorem gX7_shortQuotient_X7_gapOf : GoodIn wsX7_shortQuotient (va_wsS RX7 71 yX7_gapOf wsX7_gapOf) := goodIn_app (goodIn_of _ (by decide +kernel)) ggX7_shortQuotient_X7_gapOf
set_option maxRecDepth 20000 in
theorem ggX7_shortQuotient_X7_exponentOf : GoodIn wsX7_shortQuotient wsX7_exponentOf := goodIn_r _ [21, 13, 22, 14, 15, 7, 16, 17, 28, 29, 30, 31, 32, 33] (by decide +kernel) (by decide +kernel)
set_option maxRecDepth 20000 in
theorem gX7_shortQuotient_X7_exponentOf : GoodIn wsX7_shortQuotient (wsV RX7 56 RX7 yX7_exponentOf wsX7_exponentOf) := goodIn_app (goodIn_of _ (by decide +kernel)) ggX7_shortQuotient_X7_exponentOf
set_option maxRecDepth 20000 in
theorem ggX7_shortQuotient_X7_rounded : GoodIn wsX7_shortQuotient wsX7_rounded := goodIn_r _ [26, 22, 27, 2, 13, 28, 29, 30, 31, 32, 33] (by decide +kernel) (by decide +kernel)
set_option maxRecDepth 20000 in
theorem gX7_shortQuotient_X7_rounded : GoodIn wsX7_shortQuotient (wsV RX7 67 RX7 yX7_rounded wsX7_rounded) := goodIn_app (goodIn_of _ (by decide +kernel)) ggX7_shortQuotient_X7_rounded
theorem dX7_shortQuotient_0 : decode cX7_shortQuotient 0 = .ok (.lload_n 1, 1) := by decide +kernel
theorem dX7_shortQuotient_1 : decode cX7_shortQuotient 1 = .ok (.lload_n 3, 1) := by decide +kernel
theorem dX7_shortQuotient_2 : decode cX7_shortQuotient 2 = .ok (.lxor, 1) := by decide +kernel
theorem dX7_shortQuotient_3 : decode cX7_shortQuotient 3 = .ok (.aload_n 0, 1) := by decide +kernel
theorem dX7_shortQuotient_4 : decode cX7_shortQuotient 4 = .ok (.getfield 21, 3) := by decide +kernel
theorem dX7_shortQuotient_7 : decode cX7_shortQuotient 7 = .ok (.land, 1) := by decide +kernel
theorem dX7_shortQuotient_8 : decode cX7_shortQuotient 8 = .ok (.lstore 5, 2) := by decide +kernel
theorem dX7_shortQuotient_10 : decode cX7_shortQuotient 10 = .ok (.aload_n 0, 1) := by decide +kernel
theorem dX7_shortQuotient_11 : decode cX7_shortQuotient 11 = .ok (.lload_n 1, 1) := by decide +kernel
theorem dX7_shortQuotient_12 : decode cX7_shortQuotient 12 = .ok (.invokevirtual 42, 3) := by decide +kernel
theorem dX7_shortQuotient_15 : decode cX7_shortQuotient 15 = .ok (.lstore 7, 2) := by decide +kernel
theorem dX7_shortQuotient_17 : decode cX7_shortQuotient 17 = .ok (.aload_n 0, 1) := by decide +kernel
theorem dX7_shortQuotient_18 : decode cX7_shortQuotient 18 = .ok (.lload_n 3, 1) := by decide +kernel
theorem dX7_shortQuotient_19 : decode cX7_shortQuotient 19 = .ok (.invokevirtual 42, 3) := by decide +kernel
theorem dX7_shortQuotient_22 : decode cX7_shortQuotient 22 = .ok (.lstore 9, 2) := by decide +kernel
theorem dX7_shortQuotient_24 : decode cX7_shortQuotient 24 = .ok (.lload 7, 2) := by decide +kernel
theorem dX7_shortQuotient_26 : decode cX7_shortQuotient 26 = .ok (.aload_n 0, 1) := by decide +kernel
theorem dX7_shortQuotient_27 : decode cX7_shortQuotient 27 = .ok (.getfield 25, 3) := by decide +kernel
theorem dX7_shortQuotient_30 : decode cX7_shortQuotient 30 = .ok (.lcmp, 1) := by decide +kernel
theorem dX7_shortQuotient_31 : decode cX7_shortQuotient 31 = .ok (.ifCond .gt 33, 3) := by decide +kernel
theorem dX7_shortQuotient_34 : decode cX7_shortQuotient 34 = .ok (.lload 9, 2) := by decide +kernel
theorem dX7_shortQuotient_36 : decode cX7_shortQuotient 36 = .ok (.aload_n 0, 1) := by decide +kernel
theorem dX7_shortQuotient_37 : decode cX7_shortQuotient 37 = .ok (.getfield 25, 3) := by decide +kernel
theorem dX7_shortQuotient_40 : decode cX7_shortQuotient 40 = .ok (.lcmp, 1) := by decide +kernel
theorem dX7_shortQuotient_41 : decode cX7_shortQuotient 41 = .ok (.ifCond .gt 23, 3) := by decide +kernel
theorem dX7_shortQuotient_44 : decode cX7_shortQuotient 44 = .ok (.lload 7, 2) := by decide +kernel
theorem dX7_shortQuotient_46 : decode cX7_shortQuotient 46 = .ok (.aload_n 0, 1) := by decide +kernel
theorem dX7_shortQuotient_47 : decode cX7_shortQuotient 47 = .ok (.getfield 25, 3) := by decide +kernel
theorem dX7_shortQuotient_50 : decode cX7_shortQuotient 50 = .ok (.lcmp, 1) := by decide +kernel
theorem dX7_shortQuotient_51 : decode cX7_shortQuotient 51 = .ok (.ifCond .ne 18, 3) := by decide +kernel
theorem dX7_shortQuotient_54 : decode cX7_shortQuotient 54 = .ok (.lload 9, 2) := by decide +kernel
theorem dX7_shortQuotient_56 : decode cX7_shortQuotient 56 = .ok (.aload_n 0, 1) := by decide +kernel
theorem dX7_shortQuotient_57 : decode cX7_shortQuotient 57 = .ok (.getfield 25, 3) := by decide +kernel
theorem dX7_shortQuotient_60 : decode cX7_shortQuotient 60 = .ok (.lcmp, 1) := by decide +kernel
theorem dX7_shortQuotient_61 : decode cX7_shortQuotient 61 = .ok (.ifCond .ne 8, 3) := by decide +kernel
theorem dX7_shortQuotient_64 : decode cX7_shortQuotient 64 = .ok (.aload_n 0, 1) := by decide +kernel
theorem dX7_shortQuotient_65 : decode cX7_shortQuotient 65 = .ok (.getfield 28, 3) := by decide +kernel
theorem dX7_shortQuotient_68 : decode cX7_shortQuotient 68 = .ok (.lreturn, 1) := by decide +kernel
theorem dX7_shortQuotient_69 : decode cX7_shortQuotient 69 = .ok (.lload 7, 2) := by decide +kernel
theorem dX7_shortQuotient_71 : decode cX7_shortQuotient 71 = .ok (.aload_n 0, 1) := by decide +kernel
theorem dX7_shortQuotient_72 : decode cX7_shortQuotient 72 = .ok (.getfield 25, 3) := by decide +kernel
theorem dX7_shortQuotient_75 : decode cX7_shortQuotient 75 = .ok (.lcmp, 1) := by decide +kernel
theorem dX7_shortQuotient_76 : decode cX7_shortQuotient 76 = .ok (.ifCond .ne 11, 3) := by decide +kernel
theorem dX7_shortQuotient_79 : decode cX7_shortQuotient 79 = .ok (.lload 5, 2) := by decide +kernel
theorem dX7_shortQuotient_81 : decode cX7_shortQuotient 81 = .ok (.aload_n 0, 1) := by decide +kernel
theorem dX7_shortQuotient_82 : decode cX7_shortQuotient 82 = .ok (.getfield 25, 3) := by decide +kernel
theorem dX7_shortQuotient_85 : decode cX7_shortQuotient 85 = .ok (.lor, 1) := by decide +kernel
theorem dX7_shortQuotient_86 : decode cX7_shortQuotient 86 = .ok (.lreturn, 1) := by decide +kernel
theorem dX7_shortQuotient_87 : decode cX7_shortQuotient 87 = .ok (.lload 9, 2) := by decide +kernel
theorem dX7_shortQuotient_89 : decode cX7_shortQuotient 89 = .ok (.aload_n 0, 1) := by decide +kernel
theorem dX7_shortQuotient_90 : decode cX7_shortQuotient 90 = .ok (.getfield 25, 3) := by decide +kernel
theorem dX7_shortQuotient_93 : decode cX7_shortQuotient 93 = .ok (.lcmp, 1) := by decide +kernel
theorem dX7_shortQuotient_94 : decode cX7_shortQuotient 94 = .ok (.ifCond .ne 6, 3) := by decide +kernel
theorem dX7_shortQuotient_97 : decode cX7_shortQuotient 97 = .ok (.lload 5, 2) := by decide +kernel
theorem dX7_shortQuotient_99 : decode cX7_shortQuotient 99 = .ok (.lreturn, 1) := by decide +kernel
theorem dX7_shortQuotient_100 : decode cX7_shortQuotient 100 = .ok (.lload 9, 2) := by decide +kernel
theorem dX7_shortQuotient_102 : decode cX7_shortQuotient 102 = .ok (.lconst 0, 1) := by decide +kernel
theorem dX7_shortQuotient_103 : decode cX7_shortQuotient 103 = .ok (.lcmp, 1) := by decide +kernel
theorem dX7_shortQuotient_104 : decode cX7_shortQuotient 104 = .ok (.ifCond .ne 7, 3) := by decide +kernel
theorem dX7_shortQuotient_107 : decode cX7_shortQuotient 107 = .ok (.lconst 0, 1) := by decide +kernel
theorem dX7_shortQuotient_108 : decode cX7_shortQuotient 108 = .ok (.goto 12, 3) := by decide +kernel
theorem dX7_shortQuotient_111 : decode cX7_shortQuotient 111 = .ok (.aload_n 0, 1) := by decide +kernel
theorem dX7_shortQuotient_112 : decode cX7_shortQuotient 112 = .ok (.lload 9, 2) := by decide +kernel
theorem dX7_shortQuotient_114 : decode cX7_shortQuotient 114 = .ok (.invokevirtual 64, 3) := by decide +kernel
theorem dX7_shortQuotient_117 : decode cX7_shortQuotient 117 = .ok (.bipush 39, 2) := by decide +kernel
theorem dX7_shortQuotient_119 : decode cX7_shortQuotient 119 = .ok (.lushr, 1) := by decide +kernel
theorem dX7_shortQuotient_120 : decode cX7_shortQuotient 120 = .ok (.lstore 11, 2) := by decide +kernel
theorem dX7_shortQuotient_122 : decode cX7_shortQuotient 122 = .ok (.lload 11, 2) := by decide +kernel
theorem dX7_shortQuotient_124 : decode cX7_shortQuotient 124 = .ok (.lconst 0, 1) := by decide +kernel
theorem dX7_shortQuotient_125 : decode cX7_shortQuotient 125 = .ok (.lcmp, 1) := by decide +kernel
theorem dX7_shortQuotient_126 : decode cX7_shortQuotient 126 = .ok (.ifCond .ne 25, 3) := by decide +kernel
theorem dX7_shortQuotient_129 : decode cX7_shortQuotient 129 = .ok (.lload 7, 2) := by decide +kernel
theorem dX7_shortQuotient_131 : decode cX7_shortQuotient 131 = .ok (.lconst 0, 1) := by decide +kernel
theorem dX7_shortQuotient_132 : decode cX7_shortQuotient 132 = .ok (.lcmp, 1) := by decide +kernel
theorem dX7_shortQuotient_133 : decode cX7_shortQuotient 133 = .ok (.ifCond .ne 10, 3) := by decide +kernel
theorem dX7_shortQuotient_136 : decode cX7_shortQuotient 136 = .ok (.aload_n 0, 1) := by decide +kernel
theorem dX7_shortQuotient_137 : decode cX7_shortQuotient 137 = .ok (.getfield 28, 3) := by decide +kernel
theorem dX7_shortQuotient_140 : decode cX7_shortQuotient 140 = .ok (.goto 10, 3) := by decide +kernel
theorem dX7_shortQuotient_143 : decode cX7_shortQuotient 143 = .ok (.lload 5, 2) := by decide +kernel
theorem dX7_shortQuotient_145 : decode cX7_shortQuotient 145 = .ok (.aload_n 0, 1) := by decide +kernel
theorem dX7_shortQuotient_146 : decode cX7_shortQuotient 146 = .ok (.getfield 25, 3) := by decide +kernel
theorem dX7_shortQuotient_149 : decode cX7_shortQuotient 149 = .ok (.lor, 1) := by decide +kernel
theorem dX7_shortQuotient_150 : decode cX7_shortQuotient 150 = .ok (.lreturn, 1) := by decide +kernel
theorem dX7_shortQuotient_151 : decode cX7_shortQuotient 151 = .ok (.lload 7, 2) := by decide +kernel
theorem dX7_shortQuotient_153 : decode cX7_shortQuotient 153 = .ok (.lconst 0, 1) := by decide +kernel
theorem dX7_shortQuotient_154 : decode cX7_shortQuotient 154 = .ok (.lcmp, 1) := by decide +kernel
theorem dX7_shortQuotient_155 : decode cX7_shortQuotient 155 = .ok (.ifCond .ne 6, 3) := by decide +kernel
theorem dX7_shortQuotient_158 : decode cX7_shortQuotient 158 = .ok (.lload 5, 2) := by decide +kernel
theorem dX7_shortQuotient_160 : decode cX7_shortQuotient 160 = .ok (.lreturn, 1) := by decide +kernel
theorem dX7_shortQuotient_161 : decode cX7_shortQuotient 161 = .ok (.aload_n 0, 1) := by decide +kernel
theorem dX7_shortQuotient_162 : decode cX7_shortQuotient 162 = .ok (.lload 7, 2) := by decide +kernel
theorem dX7_shortQuotient_164 : decode cX7_shortQuotient 164 = .ok (.invokevirtual 64, 3) := by decide +kernel
theorem dX7_shortQuotient_167 : decode cX7_shortQuotient 167 = .ok (.bipush 39, 2) := by decide +kernel
theorem dX7_shortQuotient_169 : decode cX7_shortQuotient 169 = .ok (.lushr, 1) := by decide +kernel
theorem dX7_shortQuotient_170 : decode cX7_shortQuotient 170 = .ok (.bipush 39, 2) := by decide +kernel
theorem dX7_shortQuotient_172 : decode cX7_shortQuotient 172 = .ok (.lshl, 1) := by decide +kernel
theorem dX7_shortQuotient_173 : decode cX7_shortQuotient 173 = .ok (.lstore 13, 2) := by decide +kernel
theorem dX7_shortQuotient_175 : decode cX7_shortQuotient 175 = .ok (.lload 13, 2) := by decide +kernel
theorem dX7_shortQuotient_177 : decode cX7_shortQuotient 177 = .ok (.lload 11, 2) := by decide +kernel
theorem dX7_shortQuotient_179 : decode cX7_shortQuotient 179 = .ok (.ldiv, 1) := by decide +kernel
theorem dX7_shortQuotient_180 : decode cX7_shortQuotient 180 = .ok (.lstore 15, 2) := by decide +kernel
theorem dX7_shortQuotient_182 : decode cX7_shortQuotient 182 = .ok (.lload 15, 2) := by decide +kernel
theorem dX7_shortQuotient_184 : decode cX7_shortQuotient 184 = .ok (.bipush 22, 2) := by decide +kernel
theorem dX7_shortQuotient_186 : decode cX7_shortQuotient 186 = .ok (.lshl, 1) := by decide +kernel
theorem dX7_shortQuotient_187 : decode cX7_shortQuotient 187 = .ok (.lload 13, 2) := by decide +kernel
theorem dX7_shortQuotient_189 : decode cX7_shortQuotient 189 = .ok (.lload 11, 2) := by decide +kernel
theorem dX7_shortQuotient_191 : decode cX7_shortQuotient 191 = .ok (.lrem, 1) := by decide +kernel
theorem dX7_shortQuotient_192 : decode cX7_shortQuotient 192 = .ok (.lconst 0, 1) := by decide +kernel
theorem dX7_shortQuotient_193 : decode cX7_shortQuotient 193 = .ok (.lcmp, 1) := by decide +kernel
theorem dX7_shortQuotient_194 : decode cX7_shortQuotient 194 = .ok (.ifCond .eq 7, 3) := by decide +kernel
theorem dX7_shortQuotient_197 : decode cX7_shortQuotient 197 = .ok (.iconst 1, 1) := by decide +kernel
theorem dX7_shortQuotient_198 : decode cX7_shortQuotient 198 = .ok (.goto 4, 3) := by decide +kernel
theorem dX7_shortQuotient_201 : decode cX7_shortQuotient 201 = .ok (.iconst 0, 1) := by decide +kernel
theorem dX7_shortQuotient_202 : decode cX7_shortQuotient 202 = .ok (.i2l, 1) := by decide +kernel
theorem dX7_shortQuotient_203 : decode cX7_shortQuotient 203 = .ok (.lor, 1) := by decide +kernel
theorem dX7_shortQuotient_204 : decode cX7_shortQuotient 204 = .ok (.lstore 17, 2) := by decide +kernel
theorem dX7_shortQuotient_206 : decode cX7_shortQuotient 206 = .ok (.lload 17, 2) := by decide +kernel
theorem dX7_shortQuotient_208 : decode cX7_shortQuotient 208 = .ok (.invokestatic 71, 3) := by decide +kernel
theorem dX7_shortQuotient_211 : decode cX7_shortQuotient 211 = .ok (.istore 19, 2) := by decide +kernel
theorem dX7_shortQuotient_213 : decode cX7_shortQuotient 213 = .ok (.aload_n 0, 1) := by decide +kernel
theorem dX7_shortQuotient_214 : decode cX7_shortQuotient 214 = .ok (.lload 5, 2) := by decide +kernel
theorem dX7_shortQuotient_216 : decode cX7_shortQuotient 216 = .ok (.aload_n 0, 1) := by decide +kernel
theorem dX7_shortQuotient_217 : decode cX7_shortQuotient 217 = .ok (.lload 7, 2) := by decide +kernel
theorem dX7_shortQuotient_219 : decode cX7_shortQuotient 219 = .ok (.invokevirtual 56, 3) := by decide +kernel
theorem dX7_shortQuotient_222 : decode cX7_shortQuotient 222 = .ok (.aload_n 0, 1) := by decide +kernel
theorem dX7_shortQuotient_223 : decode cX7_shortQuotient 223 = .ok (.lload 9, 2) := by decide +kernel
theorem dX7_shortQuotient_225 : decode cX7_shortQuotient 225 = .ok (.invokevirtual 56, 3) := by decide +kernel
theorem dX7_shortQuotient_228 : decode cX7_shortQuotient 228 = .ok (.isub, 1) := by decide +kernel
theorem dX7_shortQuotient_229 : decode cX7_shortQuotient 229 = .ok (.iconst 1, 1) := by decide +kernel
theorem dX7_shortQuotient_230 : decode cX7_shortQuotient 230 = .ok (.iadd, 1) := by decide +kernel
theorem dX7_shortQuotient_231 : decode cX7_shortQuotient 231 = .ok (.iload 19, 2) := by decide +kernel
theorem dX7_shortQuotient_233 : decode cX7_shortQuotient 233 = .ok (.isub, 1) := by decide +kernel
theorem dX7_shortQuotient_234 : decode cX7_shortQuotient 234 = .ok (.lload 17, 2) := by decide +kernel
theorem dX7_shortQuotient_236 : decode cX7_shortQuotient 236 = .ok (.iload 19, 2) := by decide +kernel
theorem dX7_shortQuotient_238 : decode cX7_shortQuotient 238 = .ok (.lshl, 1) := by decide +kernel
theorem dX7_shortQuotient_239 : decode cX7_shortQuotient 239 = .ok (.invokevirtual 67, 3) := by decide +kernel
theorem dX7_shortQuotient_242 : decode cX7_shortQuotient 242 = .ok (.lreturn, 1) := by decide +kernel
theorem dX7_gapOf_0 : decode cX7_gapOf 0 = .ok (.iconst 0, 1) := by decide +kernel
theorem dX7_gapOf_1 : decode cX7_gapOf 1 = .ok (.istore_n 2, 1) := by decide +kernel
theorem dX7_gapOf_2 : decode cX7_gapOf 2 = .ok (.iload_n 2, 1) := by decide +kernel
theorem dX7_gapOf_3 : decode cX7_gapOf 3 = .ok (.bipush 62, 2) := by decide +kernel
theorem dX7_gapOf_5 : decode cX7_gapOf 5 = .ok (.if_icmp .ge 19, 3) := by decide +kernel
theorem dX7_gapOf_8 : decode cX7_gapOf 8 = .ok (.lload_n 0, 1) := by decide +kernel
theorem dX7_gapOf_9 : decode cX7_gapOf 9 = .ok (.iload_n 2, 1) := by decide +kernel
theorem dX7_gapOf_10 : decode cX7_gapOf 10 = .ok (.lshl, 1) := by decide +kernel
theorem dX7_gapOf_11 : decode cX7_gapOf 11 = .ok (.ldc2_w 89, 3) := by decide +kernel
theorem dX7_gapOf_14 : decode cX7_gapOf 14 = .ok (.lcmp, 1) := by decide +kernel
theorem dX7_gapOf_15 : decode cX7_gapOf 15 = .ok (.ifCond .ge 9, 3) := by decide +kernel
theorem dX7_gapOf_18 : decode cX7_gapOf 18 = .ok (.iinc 2 1, 3) := by decide +kernel
theorem dX7_gapOf_21 : decode cX7_gapOf 21 = .ok (.goto (-19), 3) := by decide +kernel
theorem dX7_gapOf_24 : decode cX7_gapOf 24 = .ok (.iload_n 2, 1) := by decide +kernel
theorem dX7_gapOf_25 : decode cX7_gapOf 25 = .ok (.ireturn, 1) := by decide +kernel
set_option maxRecDepth 20000 in
theorem ggX7_exponentOf_X7_gapOf : GoodIn wsX7_exponentOf wsX7_gapOf := goodIn_r _ [6, 7] (by decide +kernel) (by decide +kernel)
set_option maxRecDepth 20000 in
theorem gX7_exponentOf_X7_gapOf : GoodIn wsX7_exponentOf (va_wsS RX7 71 yX7_gapOf wsX7_gapOf) := goodIn_app (goodIn_of _ (by decide +kernel)) ggX7_exponentOf_X7_gapOf
theorem dX7_exponentOf_0 : decode cX7_exponentOf 0 = .ok (.lload_n 1, 1) := by decide +kernel
theorem dX7_exponentOf_1 : decode cX7_exponentOf 1 = .ok (.aload_n 0, 1) := by decide +kernel
theorem dX7_exponentOf_2 : decode cX7_exponentOf 2 = .ok (.getfield 11, 3) := by decide +kernel
theorem dX7_exponentOf_5 : decode cX7_exponentOf 5 = .ok (.lushr, 1) := by decide +kernel
theorem dX7_exponentOf_6 : decode cX7_exponentOf 6 = .ok (.l2i, 1) := by decide +kernel
theorem dX7_exponentOf_7 : decode cX7_exponentOf 7 = .ok (.istore_n 3, 1) := by decide +kernel
theorem dX7_exponentOf_8 : decode cX7_exponentOf 8 = .ok (.iload_n 3, 1) := by decide +kernel
theorem dX7_exponentOf_9 : decode cX7_exponentOf 9 = .ok (.ifCond .eq 10, 3) := by decide +kernel
theorem dX7_exponentOf_12 : decode cX7_exponentOf 12 = .ok (.iload_n 3, 1) := by decide +kernel
theorem dX7_exponentOf_13 : decode cX7_exponentOf 13 = .ok (.aload_n 0, 1) := by decide +kernel
theorem dX7_exponentOf_14 : decode cX7_exponentOf 14 = .ok (.getfield 18, 3) := by decide +kernel
theorem dX7_exponentOf_17 : decode cX7_exponentOf 17 = .ok (.isub, 1) := by decide +kernel
theorem dX7_exponentOf_18 : decode cX7_exponentOf 18 = .ok (.ireturn, 1) := by decide +kernel
theorem dX7_exponentOf_19 : decode cX7_exponentOf 19 = .ok (.iconst 1, 1) := by decide +kernel
theorem dX7_exponentOf_20 : decode cX7_exponentOf 20 = .ok (.aload_n 0, 1) := by decide +kernel
theorem dX7_exponentOf_21 : decode cX7_exponentOf 21 = .ok (.getfield 18, 3) := by decide +kernel
theorem dX7_exponentOf_24 : decode cX7_exponentOf 24 = .ok (.isub, 1) := by decide +kernel
theorem dX7_exponentOf_25 : decode cX7_exponentOf 25 = .ok (.lload_n 1, 1) := by decide +kernel
theorem dX7_exponentOf_26 : decode cX7_exponentOf 26 = .ok (.bipush 62, 2) := by decide +kernel
theorem dX7_exponentOf_28 : decode cX7_exponentOf 28 = .ok (.aload_n 0, 1) := by decide +kernel
theorem dX7_exponentOf_29 : decode cX7_exponentOf 29 = .ok (.getfield 11, 3) := by decide +kernel
theorem dX7_exponentOf_32 : decode cX7_exponentOf 32 = .ok (.isub, 1) := by decide +kernel
theorem dX7_exponentOf_33 : decode cX7_exponentOf 33 = .ok (.lshl, 1) := by decide +kernel
theorem dX7_exponentOf_34 : decode cX7_exponentOf 34 = .ok (.invokestatic 71, 3) := by decide +kernel
theorem dX7_exponentOf_37 : decode cX7_exponentOf 37 = .ok (.isub, 1) := by decide +kernel
theorem dX7_exponentOf_38 : decode cX7_exponentOf 38 = .ok (.ireturn, 1) := by decide +kernel
set_option maxRecDepth 20000 in
theorem ggX7_significandOf_X7_gapOf : GoodIn wsX7_significandOf wsX7_gapOf := goodIn_r _ [5, 6] (by decide +kernel) (by decide +kernel)
set_option maxRecDepth 20000 in
theorem gX7_significandOf_X7_gapOf : GoodIn wsX7_significandOf (va_wsS RX7 71 yX7_gapOf wsX7_gapOf) := goodIn_app (goodIn_of _ (by decide +kernel)) ggX7_significandOf_X7_gapOf
theorem dX7_significandOf_0 : decode cX7_significandOf 0 = .ok (.lload_n 1, 1) := by decide +kernel
theorem dX7_significandOf_1 : decode cX7_significandOf 1 = .ok (.lconst 1, 1) := by decide +kernel
theorem dX7_significandOf_2 : decode cX7_significandOf 2 = .ok (.aload_n 0, 1) := by decide +kernel
theorem dX7_significandOf_3 : decode cX7_significandOf 3 = .ok (.getfield 11, 3) := by decide +kernel
theorem dX7_significandOf_6 : decode cX7_significandOf 6 = .ok (.lshl, 1) := by decide +kernel
theorem dX7_significandOf_7 : decode cX7_significandOf 7 = .ok (.lconst 1, 1) := by decide +kernel
theorem dX7_significandOf_8 : decode cX7_significandOf 8 = .ok (.lsub, 1) := by decide +kernel
theorem dX7_significandOf_9 : decode cX7_significandOf 9 = .ok (.land, 1) := by decide +kernel
theorem dX7_significandOf_10 : decode cX7_significandOf 10 = .ok (.lstore_n 3, 1) := by decide +kernel
theorem dX7_significandOf_11 : decode cX7_significandOf 11 = .ok (.lload_n 1, 1) := by decide +kernel
theorem dX7_significandOf_12 : decode cX7_significandOf 12 = .ok (.aload_n 0, 1) := by decide +kernel
theorem dX7_significandOf_13 : decode cX7_significandOf 13 = .ok (.getfield 11, 3) := by decide +kernel
theorem dX7_significandOf_16 : decode cX7_significandOf 16 = .ok (.lushr, 1) := by decide +kernel
theorem dX7_significandOf_17 : decode cX7_significandOf 17 = .ok (.lconst 0, 1) := by decide +kernel
theorem dX7_significandOf_18 : decode cX7_significandOf 18 = .ok (.lcmp, 1) := by decide +kernel
theorem dX7_significandOf_19 : decode cX7_significandOf 19 = .ok (.ifCond .eq 20, 3) := by decide +kernel
theorem dX7_significandOf_22 : decode cX7_significandOf 22 = .ok (.lload_n 3, 1) := by decide +kernel
theorem dX7_significandOf_23 : decode cX7_significandOf 23 = .ok (.lconst 1, 1) := by decide +kernel
theorem dX7_significandOf_24 : decode cX7_significandOf 24 = .ok (.aload_n 0, 1) := by decide +kernel
theorem dX7_significandOf_25 : decode cX7_significandOf 25 = .ok (.getfield 11, 3) := by decide +kernel
theorem dX7_significandOf_28 : decode cX7_significandOf 28 = .ok (.lshl, 1) := by decide +kernel
theorem dX7_significandOf_29 : decode cX7_significandOf 29 = .ok (.lor, 1) := by decide +kernel
theorem dX7_significandOf_30 : decode cX7_significandOf 30 = .ok (.bipush 62, 2) := by decide +kernel
theorem dX7_significandOf_32 : decode cX7_significandOf 32 = .ok (.aload_n 0, 1) := by decide +kernel
theorem dX7_significandOf_33 : decode cX7_significandOf 33 = .ok (.getfield 11, 3) := by decide +kernel
theorem dX7_significandOf_36 : decode cX7_significandOf 36 = .ok (.isub, 1) := by decide +kernel
theorem dX7_significandOf_37 : decode cX7_significandOf 37 = .ok (.lshl, 1) := by decide +kernel
theorem dX7_significandOf_38 : decode cX7_significandOf 38 = .ok (.lreturn, 1) := by decide +kernel
theorem dX7_significandOf_39 : decode cX7_significandOf 39 = .ok (.lload_n 3, 1) := by decide +kernel
theorem dX7_significandOf_40 : decode cX7_significandOf 40 = .ok (.bipush 62, 2) := by decide +kernel
theorem dX7_significandOf_42 : decode cX7_significandOf 42 = .ok (.aload_n 0, 1) := by decide +kernel
theorem dX7_significandOf_43 : decode cX7_significandOf 43 = .ok (.getfield 11, 3) := by decide +kernel
theorem dX7_significandOf_46 : decode cX7_significandOf 46 = .ok (.isub, 1) := by decide +kernel
theorem dX7_significandOf_47 : decode cX7_significandOf 47 = .ok (.lshl, 1) := by decide +kernel
theorem dX7_significandOf_48 : decode cX7_significandOf 48 = .ok (.lstore 5, 2) := by decide +kernel
theorem dX7_significandOf_50 : decode cX7_significandOf 50 = .ok (.lload 5, 2) := by decide +kernel
theorem dX7_significandOf_52 : decode cX7_significandOf 52 = .ok (.lload 5, 2) := by decide +kernel
theorem dX7_significandOf_54 : decode cX7_significandOf 54 = .ok (.invokestatic 71, 3) := by decide +kernel
theorem dX7_significandOf_57 : decode cX7_significandOf 57 = .ok (.lshl, 1) := by decide +kernel
theorem dX7_significandOf_58 : decode cX7_significandOf 58 = .ok (.lreturn, 1) := by decide +kernel
theorem dX7_rounded_0 : decode cX7_rounded 0 = .ok (.iload_n 3, 1) := by decide +kernel
theorem dX7_rounded_1 : decode cX7_rounded 1 = .ok (.aload_n 0, 1) := by decide +kernel
theorem dX7_rounded_2 : decode cX7_rounded 2 = .ok (.getfield 18, 3) := by decide +kernel
theorem dX7_rounded_5 : decode cX7_rounded 5 = .ok (.iadd, 1) := by decide +kernel
theorem dX7_rounded_6 : decode cX7_rounded 6 = .ok (.istore 6, 2) := by decide +kernel
theorem dX7_rounded_8 : decode cX7_rounded 8 = .ok (.iload 6, 2) := by decide +kernel
theorem dX7_rounded_10 : decode cX7_rounded 10 = .ok (.aload_n 0, 1) := by decide +kernel
theorem dX7_rounded_11 : decode cX7_rounded 11 = .ok (.getfield 15, 3) := by decide +kernel
theorem dX7_rounded_14 : decode cX7_rounded 14 = .ok (.if_icmp .lt 10, 3) := by decide +kernel
theorem dX7_rounded_17 : decode cX7_rounded 17 = .ok (.lload_n 1, 1) := by decide +kernel
theorem dX7_rounded_18 : decode cX7_rounded 18 = .ok (.aload_n 0, 1) := by decide +kernel
theorem dX7_rounded_19 : decode cX7_rounded 19 = .ok (.getfield 25, 3) := by decide +kernel
theorem dX7_rounded_22 : decode cX7_rounded 22 = .ok (.lor, 1) := by decide +kernel
theorem dX7_rounded_23 : decode cX7_rounded 23 = .ok (.lreturn, 1) := by decide +kernel
theorem dX7_rounded_24 : decode cX7_rounded 24 = .ok (.bipush 62, 2) := by decide +kernel
theorem dX7_rounded_26 : decode cX7_rounded 26 = .ok (.aload_n 0, 1) := by decide +kernel
theorem dX7_rounded_27 : decode cX7_rounded 27 = .ok (.getfield 11, 3) := by decide +kernel
theorem dX7_rounded_30 : decode cX7_rounded 30 = .ok (.isub, 1) := by decide +kernel
theorem dX7_rounded_31 : decode cX7_rounded 31 = .ok (.istore 7, 2) := by decide +kernel
theorem dX7_rounded_33 : decode cX7_rounded 33 = .ok (.iload 6, 2) := by decide +kernel
theorem dX7_rounded_35 : decode cX7_rounded 35 = .ok (.iconst 1, 1) := by decide +kernel
theorem dX7_rounded_36 : decode cX7_rounded 36 = .ok (.if_icmp .ge 15, 3) := by decide +kernel
theorem dX7_rounded_39 : decode cX7_rounded 39 = .ok (.iload 7, 2) := by decide +kernel
theorem dX7_rounded_41 : decode cX7_rounded 41 = .ok (.iconst 1, 1) := by decide +kernel
theorem dX7_rounded_42 : decode cX7_rounded 42 = .ok (.iload 6, 2) := by decide +kernel
theorem dX7_rounded_44 : decode cX7_rounded 44 = .ok (.isub, 1) := by decide +kernel
theorem dX7_rounded_45 : decode cX7_rounded 45 = .ok (.iadd, 1) := by decide +kernel
theorem dX7_rounded_46 : decode cX7_rounded 46 = .ok (.istore 7, 2) := by decide +kernel
theorem dX7_rounded_48 : decode cX7_rounded 48 = .ok (.iconst 1, 1) := by decide +kernel
theorem dX7_rounded_49 : decode cX7_rounded 49 = .ok (.istore 6, 2) := by decide +kernel
theorem dX7_rounded_51 : decode cX7_rounded 51 = .ok (.iload 7, 2) := by decide +kernel
theorem dX7_rounded_53 : decode cX7_rounded 53 = .ok (.bipush 63, 2) := by decide +kernel
theorem dX7_rounded_55 : decode cX7_rounded 55 = .ok (.if_icmp .le 5, 3) := by decide +kernel
theorem dX7_rounded_58 : decode cX7_rounded 58 = .ok (.lload_n 1, 1) := by decide +kernel
theorem dX7_rounded_59 : decode cX7_rounded 59 = .ok (.lreturn, 1) := by decide +kernel
theorem dX7_rounded_60 : decode cX7_rounded 60 = .ok (.lload 4, 2) := by decide +kernel
theorem dX7_rounded_62 : decode cX7_rounded 62 = .ok (.iload 7, 2) := by decide +kernel
theorem dX7_rounded_64 : decode cX7_rounded 64 = .ok (.lushr, 1) := by decide +kernel
theorem dX7_rounded_65 : decode cX7_rounded 65 = .ok (.lstore 8, 2) := by decide +kernel
theorem dX7_rounded_67 : decode cX7_rounded 67 = .ok (.lload 4, 2) := by decide +kernel
theorem dX7_rounded_69 : decode cX7_rounded 69 = .ok (.lconst 1, 1) := by decide +kernel
theorem dX7_rounded_70 : decode cX7_rounded 70 = .ok (.iload 7, 2) := by decide +kernel
theorem dX7_rounded_72 : decode cX7_rounded 72 = .ok (.lshl, 1) := by decide +kernel
theorem dX7_rounded_73 : decode cX7_rounded 73 = .ok (.lconst 1, 1) := by decide +kernel
theorem dX7_rounded_74 : decode cX7_rounded 74 = .ok (.lsub, 1) := by decide +kernel
theorem dX7_rounded_75 : decode cX7_rounded 75 = .ok (.land, 1) := by decide +kernel
theorem dX7_rounded_76 : decode cX7_rounded 76 = .ok (.lstore 10, 2) := by decide +kernel
theorem dX7_rounded_78 : decode cX7_rounded 78 = .ok (.lconst 1, 1) := by decide +kernel
theorem dX7_rounded_79 : decode cX7_rounded 79 = .ok (.iload 7, 2) := by decide +kernel
theorem dX7_rounded_81 : decode cX7_rounded 81 = .ok (.iconst 1, 1) := by decide +kernel
theorem dX7_rounded_82 : decode cX7_rounded 82 = .ok (.isub, 1) := by decide +kernel
theorem dX7_rounded_83 : decode cX7_rounded 83 = .ok (.lshl, 1) := by decide +kernel
theorem dX7_rounded_84 : decode cX7_rounded 84 = .ok (.lstore 12, 2) := by decide +kernel
theorem dX7_rounded_86 : decode cX7_rounded 86 = .ok (.lload 10, 2) := by decide +kernel
theorem dX7_rounded_88 : decode cX7_rounded 88 = .ok (.lload 12, 2) := by decide +kernel
theorem dX7_rounded_90 : decode cX7_rounded 90 = .ok (.lcmp, 1) := by decide +kernel
theorem dX7_rounded_91 : decode cX7_rounded 91 = .ok (.ifCond .gt 20, 3) := by decide +kernel
theorem dX7_rounded_94 : decode cX7_rounded 94 = .ok (.lload 10, 2) := by decide +kernel
theorem dX7_rounded_96 : decode cX7_rounded 96 = .ok (.lload 12, 2) := by decide +kernel
theorem dX7_rounded_98 : decode cX7_rounded 98 = .ok (.lcmp, 1) := by decide +kernel
theorem dX7_rounded_99 : decode cX7_rounded 99 = .ok (.ifCond .ne 18, 3) := by decide +kernel
theorem dX7_rounded_102 : decode cX7_rounded 102 = .ok (.lload 8, 2) := by decide +kernel
theorem dX7_rounded_104 : decode cX7_rounded 104 = .ok (.lconst 1, 1) := by decide +kernel
theorem dX7_rounded_105 : decode cX7_rounded 105 = .ok (.land, 1) := by decide +kernel
theorem dX7_rounded_106 : decode cX7_rounded 106 = .ok (.lconst 1, 1) := by decide +kernel
theorem dX7_rounded_107 : decode cX7_rounded 107 = .ok (.lcmp, 1) := by decide +kernel
theorem dX7_rounded_108 : decode cX7_rounded 108 = .ok (.ifCond .ne 9, 3) := by decide +kernel
theorem dX7_rounded_111 : decode cX7_rounded 111 = .ok (.lload 8, 2) := by decide +kernel
theorem dX7_rounded_113 : decode cX7_rounded 113 = .ok (.lconst 1, 1) := by decide +kernel
theorem dX7_rounded_114 : decode cX7_rounded 114 = .ok (.ladd, 1) := by decide +kernel
theorem dX7_rounded_115 : decode cX7_rounded 115 = .ok (.lstore 8, 2) := by decide +kernel
theorem dX7_rounded_117 : decode cX7_rounded 117 = .ok (.lload_n 1, 1) := by decide +kernel
theorem dX7_rounded_118 : decode cX7_rounded 118 = .ok (.iload 6, 2) := by decide +kernel
theorem dX7_rounded_120 : decode cX7_rounded 120 = .ok (.iconst 1, 1) := by decide +kernel
theorem dX7_rounded_121 : decode cX7_rounded 121 = .ok (.isub, 1) := by decide +kernel
theorem dX7_rounded_122 : decode cX7_rounded 122 = .ok (.i2l, 1) := by decide +kernel
theorem dX7_rounded_123 : decode cX7_rounded 123 = .ok (.aload_n 0, 1) := by decide +kernel
theorem dX7_rounded_124 : decode cX7_rounded 124 = .ok (.getfield 11, 3) := by decide +kernel
theorem dX7_rounded_127 : decode cX7_rounded 127 = .ok (.lshl, 1) := by decide +kernel
theorem dX7_rounded_128 : decode cX7_rounded 128 = .ok (.lload 8, 2) := by decide +kernel
theorem dX7_rounded_130 : decode cX7_rounded 130 = .ok (.ladd, 1) := by decide +kernel
theorem dX7_rounded_131 : decode cX7_rounded 131 = .ok (.lor, 1) := by decide +kernel
theorem dX7_rounded_132 : decode cX7_rounded 132 = .ok (.lreturn, 1) := by decide +kernel
theorem dX8_init_0 : decode cX8_init 0 = .ok (.aload_n 0, 1) := by decide +kernel
theorem dX8_init_1 : decode cX8_init 1 = .ok (.invokespecial 5, 3) := by decide +kernel
theorem dX8_init_4 : decode cX8_init 4 = .ok (.aload_n 0, 1) := by decide +kernel
theorem dX8_init_5 : decode cX8_init 5 = .ok (.sipush 18900, 3) := by decide +kernel
theorem dX8_init_8 : decode cX8_init 8 = .ok (.newarray .int, 2) := by decide +kernel
theorem dX8_init_10 : decode cX8_init 10 = .ok (.putfield 15, 3) := by decide +kernel
theorem dX8_init_13 : decode cX8_init 13 = .ok (.aload_n 0, 1) := by decide +kernel
theorem dX8_init_14 : decode cX8_init 14 = .ok (.bipush 84, 2) := by decide +kernel
theorem dX8_init_16 : decode cX8_init 16 = .ok (.newarray .int, 2) := by decide +kernel
theorem dX8_init_18 : decode cX8_init 18 = .ok (.putfield 19, 3) := by decide +kernel
theorem dX8_init_21 : decode cX8_init 21 = .ok (.aload_n 0, 1) := by decide +kernel
theorem dX8_init_22 : decode cX8_init 22 = .ok (.bipush 84, 2) := by decide +kernel
theorem dX8_init_24 : decode cX8_init 24 = .ok (.newarray .int, 2) := by decide +kernel
theorem dX8_init_26 : decode cX8_init 26 = .ok (.putfield 22, 3) := by decide +kernel
theorem dX8_init_29 : decode cX8_init 29 = .ok (.aload_n 0, 1) := by decide +kernel
theorem dX8_init_30 : decode cX8_init 30 = .ok (.bipush 84, 2) := by decide +kernel
theorem dX8_init_32 : decode cX8_init 32 = .ok (.newarray .int, 2) := by decide +kernel
theorem dX8_init_34 : decode cX8_init 34 = .ok (.putfield 25, 3) := by decide +kernel
theorem dX8_init_37 : decode cX8_init 37 = .ok (.aload_n 0, 1) := by decide +kernel
theorem dX8_init_38 : decode cX8_init 38 = .ok (.bipush 84, 2) := by decide +kernel
theorem dX8_init_40 : decode cX8_init 40 = .ok (.newarray .int, 2) := by decide +kernel
theorem dX8_init_42 : decode cX8_init 42 = .ok (.putfield 28, 3) := by decide +kernel
theorem dX8_init_45 : decode cX8_init 45 = .ok (.aload_n 0, 1) := by decide +kernel
theorem dX8_init_46 : decode cX8_init 46 = .ok (.sipush 7056, 3) := by decide +kernel
theorem dX8_init_49 : decode cX8_init 49 = .ok (.newarray .int, 2) := by decide +kernel
theorem dX8_init_51 : decode cX8_init 51 = .ok (.putfield 31, 3) := by decide +kernel
theorem dX8_init_54 : decode cX8_init 54 = .ok (.aload_n 0, 1) := by decide +kernel
theorem dX8_init_55 : decode cX8_init 55 = .ok (.sipush 225, 3) := by decide +kernel
theorem dX8_init_58 : decode cX8_init 58 = .ok (.newarray .int, 2) := by decide +kernel
theorem dX8_init_60 : decode cX8_init 60 = .ok (.putfield 34, 3) := by decide +kernel
theorem dX8_init_63 : decode cX8_init 63 = .ok (.aload_n 0, 1) := by decide +kernel
theorem dX8_init_64 : decode cX8_init 64 = .ok (.bipush 84, 2) := by decide +kernel
theorem dX8_init_66 : decode cX8_init 66 = .ok (.newarray .int, 2) := by decide +kernel
theorem dX8_init_68 : decode cX8_init 68 = .ok (.putfield 37, 3) := by decide +kernel
theorem dX8_init_71 : decode cX8_init 71 = .ok (.aload_n 0, 1) := by decide +kernel
theorem dX8_init_72 : decode cX8_init 72 = .ok (.sipush 225, 3) := by decide +kernel
theorem dX8_init_75 : decode cX8_init 75 = .ok (.newarray .int, 2) := by decide +kernel
theorem dX8_init_77 : decode cX8_init 77 = .ok (.putfield 40, 3) := by decide +kernel
theorem dX8_init_80 : decode cX8_init 80 = .ok (.aload_n 0, 1) := by decide +kernel
theorem dX8_init_81 : decode cX8_init 81 = .ok (.iconst 0, 1) := by decide +kernel
theorem dX8_init_82 : decode cX8_init 82 = .ok (.putfield 43, 3) := by decide +kernel
theorem dX8_init_85 : decode cX8_init 85 = .ok (.return_, 1) := by decide +kernel
set_option maxRecDepth 20000 in
theorem ggX8_seek_X0_forget : GoodIn wsX8_seek wsX0_forget := goodIn_r _ [9, 10, 11, 12, 13, 14, 15, 16, 17, 111, 112, 113, 114, 115, 116, 117, 118] (by decide +kernel) (by decide +kernel)
set_option maxRecDepth 20000 in
theorem gX8_seek_X0_forget : GoodIn wsX8_seek (wsV RX8 53 RX0 yX0_forget wsX0_forget) := goodIn_app (goodIn_of _ (by decide +kernel)) ggX8_seek_X0_forget
set_option maxRecDepth 20000 in
theorem ggX8_seek_X2_startDeriving : GoodIn wsX8_seek wsX2_startDeriving := goodIn_r _ [22, 23, 24, 15, 16, 17, 119, 120, 121, 122, 123, 124] (by decide +kernel) (by decide +kernel)
set_option maxRecDepth 20000 in
theorem gX8_seek_X2_startDeriving : GoodIn wsX8_seek (wsV RX8 58 RX2 yX2_startDeriving wsX2_startDeriving) := goodIn_app (goodIn_of _ (by decide +kernel)) ggX8_seek_X2_startDeriving
set_option maxRecDepth 20000 in
theorem ggX8_seek_X2_deriveMore : GoodIn wsX8_seek wsX2_deriveMore := goodIn_r _ [28, 23, 29, 30, 31, 32, 33, 34, 35, 36, 37, 38, 119, 120, 121, 122, 123, 124] (by decide +kernel) (by decide +kernel)
set_option maxRecDepth 20000 in
theorem gX8_seek_X2_deriveMore : GoodIn wsX8_seek (wsV RX8 64 RX2 yX2_deriveMore wsX2_deriveMore) := goodIn_app (goodIn_of _ (by decide +kernel)) ggX8_seek_X2_deriveMore
set_option maxRecDepth 20000 in
theorem ggX8_seek_X2_spread : GoodIn wsX8_seek wsX2_spread := goodIn_r _ [42, 23, 30, 31, 32, 33, 43, 44, 21, 45, 34, 35, 36, 37, 38, 119, 120, 121, 122, 123, 124] (by decide +kernel) (by decide +kernel)
set_option maxRecDepth 20000 in
theorem gX8_seek_X2_spread : GoodIn wsX8_seek (wsV RX8 68 RX2 yX2_spread wsX2_spread) := goodIn_app (goodIn_of _ (by decide +kernel)) ggX8_seek_X2_spread
set_option maxRecDepth 20000 in
theorem ggX8_seek_X8_takeOperators : GoodIn wsX8_seek wsX8_takeOperators := goodIn_r _ [50, 51, 52, 53, 49, 54, 55, 4, 56, 15, 16, 17, 57, 58, 59, 60, 1, 61, 62, 63, 64, 65, 66, 36, 67, 68, 69, 70, 71, 72, 73, 74, 75, 76, 77, 78, 79, 31, 32, 33, 80, 81, 82, 83, 84, 85, 86, 87, 35, 37, 38, 88, 97, 98, 99, 100, 101, 102, 103, 104, 105, 106] (by decide +kernel) (by decide +kernel)
set_option maxRecDepth 20000 in
theorem gX8_seek_X8_takeOperators : GoodIn wsX8_seek (wsV RX8 72 RX8 yX8_takeOperators wsX8_takeOperators) := goodIn_app (goodIn_of _ (by decide +kernel)) ggX8_seek_X8_takeOperators
set_option maxRecDepth 20000 in
theorem ggX8_seek_X8_shift : GoodIn wsX8_seek wsX8_shift := goodIn_r _ [54, 55, 4, 56, 15, 16, 17, 97, 98, 99, 100, 101, 102, 103, 104, 105, 106] (by decide +kernel) (by decide +kernel)
set_option maxRecDepth 20000 in
theorem gX8_seek_X8_shift : GoodIn wsX8_seek (wsV RX8 76 RX8 yX8_shift wsX8_shift) := goodIn_app (goodIn_of _ (by decide +kernel)) ggX8_seek_X8_shift
set_option maxRecDepth 20000 in
theorem ggX8_seek_X8_explained : GoodIn wsX8_seek wsX8_explained := goodIn_r _ [60, 1, 55, 61, 62, 63, 64, 65, 66, 36, 67, 97, 98, 99, 100, 101, 102, 103, 104, 105, 106] (by decide +kernel) (by decide +kernel)
set_option maxRecDepth 20000 in
theorem gX8_seek_X8_explained : GoodIn wsX8_seek (wsV RX8 80 RX8 yX8_explained wsX8_explained) := goodIn_app (goodIn_of _ (by decide +kernel)) ggX8_seek_X8_explained
set_option maxRecDepth 20000 in
theorem ggX8_seek_X8_tell : GoodIn wsX8_seek wsX8_tell := goodIn_r _ [92, 1, 62, 77, 78, 76, 93, 94, 95, 96, 88, 35, 36, 37, 38, 97, 98, 99, 100, 101, 102, 103, 104, 105, 106, 111, 112, 113, 114, 115, 116, 117, 118] (by decide +kernel) (by decide +kernel)
set_option maxRecDepth 20000 in
theorem gX8_seek_X8_tell : GoodIn wsX8_seek (wsV RX8 84 RX8 yX8_tell wsX8_tell) := goodIn_app (goodIn_of _ (by decide +kernel)) ggX8_seek_X8_tell
set_option maxRecDepth 20000 in
theorem ggX8_seek_X8_keep : GoodIn wsX8_seek wsX8_keep := goodIn_r _ [75, 1, 61, 63, 55, 76, 77, 64, 62, 78, 79, 31, 32, 33, 80, 81, 82, 49, 83, 65, 66, 36, 67, 84, 85, 86, 87, 35, 37, 38, 88, 97, 98, 99, 100, 101, 102, 103, 104, 105, 106] (by decide +kernel) (by decide +kernel)
set_option maxRecDepth 20000 in
theorem gX8_seek_X8_keep : GoodIn wsX8_seek (wsV RX8 88 RX8 yX8_keep wsX8_keep) := goodIn_app (goodIn_of _ (by decide +kernel)) ggX8_seek_X8_keep
theorem dX8_seek_0 : decode cX8_seek 0 = .ok (.aload_n 0, 1) := by decide +kernel
theorem dX8_seek_1 : decode cX8_seek 1 = .ok (.iconst 0, 1) := by decide +kernel
theorem dX8_seek_2 : decode cX8_seek 2 = .ok (.putfield 43, 3) := by decide +kernel
theorem dX8_seek_5 : decode cX8_seek 5 = .ok (.aload_n 2, 1) := by decide +kernel
theorem dX8_seek_6 : decode cX8_seek 6 = .ok (.getfield 47, 3) := by decide +kernel
theorem dX8_seek_9 : decode cX8_seek 9 = .ok (.invokevirtual 53, 3) := by decide +kernel
theorem dX8_seek_12 : decode cX8_seek 12 = .ok (.aload_n 1, 1) := by decide +kernel
theorem dX8_seek_13 : decode cX8_seek 13 = .ok (.invokevirtual 58, 3) := by decide +kernel
theorem dX8_seek_16 : decode cX8_seek 16 = .ok (.iconst 0, 1) := by decide +kernel
theorem dX8_seek_17 : decode cX8_seek 17 = .ok (.istore 6, 2) := by decide +kernel
theorem dX8_seek_19 : decode cX8_seek 19 = .ok (.iload 6, 2) := by decide +kernel
theorem dX8_seek_21 : decode cX8_seek 21 = .ok (.iload_n 3, 1) := by decide +kernel
theorem dX8_seek_22 : decode cX8_seek 22 = .ok (.if_icmp .gt 52, 3) := by decide +kernel
theorem dX8_seek_25 : decode cX8_seek 25 = .ok (.iload 6, 2) := by decide +kernel
theorem dX8_seek_27 : decode cX8_seek 27 = .ok (.ifCond .le 15, 3) := by decide +kernel
theorem dX8_seek_30 : decode cX8_seek 30 = .ok (.aload_n 1, 1) := by decide +kernel
theorem dX8_seek_31 : decode cX8_seek 31 = .ok (.aload_n 2, 1) := by decide +kernel
theorem dX8_seek_32 : decode cX8_seek 32 = .ok (.getfield 61, 3) := by decide +kernel
theorem dX8_seek_35 : decode cX8_seek 35 = .ok (.iload 6, 2) := by decide +kernel
theorem dX8_seek_37 : decode cX8_seek 37 = .ok (.iconst 1, 1) := by decide +kernel
theorem dX8_seek_38 : decode cX8_seek 38 = .ok (.isub, 1) := by decide +kernel
theorem dX8_seek_39 : decode cX8_seek 39 = .ok (.invokevirtual 64, 3) := by decide +kernel
theorem dX8_seek_42 : decode cX8_seek 42 = .ok (.aload_n 1, 1) := by decide +kernel
theorem dX8_seek_43 : decode cX8_seek 43 = .ok (.aload_n 0, 1) := by decide +kernel
theorem dX8_seek_44 : decode cX8_seek 44 = .ok (.getfield 40, 3) := by decide +kernel
theorem dX8_seek_47 : decode cX8_seek 47 = .ok (.aload_n 2, 1) := by decide +kernel
theorem dX8_seek_48 : decode cX8_seek 48 = .ok (.getfield 61, 3) := by decide +kernel
theorem dX8_seek_51 : decode cX8_seek 51 = .ok (.iload_n 3, 1) := by decide +kernel
theorem dX8_seek_52 : decode cX8_seek 52 = .ok (.iload 6, 2) := by decide +kernel
theorem dX8_seek_54 : decode cX8_seek 54 = .ok (.isub, 1) := by decide +kernel
theorem dX8_seek_55 : decode cX8_seek 55 = .ok (.invokevirtual 68, 3) := by decide +kernel
theorem dX8_seek_58 : decode cX8_seek 58 = .ok (.aload_n 0, 1) := by decide +kernel
theorem dX8_seek_59 : decode cX8_seek 59 = .ok (.iload 6, 2) := by decide +kernel
theorem dX8_seek_61 : decode cX8_seek 61 = .ok (.iload 4, 2) := by decide +kernel
theorem dX8_seek_63 : decode cX8_seek 63 = .ok (.iload 5, 2) := by decide +kernel
theorem dX8_seek_65 : decode cX8_seek 65 = .ok (.invokevirtual 72, 3) := by decide +kernel
theorem dX8_seek_68 : decode cX8_seek 68 = .ok (.iinc 6 1, 3) := by decide +kernel
theorem dX8_seek_71 : decode cX8_seek 71 = .ok (.goto (-52), 3) := by decide +kernel
theorem dX8_seek_74 : decode cX8_seek 74 = .ok (.aload_n 1, 1) := by decide +kernel
theorem dX8_seek_75 : decode cX8_seek 75 = .ok (.invokevirtual 58, 3) := by decide +kernel
theorem dX8_seek_78 : decode cX8_seek 78 = .ok (.aload_n 1, 1) := by decide +kernel
theorem dX8_seek_79 : decode cX8_seek 79 = .ok (.aload_n 0, 1) := by decide +kernel
theorem dX8_seek_80 : decode cX8_seek 80 = .ok (.getfield 40, 3) := by decide +kernel
theorem dX8_seek_83 : decode cX8_seek 83 = .ok (.aload_n 2, 1) := by decide +kernel
theorem dX8_seek_84 : decode cX8_seek 84 = .ok (.getfield 61, 3) := by decide +kernel
theorem dX8_seek_87 : decode cX8_seek 87 = .ok (.iload_n 3, 1) := by decide +kernel
theorem dX8_seek_88 : decode cX8_seek 88 = .ok (.iconst 1, 1) := by decide +kernel
theorem dX8_seek_89 : decode cX8_seek 89 = .ok (.isub, 1) := by decide +kernel
theorem dX8_seek_90 : decode cX8_seek 90 = .ok (.invokevirtual 68, 3) := by decide +kernel
theorem dX8_seek_93 : decode cX8_seek 93 = .ok (.iconst 0, 1) := by decide +kernel
theorem dX8_seek_94 : decode cX8_seek 94 = .ok (.istore 6, 2) := by decide +kernel
theorem dX8_seek_96 : decode cX8_seek 96 = .ok (.iload 6, 2) := by decide +kernel
theorem dX8_seek_98 : decode cX8_seek 98 = .ok (.bipush 9, 2) := by decide +kernel
theorem dX8_seek_100 : decode cX8_seek 100 = .ok (.if_icmp .ge 44, 3) := by decide +kernel
theorem dX8_seek_103 : decode cX8_seek 103 = .ok (.aload_n 0, 1) := by decide +kernel
theorem dX8_seek_104 : decode cX8_seek 104 = .ok (.iconst 0, 1) := by decide +kernel
theorem dX8_seek_105 : decode cX8_seek 105 = .ok (.iload 6, 2) := by decide +kernel
theorem dX8_seek_107 : decode cX8_seek 107 = .ok (.invokevirtual 76, 3) := by decide +kernel
theorem dX8_seek_110 : decode cX8_seek 110 = .ok (.aload_n 0, 1) := by decide +kernel
theorem dX8_seek_111 : decode cX8_seek 111 = .ok (.invokevirtual 80, 3) := by decide +kernel
theorem dX8_seek_114 : decode cX8_seek 114 = .ok (.ifCond .eq 15, 3) := by decide +kernel
theorem dX8_seek_117 : decode cX8_seek 117 = .ok (.aload_n 0, 1) := by decide +kernel
theorem dX8_seek_118 : decode cX8_seek 118 = .ok (.aload_n 2, 1) := by decide +kernel
theorem dX8_seek_119 : decode cX8_seek 119 = .ok (.getfield 47, 3) := by decide +kernel
theorem dX8_seek_122 : decode cX8_seek 122 = .ok (.iload 6, 2) := by decide +kernel
theorem dX8_seek_124 : decode cX8_seek 124 = .ok (.invokevirtual 84, 3) := by decide +kernel
theorem dX8_seek_127 : decode cX8_seek 127 = .ok (.iconst 1, 1) := by decide +kernel
theorem dX8_seek_128 : decode cX8_seek 128 = .ok (.ireturn, 1) := by decide +kernel
theorem dX8_seek_129 : decode cX8_seek 129 = .ok (.aload_n 0, 1) := by decide +kernel
theorem dX8_seek_130 : decode cX8_seek 130 = .ok (.bipush 75, 2) := by decide +kernel
theorem dX8_seek_132 : decode cX8_seek 132 = .ok (.iload 6, 2) := by decide +kernel
theorem dX8_seek_134 : decode cX8_seek 134 = .ok (.iadd, 1) := by decide +kernel
theorem dX8_seek_135 : decode cX8_seek 135 = .ok (.invokevirtual 88, 3) := by decide +kernel
theorem dX8_seek_138 : decode cX8_seek 138 = .ok (.iinc 6 1, 3) := by decide +kernel
theorem dX8_seek_141 : decode cX8_seek 141 = .ok (.goto (-45), 3) := by decide +kernel
theorem dX8_seek_144 : decode cX8_seek 144 = .ok (.iconst 0, 1) := by decide +kernel
theorem dX8_seek_145 : decode cX8_seek 145 = .ok (.ireturn, 1) := by decide +kernel
set_option maxRecDepth 20000 in
theorem ggX8_takeOperators_X8_shift : GoodIn wsX8_takeOperators wsX8_shift := goodIn_r _ [5, 6, 7, 8, 9, 10, 11, 52, 53, 54, 55, 56, 57, 58, 59, 60, 61] (by decide +kernel) (by decide +kernel)
set_option maxRecDepth 20000 in
theorem gX8_takeOperators_X8_shift : GoodIn wsX8_takeOperators (wsV RX8 76 RX8 yX8_shift wsX8_shift) := goodIn_app (goodIn_of _ (by decide +kernel)) ggX8_takeOperators_X8_shift
set_option maxRecDepth 20000 in
theorem ggX8_takeOperators_X8_explained : GoodIn wsX8_takeOperators wsX8_explained := goodIn_r _ [15, 16, 6, 17, 18, 19, 20, 21, 22, 23, 24, 52, 53, 54, 55, 56, 57, 58, 59, 60, 61] (by decide +kernel) (by decide +kernel)
set_option maxRecDepth 20000 in
theorem gX8_takeOperators_X8_explained : GoodIn wsX8_takeOperators (wsV RX8 80 RX8 yX8_explained wsX8_explained) := goodIn_app (goodIn_of _ (by decide +kernel)) ggX8_takeOperators_X8_explained
set_option maxRecDepth 20000 in
theorem ggX8_takeOperators_X4_index : GoodIn wsX8_takeOperators wsX4_index := goodIn_r _ [28] (by decide +kernel) (by decide +kernel)
set_option maxRecDepth 20000 in
theorem gX8_takeOperators_X4_index : GoodIn wsX8_takeOperators (va_wsS RX8 92 yX4_index wsX4_index) := goodIn_app (goodIn_of _ (by decide +kernel)) ggX8_takeOperators_X4_index
set_option maxRecDepth 20000 in
theorem ggX8_takeOperators_X8_keep : GoodIn wsX8_takeOperators wsX8_keep := goodIn_r _ [32, 16, 17, 19, 6, 33, 34, 20, 18, 35, 36, 37, 38, 39, 40, 41, 42, 4, 43, 21, 22, 23, 24, 44, 45, 46, 47, 48, 49, 50, 51, 52, 53, 54, 55, 56, 57, 58, 59, 60, 61] (by decide +kernel) (by decide +kernel)
set_option maxRecDepth 20000 in
theorem gX8_takeOperators_X8_keep : GoodIn wsX8_takeOperators (wsV RX8 88 RX8 yX8_keep wsX8_keep) := goodIn_app (goodIn_of _ (by decide +kernel)) ggX8_takeOperators_X8_keep
theorem dX8_takeOperators_0 : decode cX8_takeOperators 0 = .ok (.iconst 0, 1) := by decide +kernel
theorem dX8_takeOperators_1 : decode cX8_takeOperators 1 = .ok (.istore 4, 2) := by decide +kernel
theorem dX8_takeOperators_3 : decode cX8_takeOperators 3 = .ok (.iload 4, 2) := by decide +kernel
theorem dX8_takeOperators_5 : decode cX8_takeOperators 5 = .ok (.iload_n 2, 1) := by decide +kernel
theorem dX8_takeOperators_6 : decode cX8_takeOperators 6 = .ok (.if_icmp .gt 51, 3) := by decide +kernel
theorem dX8_takeOperators_9 : decode cX8_takeOperators 9 = .ok (.iconst 0, 1) := by decide +kernel
theorem dX8_takeOperators_10 : decode cX8_takeOperators 10 = .ok (.istore 5, 2) := by decide +kernel
theorem dX8_takeOperators_12 : decode cX8_takeOperators 12 = .ok (.iload 5, 2) := by decide +kernel
theorem dX8_takeOperators_14 : decode cX8_takeOperators 14 = .ok (.iload_n 3, 1) := by decide +kernel
theorem dX8_takeOperators_15 : decode cX8_takeOperators 15 = .ok (.if_icmp .gt 36, 3) := by decide +kernel
theorem dX8_takeOperators_18 : decode cX8_takeOperators 18 = .ok (.aload_n 0, 1) := by decide +kernel
theorem dX8_takeOperators_19 : decode cX8_takeOperators 19 = .ok (.iload 4, 2) := by decide +kernel
theorem dX8_takeOperators_21 : decode cX8_takeOperators 21 = .ok (.iload 5, 2) := by decide +kernel
theorem dX8_takeOperators_23 : decode cX8_takeOperators 23 = .ok (.invokevirtual 76, 3) := by decide +kernel
theorem dX8_takeOperators_26 : decode cX8_takeOperators 26 = .ok (.aload_n 0, 1) := by decide +kernel
theorem dX8_takeOperators_27 : decode cX8_takeOperators 27 = .ok (.invokevirtual 80, 3) := by decide +kernel
theorem dX8_takeOperators_30 : decode cX8_takeOperators 30 = .ok (.ifCond .ne 15, 3) := by decide +kernel
theorem dX8_takeOperators_33 : decode cX8_takeOperators 33 = .ok (.aload_n 0, 1) := by decide +kernel
theorem dX8_takeOperators_34 : decode cX8_takeOperators 34 = .ok (.iload_n 1, 1) := by decide +kernel
theorem dX8_takeOperators_35 : decode cX8_takeOperators 35 = .ok (.iload 4, 2) := by decide +kernel
theorem dX8_takeOperators_37 : decode cX8_takeOperators 37 = .ok (.iload 5, 2) := by decide +kernel
theorem dX8_takeOperators_39 : decode cX8_takeOperators 39 = .ok (.invokestatic 92, 3) := by decide +kernel
theorem dX8_takeOperators_42 : decode cX8_takeOperators 42 = .ok (.invokevirtual 88, 3) := by decide +kernel
theorem dX8_takeOperators_45 : decode cX8_takeOperators 45 = .ok (.iinc 5 1, 3) := by decide +kernel
theorem dX8_takeOperators_48 : decode cX8_takeOperators 48 = .ok (.goto (-36), 3) := by decide +kernel
theorem dX8_takeOperators_51 : decode cX8_takeOperators 51 = .ok (.iinc 4 1, 3) := by decide +kernel
theorem dX8_takeOperators_54 : decode cX8_takeOperators 54 = .ok (.goto (-51), 3) := by decide +kernel
theorem dX8_takeOperators_57 : decode cX8_takeOperators 57 = .ok (.return_, 1) := by decide +kernel
set_option maxRecDepth 20000 in
theorem ggX8_shift_J7_fill_53178 : GoodIn wsX8_shift wsJ7_fill_53178 := goodIn_r _ [6] (by decide +kernel) (by decide +kernel)
set_option maxRecDepth 20000 in
theorem gX8_shift_J7_fill_53178 : GoodIn wsX8_shift (va_wsS RX8 96 yJ7_fill_53178 wsJ7_fill_53178) := goodIn_app (goodIn_of _ (by decide +kernel)) ggX8_shift_J7_fill_53178
theorem dX8_shift_0 : decode cX8_shift 0 = .ok (.aload_n 0, 1) := by decide +kernel
theorem dX8_shift_1 : decode cX8_shift 1 = .ok (.getfield 34, 3) := by decide +kernel
theorem dX8_shift_4 : decode cX8_shift 4 = .ok (.iconst 0, 1) := by decide +kernel
theorem dX8_shift_5 : decode cX8_shift 5 = .ok (.invokestatic 96, 3) := by decide +kernel
theorem dX8_shift_8 : decode cX8_shift 8 = .ok (.iload_n 1, 1) := by decide +kernel
theorem dX8_shift_9 : decode cX8_shift 9 = .ok (.istore_n 3, 1) := by decide +kernel
theorem dX8_shift_10 : decode cX8_shift 10 = .ok (.iload_n 3, 1) := by decide +kernel
theorem dX8_shift_11 : decode cX8_shift 11 = .ok (.bipush 25, 2) := by decide +kernel
theorem dX8_shift_13 : decode cX8_shift 13 = .ok (.if_icmp .ge 53, 3) := by decide +kernel
theorem dX8_shift_16 : decode cX8_shift 16 = .ok (.iload_n 2, 1) := by decide +kernel
theorem dX8_shift_17 : decode cX8_shift 17 = .ok (.istore 4, 2) := by decide +kernel
theorem dX8_shift_19 : decode cX8_shift 19 = .ok (.iload 4, 2) := by decide +kernel
theorem dX8_shift_21 : decode cX8_shift 21 = .ok (.bipush 9, 2) := by decide +kernel
theorem dX8_shift_23 : decode cX8_shift 23 = .ok (.if_icmp .ge 37, 3) := by decide +kernel
theorem dX8_shift_26 : decode cX8_shift 26 = .ok (.aload_n 0, 1) := by decide +kernel
theorem dX8_shift_27 : decode cX8_shift 27 = .ok (.getfield 34, 3) := by decide +kernel
theorem dX8_shift_30 : decode cX8_shift 30 = .ok (.iload_n 3, 1) := by decide +kernel
theorem dX8_shift_31 : decode cX8_shift 31 = .ok (.bipush 9, 2) := by decide +kernel
theorem dX8_shift_33 : decode cX8_shift 33 = .ok (.imul, 1) := by decide +kernel
theorem dX8_shift_34 : decode cX8_shift 34 = .ok (.iload 4, 2) := by decide +kernel
theorem dX8_shift_36 : decode cX8_shift 36 = .ok (.iadd, 1) := by decide +kernel
theorem dX8_shift_37 : decode cX8_shift 37 = .ok (.aload_n 0, 1) := by decide +kernel
theorem dX8_shift_38 : decode cX8_shift 38 = .ok (.getfield 40, 3) := by decide +kernel
theorem dX8_shift_41 : decode cX8_shift 41 = .ok (.iload_n 3, 1) := by decide +kernel
theorem dX8_shift_42 : decode cX8_shift 42 = .ok (.iload_n 1, 1) := by decide +kernel
theorem dX8_shift_43 : decode cX8_shift 43 = .ok (.isub, 1) := by decide +kernel
theorem dX8_shift_44 : decode cX8_shift 44 = .ok (.bipush 9, 2) := by decide +kernel
theorem dX8_shift_46 : decode cX8_shift 46 = .ok (.imul, 1) := by decide +kernel
theorem dX8_shift_47 : decode cX8_shift 47 = .ok (.iload 4, 2) := by decide +kernel
theorem dX8_shift_49 : decode cX8_shift 49 = .ok (.iadd, 1) := by decide +kernel
theorem dX8_shift_50 : decode cX8_shift 50 = .ok (.iload_n 2, 1) := by decide +kernel
theorem dX8_shift_51 : decode cX8_shift 51 = .ok (.isub, 1) := by decide +kernel
theorem dX8_shift_52 : decode cX8_shift 52 = .ok (.iaload, 1) := by decide +kernel
theorem dX8_shift_53 : decode cX8_shift 53 = .ok (.iastore, 1) := by decide +kernel
theorem dX8_shift_54 : decode cX8_shift 54 = .ok (.iinc 4 1, 3) := by decide +kernel
theorem dX8_shift_57 : decode cX8_shift 57 = .ok (.goto (-38), 3) := by decide +kernel
theorem dX8_shift_60 : decode cX8_shift 60 = .ok (.iinc 3 1, 3) := by decide +kernel
theorem dX8_shift_63 : decode cX8_shift 63 = .ok (.goto (-53), 3) := by decide +kernel
theorem dX8_shift_66 : decode cX8_shift 66 = .ok (.return_, 1) := by decide +kernel
set_option maxRecDepth 20000 in
theorem ggX8_explained_X3_highest : GoodIn wsX8_explained wsX3_highest := goodIn_r _ [10] (by decide +kernel) (by decide +kernel)
set_option maxRecDepth 20000 in
theorem gX8_explained_X3_highest : GoodIn wsX8_explained (va_wsS RX8 101 yX3_highest wsX3_highest) := goodIn_app (goodIn_of _ (by decide +kernel)) ggX8_explained_X3_highest
theorem dX8_explained_0 : decode cX8_explained 0 = .ok (.iconst 0, 1) := by decide +kernel
theorem dX8_explained_1 : decode cX8_explained 1 = .ok (.istore_n 1, 1) := by decide +kernel
theorem dX8_explained_2 : decode cX8_explained 2 = .ok (.iload_n 1, 1) := by decide +kernel
theorem dX8_explained_3 : decode cX8_explained 3 = .ok (.aload_n 0, 1) := by decide +kernel
theorem dX8_explained_4 : decode cX8_explained 4 = .ok (.getfield 43, 3) := by decide +kernel
theorem dX8_explained_7 : decode cX8_explained 7 = .ok (.if_icmp .ge 93, 3) := by decide +kernel
theorem dX8_explained_10 : decode cX8_explained 10 = .ok (.aload_n 0, 1) := by decide +kernel
theorem dX8_explained_11 : decode cX8_explained 11 = .ok (.getfield 34, 3) := by decide +kernel
theorem dX8_explained_14 : decode cX8_explained 14 = .ok (.aload_n 0, 1) := by decide +kernel
theorem dX8_explained_15 : decode cX8_explained 15 = .ok (.getfield 19, 3) := by decide +kernel
theorem dX8_explained_18 : decode cX8_explained 18 = .ok (.iload_n 1, 1) := by decide +kernel
theorem dX8_explained_19 : decode cX8_explained 19 = .ok (.iaload, 1) := by decide +kernel
theorem dX8_explained_20 : decode cX8_explained 20 = .ok (.iaload, 1) := by decide +kernel
theorem dX8_explained_21 : decode cX8_explained 21 = .ok (.istore_n 2, 1) := by decide +kernel
theorem dX8_explained_22 : decode cX8_explained 22 = .ok (.aload_n 0, 1) := by decide +kernel
theorem dX8_explained_23 : decode cX8_explained 23 = .ok (.getfield 37, 3) := by decide +kernel
theorem dX8_explained_26 : decode cX8_explained 26 = .ok (.iload_n 1, 1) := by decide +kernel
theorem dX8_explained_27 : decode cX8_explained 27 = .ok (.iload_n 2, 1) := by decide +kernel
theorem dX8_explained_28 : decode cX8_explained 28 = .ok (.iastore, 1) := by decide +kernel
theorem dX8_explained_29 : decode cX8_explained 29 = .ok (.iload_n 2, 1) := by decide +kernel
theorem dX8_explained_30 : decode cX8_explained 30 = .ok (.ifCond .eq 64, 3) := by decide +kernel
theorem dX8_explained_33 : decode cX8_explained 33 = .ok (.iload_n 1, 1) := by decide +kernel
theorem dX8_explained_34 : decode cX8_explained 34 = .ok (.sipush 225, 3) := by decide +kernel
theorem dX8_explained_37 : decode cX8_explained 37 = .ok (.imul, 1) := by decide +kernel
theorem dX8_explained_38 : decode cX8_explained 38 = .ok (.istore_n 3, 1) := by decide +kernel
theorem dX8_explained_39 : decode cX8_explained 39 = .ok (.aload_n 0, 1) := by decide +kernel
theorem dX8_explained_40 : decode cX8_explained 40 = .ok (.getfield 19, 3) := by decide +kernel
theorem dX8_explained_43 : decode cX8_explained 43 = .ok (.iload_n 1, 1) := by decide +kernel
theorem dX8_explained_44 : decode cX8_explained 44 = .ok (.iaload, 1) := by decide +kernel
theorem dX8_explained_45 : decode cX8_explained 45 = .ok (.istore 4, 2) := by decide +kernel
theorem dX8_explained_47 : decode cX8_explained 47 = .ok (.iload 4, 2) := by decide +kernel
theorem dX8_explained_49 : decode cX8_explained 49 = .ok (.aload_n 0, 1) := by decide +kernel
theorem dX8_explained_50 : decode cX8_explained 50 = .ok (.getfield 22, 3) := by decide +kernel
theorem dX8_explained_53 : decode cX8_explained 53 = .ok (.iload_n 1, 1) := by decide +kernel
theorem dX8_explained_54 : decode cX8_explained 54 = .ok (.iaload, 1) := by decide +kernel
theorem dX8_explained_55 : decode cX8_explained 55 = .ok (.if_icmp .gt 39, 3) := by decide +kernel
theorem dX8_explained_58 : decode cX8_explained 58 = .ok (.aload_n 0, 1) := by decide +kernel
theorem dX8_explained_59 : decode cX8_explained 59 = .ok (.getfield 34, 3) := by decide +kernel
theorem dX8_explained_62 : decode cX8_explained 62 = .ok (.iload 4, 2) := by decide +kernel
theorem dX8_explained_64 : decode cX8_explained 64 = .ok (.aload_n 0, 1) := by decide +kernel
theorem dX8_explained_65 : decode cX8_explained 65 = .ok (.getfield 34, 3) := by decide +kernel
theorem dX8_explained_68 : decode cX8_explained 68 = .ok (.iload 4, 2) := by decide +kernel
theorem dX8_explained_70 : decode cX8_explained 70 = .ok (.iaload, 1) := by decide +kernel
theorem dX8_explained_71 : decode cX8_explained 71 = .ok (.iload_n 2, 1) := by decide +kernel
theorem dX8_explained_72 : decode cX8_explained 72 = .ok (.aload_n 0, 1) := by decide +kernel
theorem dX8_explained_73 : decode cX8_explained 73 = .ok (.getfield 15, 3) := by decide +kernel
theorem dX8_explained_76 : decode cX8_explained 76 = .ok (.iload_n 3, 1) := by decide +kernel
theorem dX8_explained_77 : decode cX8_explained 77 = .ok (.iload 4, 2) := by decide +kernel
theorem dX8_explained_79 : decode cX8_explained 79 = .ok (.iadd, 1) := by decide +kernel
theorem dX8_explained_80 : decode cX8_explained 80 = .ok (.iaload, 1) := by decide +kernel
theorem dX8_explained_81 : decode cX8_explained 81 = .ok (.imul, 1) := by decide +kernel
theorem dX8_explained_82 : decode cX8_explained 82 = .ok (.isub, 1) := by decide +kernel
theorem dX8_explained_83 : decode cX8_explained 83 = .ok (.sipush 10007, 3) := by decide +kernel
theorem dX8_explained_86 : decode cX8_explained 86 = .ok (.irem, 1) := by decide +kernel
theorem dX8_explained_87 : decode cX8_explained 87 = .ok (.iastore, 1) := by decide +kernel
theorem dX8_explained_88 : decode cX8_explained 88 = .ok (.iinc 4 1, 3) := by decide +kernel
theorem dX8_explained_91 : decode cX8_explained 91 = .ok (.goto (-44), 3) := by decide +kernel
theorem dX8_explained_94 : decode cX8_explained 94 = .ok (.iinc 1 1, 3) := by decide +kernel
theorem dX8_explained_97 : decode cX8_explained 97 = .ok (.goto (-95), 3) := by decide +kernel
theorem dX8_explained_100 : decode cX8_explained 100 = .ok (.aload_n 0, 1) := by decide +kernel
theorem dX8_explained_101 : decode cX8_explained 101 = .ok (.getfield 34, 3) := by decide +kernel
theorem dX8_explained_104 : decode cX8_explained 104 = .ok (.invokestatic 101, 3) := by decide +kernel
theorem dX8_explained_107 : decode cX8_explained 107 = .ok (.ifCond .ge 7, 3) := by decide +kernel
theorem dX8_explained_110 : decode cX8_explained 110 = .ok (.iconst 1, 1) := by decide +kernel
theorem dX8_explained_111 : decode cX8_explained 111 = .ok (.goto 4, 3) := by decide +kernel
theorem dX8_explained_114 : decode cX8_explained 114 = .ok (.iconst 0, 1) := by decide +kernel
theorem dX8_explained_115 : decode cX8_explained 115 = .ok (.ireturn, 1) := by decide +kernel
set_option maxRecDepth 20000 in
theorem ggX8_keep_X8_firstOther : GoodIn wsX8_keep wsX8_firstOther := goodIn_r _ [18, 4, 31, 32, 33, 34, 35, 36, 37, 38, 39, 40] (by decide +kernel) (by decide +kernel)
set_option maxRecDepth 20000 in
theorem gX8_keep_X8_firstOther : GoodIn wsX8_keep (wsV RX8 107 RX8 yX8_firstOther wsX8_firstOther) := goodIn_app (goodIn_of _ (by decide +kernel)) ggX8_keep_X8_firstOther
set_option maxRecDepth 20000 in
theorem ggX8_keep_X3_highest : GoodIn wsX8_keep wsX3_highest := goodIn_r _ [22] (by decide +kernel) (by decide +kernel)
set_option maxRecDepth 20000 in
theorem gX8_keep_X3_highest : GoodIn wsX8_keep (va_wsS RX8 101 yX3_highest wsX3_highest) := goodIn_app (goodIn_of _ (by decide +kernel)) ggX8_keep_X3_highest
set_option maxRecDepth 20000 in
theorem ggX8_keep_X3_inverse : GoodIn wsX8_keep wsX3_inverse := goodIn_r _ [25, 26, 27, 21, 28, 29] (by decide +kernel) (by decide +kernel)
set_option maxRecDepth 20000 in
theorem gX8_keep_X3_inverse : GoodIn wsX8_keep (va_wsS RX8 111 yX3_inverse wsX3_inverse) := goodIn_app (goodIn_of _ (by decide +kernel)) ggX8_keep_X3_inverse
set_option maxRecDepth 20000 in
theorem ggX8_keep_X3_fold : GoodIn wsX8_keep wsX3_fold := goodIn_r _ [28, 29] (by decide +kernel) (by decide +kernel)
set_option maxRecDepth 20000 in
theorem gX8_keep_X3_fold : GoodIn wsX8_keep (va_wsS RX8 115 yX3_fold wsX3_fold) := goodIn_app (goodIn_of _ (by decide +kernel)) ggX8_keep_X3_fold
theorem dX8_keep_0 : decode cX8_keep 0 = .ok (.aload_n 0, 1) := by decide +kernel
theorem dX8_keep_1 : decode cX8_keep 1 = .ok (.invokevirtual 107, 3) := by decide +kernel
theorem dX8_keep_4 : decode cX8_keep 4 = .ok (.istore_n 2, 1) := by decide +kernel
theorem dX8_keep_5 : decode cX8_keep 5 = .ok (.aload_n 0, 1) := by decide +kernel
theorem dX8_keep_6 : decode cX8_keep 6 = .ok (.getfield 43, 3) := by decide +kernel
theorem dX8_keep_9 : decode cX8_keep 9 = .ok (.bipush 84, 2) := by decide +kernel
theorem dX8_keep_11 : decode cX8_keep 11 = .ok (.if_icmp .ge 7, 3) := by decide +kernel
theorem dX8_keep_14 : decode cX8_keep 14 = .ok (.iload_n 2, 1) := by decide +kernel
theorem dX8_keep_15 : decode cX8_keep 15 = .ok (.ifCond .ge 4, 3) := by decide +kernel
theorem dX8_keep_18 : decode cX8_keep 18 = .ok (.return_, 1) := by decide +kernel
theorem dX8_keep_19 : decode cX8_keep 19 = .ok (.aload_n 0, 1) := by decide +kernel
theorem dX8_keep_20 : decode cX8_keep 20 = .ok (.getfield 19, 3) := by decide +kernel
theorem dX8_keep_23 : decode cX8_keep 23 = .ok (.aload_n 0, 1) := by decide +kernel
theorem dX8_keep_24 : decode cX8_keep 24 = .ok (.getfield 43, 3) := by decide +kernel
theorem dX8_keep_27 : decode cX8_keep 27 = .ok (.iload_n 2, 1) := by decide +kernel
theorem dX8_keep_28 : decode cX8_keep 28 = .ok (.iastore, 1) := by decide +kernel
theorem dX8_keep_29 : decode cX8_keep 29 = .ok (.aload_n 0, 1) := by decide +kernel
theorem dX8_keep_30 : decode cX8_keep 30 = .ok (.getfield 22, 3) := by decide +kernel
theorem dX8_keep_33 : decode cX8_keep 33 = .ok (.aload_n 0, 1) := by decide +kernel
theorem dX8_keep_34 : decode cX8_keep 34 = .ok (.getfield 43, 3) := by decide +kernel
theorem dX8_keep_37 : decode cX8_keep 37 = .ok (.aload_n 0, 1) := by decide +kernel
theorem dX8_keep_38 : decode cX8_keep 38 = .ok (.getfield 34, 3) := by decide +kernel
theorem dX8_keep_41 : decode cX8_keep 41 = .ok (.invokestatic 101, 3) := by decide +kernel
theorem dX8_keep_44 : decode cX8_keep 44 = .ok (.iastore, 1) := by decide +kernel
theorem dX8_keep_45 : decode cX8_keep 45 = .ok (.aload_n 0, 1) := by decide +kernel
theorem dX8_keep_46 : decode cX8_keep 46 = .ok (.getfield 25, 3) := by decide +kernel
theorem dX8_keep_49 : decode cX8_keep 49 = .ok (.aload_n 0, 1) := by decide +kernel
theorem dX8_keep_50 : decode cX8_keep 50 = .ok (.getfield 43, 3) := by decide +kernel
theorem dX8_keep_53 : decode cX8_keep 53 = .ok (.iload_n 1, 1) := by decide +kernel
theorem dX8_keep_54 : decode cX8_keep 54 = .ok (.iastore, 1) := by decide +kernel
theorem dX8_keep_55 : decode cX8_keep 55 = .ok (.aload_n 0, 1) := by decide +kernel
theorem dX8_keep_56 : decode cX8_keep 56 = .ok (.getfield 28, 3) := by decide +kernel
theorem dX8_keep_59 : decode cX8_keep 59 = .ok (.aload_n 0, 1) := by decide +kernel
theorem dX8_keep_60 : decode cX8_keep 60 = .ok (.getfield 43, 3) := by decide +kernel
theorem dX8_keep_63 : decode cX8_keep 63 = .ok (.aload_n 0, 1) := by decide +kernel
theorem dX8_keep_64 : decode cX8_keep 64 = .ok (.getfield 34, 3) := by decide +kernel
theorem dX8_keep_67 : decode cX8_keep 67 = .ok (.iload_n 2, 1) := by decide +kernel
theorem dX8_keep_68 : decode cX8_keep 68 = .ok (.iaload, 1) := by decide +kernel
theorem dX8_keep_69 : decode cX8_keep 69 = .ok (.invokestatic 111, 3) := by decide +kernel
theorem dX8_keep_72 : decode cX8_keep 72 = .ok (.iastore, 1) := by decide +kernel
theorem dX8_keep_73 : decode cX8_keep 73 = .ok (.iconst 0, 1) := by decide +kernel
theorem dX8_keep_74 : decode cX8_keep 74 = .ok (.istore_n 3, 1) := by decide +kernel
theorem dX8_keep_75 : decode cX8_keep 75 = .ok (.iload_n 3, 1) := by decide +kernel
theorem dX8_keep_76 : decode cX8_keep 76 = .ok (.sipush 225, 3) := by decide +kernel
theorem dX8_keep_79 : decode cX8_keep 79 = .ok (.if_icmp .ge 45, 3) := by decide +kernel
theorem dX8_keep_82 : decode cX8_keep 82 = .ok (.aload_n 0, 1) := by decide +kernel
theorem dX8_keep_83 : decode cX8_keep 83 = .ok (.getfield 15, 3) := by decide +kernel
theorem dX8_keep_86 : decode cX8_keep 86 = .ok (.aload_n 0, 1) := by decide +kernel
theorem dX8_keep_87 : decode cX8_keep 87 = .ok (.getfield 43, 3) := by decide +kernel
theorem dX8_keep_90 : decode cX8_keep 90 = .ok (.sipush 225, 3) := by decide +kernel
theorem dX8_keep_93 : decode cX8_keep 93 = .ok (.imul, 1) := by decide +kernel
theorem dX8_keep_94 : decode cX8_keep 94 = .ok (.iload_n 3, 1) := by decide +kernel
theorem dX8_keep_95 : decode cX8_keep 95 = .ok (.iadd, 1) := by decide +kernel
theorem dX8_keep_96 : decode cX8_keep 96 = .ok (.aload_n 0, 1) := by decide +kernel
theorem dX8_keep_97 : decode cX8_keep 97 = .ok (.getfield 28, 3) := by decide +kernel
theorem dX8_keep_100 : decode cX8_keep 100 = .ok (.aload_n 0, 1) := by decide +kernel
theorem dX8_keep_101 : decode cX8_keep 101 = .ok (.getfield 43, 3) := by decide +kernel
theorem dX8_keep_104 : decode cX8_keep 104 = .ok (.iaload, 1) := by decide +kernel
theorem dX8_keep_105 : decode cX8_keep 105 = .ok (.i2l, 1) := by decide +kernel
theorem dX8_keep_106 : decode cX8_keep 106 = .ok (.aload_n 0, 1) := by decide +kernel
theorem dX8_keep_107 : decode cX8_keep 107 = .ok (.getfield 34, 3) := by decide +kernel
theorem dX8_keep_110 : decode cX8_keep 110 = .ok (.iload_n 3, 1) := by decide +kernel
theorem dX8_keep_111 : decode cX8_keep 111 = .ok (.iaload, 1) := by decide +kernel
theorem dX8_keep_112 : decode cX8_keep 112 = .ok (.i2l, 1) := by decide +kernel
theorem dX8_keep_113 : decode cX8_keep 113 = .ok (.lmul, 1) := by decide +kernel
theorem dX8_keep_114 : decode cX8_keep 114 = .ok (.invokestatic 115, 3) := by decide +kernel
