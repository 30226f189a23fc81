theorem dX11_plan_43 : decode cX11_plan 43 = .ok (.aload_n 0, 1) := by decide +kernel
theorem dX11_plan_44 : decode cX11_plan 44 = .ok (.getfield 12, 3) := by decide +kernel
theorem dX11_plan_47 : decode cX11_plan 47 = .ok (.getfield 218, 3) := by decide +kernel
theorem dX11_plan_50 : decode cX11_plan 50 = .ok (.iload_n 1, 1) := by decide +kernel
theorem dX11_plan_51 : decode cX11_plan 51 = .ok (.iload_n 2, 1) := by decide +kernel
theorem dX11_plan_52 : decode cX11_plan 52 = .ok (.invokevirtual 225, 3) := by decide +kernel
theorem dX11_plan_55 : decode cX11_plan 55 = .ok (.aload_n 0, 1) := by decide +kernel
theorem dX11_plan_56 : decode cX11_plan 56 = .ok (.getfield 12, 3) := by decide +kernel
theorem dX11_plan_59 : decode cX11_plan 59 = .ok (.getfield 218, 3) := by decide +kernel
theorem dX11_plan_62 : decode cX11_plan 62 = .ok (.getfield 222, 3) := by decide +kernel
theorem dX11_plan_65 : decode cX11_plan 65 = .ok (.ireturn, 1) := by decide +kernel
theorem dX11_unplan_0 : decode cX11_unplan 0 = .ok (.aload_n 0, 1) := by decide +kernel
theorem dX11_unplan_1 : decode cX11_unplan 1 = .ok (.getfield 12, 3) := by decide +kernel
theorem dX11_unplan_4 : decode cX11_unplan 4 = .ok (.getfield 218, 3) := by decide +kernel
theorem dX11_unplan_7 : decode cX11_unplan 7 = .ok (.getfield 222, 3) := by decide +kernel
theorem dX11_unplan_10 : decode cX11_unplan 10 = .ok (.istore_n 1, 1) := by decide +kernel
theorem dX11_unplan_11 : decode cX11_unplan 11 = .ok (.aload_n 0, 1) := by decide +kernel
theorem dX11_unplan_12 : decode cX11_unplan 12 = .ok (.getfield 12, 3) := by decide +kernel
theorem dX11_unplan_15 : decode cX11_unplan 15 = .ok (.getfield 218, 3) := by decide +kernel
theorem dX11_unplan_18 : decode cX11_unplan 18 = .ok (.iconst 0, 1) := by decide +kernel
theorem dX11_unplan_19 : decode cX11_unplan 19 = .ok (.putfield 222, 3) := by decide +kernel
theorem dX11_unplan_22 : decode cX11_unplan 22 = .ok (.iload_n 1, 1) := by decide +kernel
theorem dX11_unplan_23 : decode cX11_unplan 23 = .ok (.ireturn, 1) := by decide +kernel
set_option maxRecDepth 20000 in
theorem ggX11_run_X5_change : GoodIn wsX11_run wsX5_change := goodIn_r _ [8, 9, 10, 11, 12, 13, 7, 14, 15, 16, 17, 18, 19, 20, 21, 22, 23, 24, 25, 26, 27, 28, 29, 30, 31, 32, 52, 53, 54] (by decide +kernel) (by decide +kernel)
set_option maxRecDepth 20000 in
theorem gX11_run_X5_change : GoodIn wsX11_run (wsV RX11 228 RX5 yX5_change wsX5_change) := goodIn_app (goodIn_of _ (by decide +kernel)) ggX11_run_X5_change
set_option maxRecDepth 20000 in
theorem ggX11_run_X3_highest : GoodIn wsX11_run wsX3_highest := goodIn_r _ [35] (by decide +kernel) (by decide +kernel)
set_option maxRecDepth 20000 in
theorem gX11_run_X3_highest : GoodIn wsX11_run (va_wsS RX11 87 yX3_highest wsX3_highest) := goodIn_app (goodIn_of _ (by decide +kernel)) ggX11_run_X3_highest
theorem dX11_run_0 : decode cX11_run 0 = .ok (.aload_n 0, 1) := by decide +kernel
theorem dX11_run_1 : decode cX11_run 1 = .ok (.getfield 12, 3) := by decide +kernel
theorem dX11_run_4 : decode cX11_run 4 = .ok (.getfield 218, 3) := by decide +kernel
theorem dX11_run_7 : decode cX11_run 7 = .ok (.aload_n 0, 1) := by decide +kernel
theorem dX11_run_8 : decode cX11_run 8 = .ok (.getfield 12, 3) := by decide +kernel
theorem dX11_run_11 : decode cX11_run 11 = .ok (.getfield 83, 3) := by decide +kernel
theorem dX11_run_14 : decode cX11_run 14 = .ok (.invokevirtual 228, 3) := by decide +kernel
theorem dX11_run_17 : decode cX11_run 17 = .ok (.aload_n 0, 1) := by decide +kernel
theorem dX11_run_18 : decode cX11_run 18 = .ok (.getfield 12, 3) := by decide +kernel
theorem dX11_run_21 : decode cX11_run 21 = .ok (.getfield 83, 3) := by decide +kernel
theorem dX11_run_24 : decode cX11_run 24 = .ok (.invokestatic 87, 3) := by decide +kernel
theorem dX11_run_27 : decode cX11_run 27 = .ok (.ireturn, 1) := by decide +kernel
set_option maxRecDepth 20000 in
theorem ggX11_ahead_X11_within : GoodIn wsX11_ahead wsX11_within := goodIn_r _ [13] (by decide +kernel) (by decide +kernel)
set_option maxRecDepth 20000 in
theorem gX11_ahead_X11_within : GoodIn wsX11_ahead (va_wsS RX11 79 yX11_within wsX11_within) := goodIn_app (goodIn_of _ (by decide +kernel)) ggX11_ahead_X11_within
set_option maxRecDepth 20000 in
theorem ggX11_ahead_X5_change : GoodIn wsX11_ahead wsX5_change := goodIn_r _ [18, 19, 20, 21, 22, 23, 17, 24, 25, 26, 27, 28, 29, 30, 31, 32, 33, 34, 35, 36, 37, 38, 39, 40, 41, 42, 59, 60, 61] (by decide +kernel) (by decide +kernel)
set_option maxRecDepth 20000 in
theorem gX11_ahead_X5_change : GoodIn wsX11_ahead (wsV RX11 228 RX5 yX5_change wsX5_change) := goodIn_app (goodIn_of _ (by decide +kernel)) ggX11_ahead_X5_change
theorem dX11_ahead_0 : decode cX11_ahead 0 = .ok (.iload_n 1, 1) := by decide +kernel
theorem dX11_ahead_1 : decode cX11_ahead 1 = .ok (.iconst 0, 1) := by decide +kernel
theorem dX11_ahead_2 : decode cX11_ahead 2 = .ok (.iconst 4, 1) := by decide +kernel
theorem dX11_ahead_3 : decode cX11_ahead 3 = .ok (.invokestatic 79, 3) := by decide +kernel
theorem dX11_ahead_6 : decode cX11_ahead 6 = .ok (.ifCond .ne 5, 3) := by decide +kernel
theorem dX11_ahead_9 : decode cX11_ahead 9 = .ok (.iconst (-1), 1) := by decide +kernel
theorem dX11_ahead_10 : decode cX11_ahead 10 = .ok (.ireturn, 1) := by decide +kernel
theorem dX11_ahead_11 : decode cX11_ahead 11 = .ok (.aload_n 0, 1) := by decide +kernel
theorem dX11_ahead_12 : decode cX11_ahead 12 = .ok (.getfield 12, 3) := by decide +kernel
theorem dX11_ahead_15 : decode cX11_ahead 15 = .ok (.getfield 83, 3) := by decide +kernel
theorem dX11_ahead_18 : decode cX11_ahead 18 = .ok (.iconst 0, 1) := by decide +kernel
theorem dX11_ahead_19 : decode cX11_ahead 19 = .ok (.aload_n 0, 1) := by decide +kernel
theorem dX11_ahead_20 : decode cX11_ahead 20 = .ok (.getfield 72, 3) := by decide +kernel
theorem dX11_ahead_23 : decode cX11_ahead 23 = .ok (.iconst 0, 1) := by decide +kernel
theorem dX11_ahead_24 : decode cX11_ahead 24 = .ok (.iconst 5, 1) := by decide +kernel
theorem dX11_ahead_25 : decode cX11_ahead 25 = .ok (.invokestatic 232, 3) := by decide +kernel
theorem dX11_ahead_28 : decode cX11_ahead 28 = .ok (.aload_n 0, 1) := by decide +kernel
theorem dX11_ahead_29 : decode cX11_ahead 29 = .ok (.getfield 12, 3) := by decide +kernel
theorem dX11_ahead_32 : decode cX11_ahead 32 = .ok (.getfield 218, 3) := by decide +kernel
theorem dX11_ahead_35 : decode cX11_ahead 35 = .ok (.aload_n 0, 1) := by decide +kernel
theorem dX11_ahead_36 : decode cX11_ahead 36 = .ok (.getfield 72, 3) := by decide +kernel
theorem dX11_ahead_39 : decode cX11_ahead 39 = .ok (.invokevirtual 228, 3) := by decide +kernel
theorem dX11_ahead_42 : decode cX11_ahead 42 = .ok (.ldc 86, 2) := by decide +kernel
theorem dX11_ahead_44 : decode cX11_ahead 44 = .ok (.aload_n 0, 1) := by decide +kernel
theorem dX11_ahead_45 : decode cX11_ahead 45 = .ok (.getfield 72, 3) := by decide +kernel
theorem dX11_ahead_48 : decode cX11_ahead 48 = .ok (.iload_n 1, 1) := by decide +kernel
theorem dX11_ahead_49 : decode cX11_ahead 49 = .ok (.iaload, 1) := by decide +kernel
theorem dX11_ahead_50 : decode cX11_ahead 50 = .ok (.iadd, 1) := by decide +kernel
theorem dX11_ahead_51 : decode cX11_ahead 51 = .ok (.ireturn, 1) := by decide +kernel
set_option maxRecDepth 20000 in
theorem ggX11_rack_X11_within : GoodIn wsX11_rack wsX11_within := goodIn_r _ [5] (by decide +kernel) (by decide +kernel)
set_option maxRecDepth 20000 in
theorem gX11_rack_X11_within : GoodIn wsX11_rack (va_wsS RX11 79 yX11_within wsX11_within) := goodIn_app (goodIn_of _ (by decide +kernel)) ggX11_rack_X11_within
set_option maxRecDepth 20000 in
theorem ggX11_rack_X6_drop : GoodIn wsX11_rack wsX6_drop := goodIn_r _ [10, 11, 12, 30, 31, 32, 33] (by decide +kernel) (by decide +kernel)
set_option maxRecDepth 20000 in
theorem gX11_rack_X6_drop : GoodIn wsX11_rack (wsV RX11 238 RX6 yX6_drop wsX6_drop) := goodIn_app (goodIn_of _ (by decide +kernel)) ggX11_rack_X6_drop
set_option maxRecDepth 20000 in
theorem ggX11_rack_X6_make : GoodIn wsX11_rack wsX6_make := goodIn_r _ [16, 11, 12, 17, 30, 31, 32, 33] (by decide +kernel) (by decide +kernel)
set_option maxRecDepth 20000 in
theorem gX11_rack_X6_make : GoodIn wsX11_rack (wsV RX11 242 RX6 yX6_make wsX6_make) := goodIn_app (goodIn_of _ (by decide +kernel)) ggX11_rack_X6_make
theorem dX11_rack_0 : decode cX11_rack 0 = .ok (.iload_n 1, 1) := by decide +kernel
theorem dX11_rack_1 : decode cX11_rack 1 = .ok (.iconst 0, 1) := by decide +kernel
theorem dX11_rack_2 : decode cX11_rack 2 = .ok (.iconst 2, 1) := by decide +kernel
theorem dX11_rack_3 : decode cX11_rack 3 = .ok (.invokestatic 79, 3) := by decide +kernel
theorem dX11_rack_6 : decode cX11_rack 6 = .ok (.ifCond .eq 12, 3) := by decide +kernel
theorem dX11_rack_9 : decode cX11_rack 9 = .ok (.iload_n 2, 1) := by decide +kernel
theorem dX11_rack_10 : decode cX11_rack 10 = .ok (.iconst (-1), 1) := by decide +kernel
theorem dX11_rack_11 : decode cX11_rack 11 = .ok (.iconst 2, 1) := by decide +kernel
theorem dX11_rack_12 : decode cX11_rack 12 = .ok (.invokestatic 79, 3) := by decide +kernel
theorem dX11_rack_15 : decode cX11_rack 15 = .ok (.ifCond .ne 5, 3) := by decide +kernel
theorem dX11_rack_18 : decode cX11_rack 18 = .ok (.iconst (-1), 1) := by decide +kernel
theorem dX11_rack_19 : decode cX11_rack 19 = .ok (.ireturn, 1) := by decide +kernel
theorem dX11_rack_20 : decode cX11_rack 20 = .ok (.iload_n 2, 1) := by decide +kernel
theorem dX11_rack_21 : decode cX11_rack 21 = .ok (.iconst (-1), 1) := by decide +kernel
theorem dX11_rack_22 : decode cX11_rack 22 = .ok (.if_icmp .ne 13, 3) := by decide +kernel
theorem dX11_rack_25 : decode cX11_rack 25 = .ok (.aload_n 0, 1) := by decide +kernel
theorem dX11_rack_26 : decode cX11_rack 26 = .ok (.getfield 54, 3) := by decide +kernel
theorem dX11_rack_29 : decode cX11_rack 29 = .ok (.iload_n 1, 1) := by decide +kernel
theorem dX11_rack_30 : decode cX11_rack 30 = .ok (.invokevirtual 238, 3) := by decide +kernel
theorem dX11_rack_33 : decode cX11_rack 33 = .ok (.iconst 1, 1) := by decide +kernel
theorem dX11_rack_34 : decode cX11_rack 34 = .ok (.ireturn, 1) := by decide +kernel
theorem dX11_rack_35 : decode cX11_rack 35 = .ok (.iload_n 3, 1) := by decide +kernel
theorem dX11_rack_36 : decode cX11_rack 36 = .ok (.bipush 10, 2) := by decide +kernel
theorem dX11_rack_38 : decode cX11_rack 38 = .ok (.if_icmp .le 6, 3) := by decide +kernel
theorem dX11_rack_41 : decode cX11_rack 41 = .ok (.bipush (-2), 2) := by decide +kernel
theorem dX11_rack_43 : decode cX11_rack 43 = .ok (.ireturn, 1) := by decide +kernel
theorem dX11_rack_44 : decode cX11_rack 44 = .ok (.iload_n 3, 1) := by decide +kernel
theorem dX11_rack_45 : decode cX11_rack 45 = .ok (.ifCond .ge 6, 3) := by decide +kernel
theorem dX11_rack_48 : decode cX11_rack 48 = .ok (.bipush (-14), 2) := by decide +kernel
theorem dX11_rack_50 : decode cX11_rack 50 = .ok (.ireturn, 1) := by decide +kernel
theorem dX11_rack_51 : decode cX11_rack 51 = .ok (.aload_n 0, 1) := by decide +kernel
theorem dX11_rack_52 : decode cX11_rack 52 = .ok (.getfield 54, 3) := by decide +kernel
theorem dX11_rack_55 : decode cX11_rack 55 = .ok (.iload_n 1, 1) := by decide +kernel
theorem dX11_rack_56 : decode cX11_rack 56 = .ok (.iload_n 2, 1) := by decide +kernel
theorem dX11_rack_57 : decode cX11_rack 57 = .ok (.iload_n 3, 1) := by decide +kernel
theorem dX11_rack_58 : decode cX11_rack 58 = .ok (.invokevirtual 242, 3) := by decide +kernel
theorem dX11_rack_61 : decode cX11_rack 61 = .ok (.iconst 1, 1) := by decide +kernel
theorem dX11_rack_62 : decode cX11_rack 62 = .ok (.ireturn, 1) := by decide +kernel
set_option maxRecDepth 20000 in
theorem ggX11_store_X11_within : GoodIn wsX11_store wsX11_within := goodIn_r _ [7] (by decide +kernel) (by decide +kernel)
set_option maxRecDepth 20000 in
theorem gX11_store_X11_within : GoodIn wsX11_store (va_wsS RX11 79 yX11_within wsX11_within) := goodIn_app (goodIn_of _ (by decide +kernel)) ggX11_store_X11_within
set_option maxRecDepth 20000 in
theorem ggX11_store_X6_bring : GoodIn wsX11_store wsX6_bring := goodIn_r _ [12, 13, 14, 27, 28, 29, 30] (by decide +kernel) (by decide +kernel)
set_option maxRecDepth 20000 in
theorem gX11_store_X6_bring : GoodIn wsX11_store (wsV RX11 252 RX6 yX6_bring wsX6_bring) := goodIn_app (goodIn_of _ (by decide +kernel)) ggX11_store_X6_bring
theorem dX11_store_0 : decode cX11_store 0 = .ok (.iload_n 1, 1) := by decide +kernel
theorem dX11_store_1 : decode cX11_store 1 = .ok (.iconst 0, 1) := by decide +kernel
theorem dX11_store_2 : decode cX11_store 2 = .ok (.iconst 2, 1) := by decide +kernel
theorem dX11_store_3 : decode cX11_store 3 = .ok (.invokestatic 79, 3) := by decide +kernel
theorem dX11_store_6 : decode cX11_store 6 = .ok (.ifCond .eq 12, 3) := by decide +kernel
theorem dX11_store_9 : decode cX11_store 9 = .ok (.iload_n 3, 1) := by decide +kernel
theorem dX11_store_10 : decode cX11_store 10 = .ok (.iconst 0, 1) := by decide +kernel
theorem dX11_store_11 : decode cX11_store 11 = .ok (.iconst 2, 1) := by decide +kernel
theorem dX11_store_12 : decode cX11_store 12 = .ok (.invokestatic 79, 3) := by decide +kernel
theorem dX11_store_15 : decode cX11_store 15 = .ok (.ifCond .ne 5, 3) := by decide +kernel
theorem dX11_store_18 : decode cX11_store 18 = .ok (.iconst (-1), 1) := by decide +kernel
theorem dX11_store_19 : decode cX11_store 19 = .ok (.ireturn, 1) := by decide +kernel
theorem dX11_store_20 : decode cX11_store 20 = .ok (.aload_n 0, 1) := by decide +kernel
theorem dX11_store_21 : decode cX11_store 21 = .ok (.getfield 54, 3) := by decide +kernel
theorem dX11_store_24 : decode cX11_store 24 = .ok (.getfield 246, 3) := by decide +kernel
theorem dX11_store_27 : decode cX11_store 27 = .ok (.iload_n 1, 1) := by decide +kernel
theorem dX11_store_28 : decode cX11_store 28 = .ok (.iaload, 1) := by decide +kernel
theorem dX11_store_29 : decode cX11_store 29 = .ok (.iconst (-1), 1) := by decide +kernel
theorem dX11_store_30 : decode cX11_store 30 = .ok (.if_icmp .ne 6, 3) := by decide +kernel
theorem dX11_store_33 : decode cX11_store 33 = .ok (.bipush (-11), 2) := by decide +kernel
theorem dX11_store_35 : decode cX11_store 35 = .ok (.ireturn, 1) := by decide +kernel
theorem dX11_store_36 : decode cX11_store 36 = .ok (.iload_n 2, 1) := by decide +kernel
theorem dX11_store_37 : decode cX11_store 37 = .ok (.iconst 0, 1) := by decide +kernel
theorem dX11_store_38 : decode cX11_store 38 = .ok (.aload_n 0, 1) := by decide +kernel
theorem dX11_store_39 : decode cX11_store 39 = .ok (.getfield 54, 3) := by decide +kernel
theorem dX11_store_42 : decode cX11_store 42 = .ok (.getfield 249, 3) := by decide +kernel
theorem dX11_store_45 : decode cX11_store 45 = .ok (.iload_n 1, 1) := by decide +kernel
theorem dX11_store_46 : decode cX11_store 46 = .ok (.iaload, 1) := by decide +kernel
theorem dX11_store_47 : decode cX11_store 47 = .ok (.iconst 1, 1) := by decide +kernel
theorem dX11_store_48 : decode cX11_store 48 = .ok (.isub, 1) := by decide +kernel
theorem dX11_store_49 : decode cX11_store 49 = .ok (.invokestatic 79, 3) := by decide +kernel
theorem dX11_store_52 : decode cX11_store 52 = .ok (.ifCond .ne 6, 3) := by decide +kernel
theorem dX11_store_55 : decode cX11_store 55 = .ok (.bipush (-13), 2) := by decide +kernel
theorem dX11_store_57 : decode cX11_store 57 = .ok (.ireturn, 1) := by decide +kernel
theorem dX11_store_58 : decode cX11_store 58 = .ok (.aload_n 0, 1) := by decide +kernel
theorem dX11_store_59 : decode cX11_store 59 = .ok (.getfield 54, 3) := by decide +kernel
theorem dX11_store_62 : decode cX11_store 62 = .ok (.getfield 246, 3) := by decide +kernel
theorem dX11_store_65 : decode cX11_store 65 = .ok (.iload_n 1, 1) := by decide +kernel
theorem dX11_store_66 : decode cX11_store 66 = .ok (.iaload, 1) := by decide +kernel
theorem dX11_store_67 : decode cX11_store 67 = .ok (.iload_n 3, 1) := by decide +kernel
theorem dX11_store_68 : decode cX11_store 68 = .ok (.if_icmp .eq 6, 3) := by decide +kernel
theorem dX11_store_71 : decode cX11_store 71 = .ok (.bipush (-12), 2) := by decide +kernel
theorem dX11_store_73 : decode cX11_store 73 = .ok (.ireturn, 1) := by decide +kernel
theorem dX11_store_74 : decode cX11_store 74 = .ok (.aload_n 0, 1) := by decide +kernel
theorem dX11_store_75 : decode cX11_store 75 = .ok (.getfield 54, 3) := by decide +kernel
theorem dX11_store_78 : decode cX11_store 78 = .ok (.iload_n 1, 1) := by decide +kernel
theorem dX11_store_79 : decode cX11_store 79 = .ok (.iload_n 2, 1) := by decide +kernel
theorem dX11_store_80 : decode cX11_store 80 = .ok (.iload 4, 2) := by decide +kernel
theorem dX11_store_82 : decode cX11_store 82 = .ok (.invokevirtual 252, 3) := by decide +kernel
theorem dX11_store_85 : decode cX11_store 85 = .ok (.iconst 1, 1) := by decide +kernel
theorem dX11_store_86 : decode cX11_store 86 = .ok (.ireturn, 1) := by decide +kernel
set_option maxRecDepth 20000 in
theorem ggX11_thing_X11_within : GoodIn wsX11_thing wsX11_within := goodIn_r _ [8] (by decide +kernel) (by decide +kernel)
set_option maxRecDepth 20000 in
theorem gX11_thing_X11_within : GoodIn wsX11_thing (va_wsS RX11 79 yX11_within wsX11_within) := goodIn_app (goodIn_of _ (by decide +kernel)) ggX11_thing_X11_within
set_option maxRecDepth 20000 in
theorem ggX11_thing_X6_holdsAt : GoodIn wsX11_thing wsX6_holdsAt := goodIn_r _ [13, 14, 32, 33, 34, 35] (by decide +kernel) (by decide +kernel)
set_option maxRecDepth 20000 in
theorem gX11_thing_X6_holdsAt : GoodIn wsX11_thing (wsV RX11 257 RX6 yX6_holdsAt wsX6_holdsAt) := goodIn_app (goodIn_of _ (by decide +kernel)) ggX11_thing_X6_holdsAt
set_option maxRecDepth 20000 in
theorem ggX11_thing_X6_numberAt : GoodIn wsX11_thing wsX6_numberAt := goodIn_r _ [18, 19, 32, 33, 34, 35] (by decide +kernel) (by decide +kernel)
set_option maxRecDepth 20000 in
theorem gX11_thing_X6_numberAt : GoodIn wsX11_thing (wsV RX11 261 RX6 yX6_numberAt wsX6_numberAt) := goodIn_app (goodIn_of _ (by decide +kernel)) ggX11_thing_X6_numberAt
theorem dX11_thing_0 : decode cX11_thing 0 = .ok (.iload_n 1, 1) := by decide +kernel
theorem dX11_thing_1 : decode cX11_thing 1 = .ok (.iconst 0, 1) := by decide +kernel
theorem dX11_thing_2 : decode cX11_thing 2 = .ok (.iconst 2, 1) := by decide +kernel
theorem dX11_thing_3 : decode cX11_thing 3 = .ok (.invokestatic 79, 3) := by decide +kernel
theorem dX11_thing_6 : decode cX11_thing 6 = .ok (.ifCond .eq 16, 3) := by decide +kernel
theorem dX11_thing_9 : decode cX11_thing 9 = .ok (.aload_n 0, 1) := by decide +kernel
theorem dX11_thing_10 : decode cX11_thing 10 = .ok (.getfield 54, 3) := by decide +kernel
theorem dX11_thing_13 : decode cX11_thing 13 = .ok (.getfield 246, 3) := by decide +kernel
theorem dX11_thing_16 : decode cX11_thing 16 = .ok (.iload_n 1, 1) := by decide +kernel
theorem dX11_thing_17 : decode cX11_thing 17 = .ok (.iaload, 1) := by decide +kernel
theorem dX11_thing_18 : decode cX11_thing 18 = .ok (.iconst (-1), 1) := by decide +kernel
theorem dX11_thing_19 : decode cX11_thing 19 = .ok (.if_icmp .ne 7, 3) := by decide +kernel
theorem dX11_thing_22 : decode cX11_thing 22 = .ok (.ldc2_w 255, 3) := by decide +kernel
theorem dX11_thing_25 : decode cX11_thing 25 = .ok (.lreturn, 1) := by decide +kernel
theorem dX11_thing_26 : decode cX11_thing 26 = .ok (.iload_n 2, 1) := by decide +kernel
theorem dX11_thing_27 : decode cX11_thing 27 = .ok (.iconst 0, 1) := by decide +kernel
theorem dX11_thing_28 : decode cX11_thing 28 = .ok (.aload_n 0, 1) := by decide +kernel
theorem dX11_thing_29 : decode cX11_thing 29 = .ok (.getfield 54, 3) := by decide +kernel
theorem dX11_thing_32 : decode cX11_thing 32 = .ok (.getfield 249, 3) := by decide +kernel
theorem dX11_thing_35 : decode cX11_thing 35 = .ok (.iload_n 1, 1) := by decide +kernel
theorem dX11_thing_36 : decode cX11_thing 36 = .ok (.iaload, 1) := by decide +kernel
theorem dX11_thing_37 : decode cX11_thing 37 = .ok (.iconst 1, 1) := by decide +kernel
theorem dX11_thing_38 : decode cX11_thing 38 = .ok (.isub, 1) := by decide +kernel
theorem dX11_thing_39 : decode cX11_thing 39 = .ok (.invokestatic 79, 3) := by decide +kernel
theorem dX11_thing_42 : decode cX11_thing 42 = .ok (.ifCond .eq 15, 3) := by decide +kernel
theorem dX11_thing_45 : decode cX11_thing 45 = .ok (.aload_n 0, 1) := by decide +kernel
theorem dX11_thing_46 : decode cX11_thing 46 = .ok (.getfield 54, 3) := by decide +kernel
theorem dX11_thing_49 : decode cX11_thing 49 = .ok (.iload_n 1, 1) := by decide +kernel
theorem dX11_thing_50 : decode cX11_thing 50 = .ok (.iload_n 2, 1) := by decide +kernel
theorem dX11_thing_51 : decode cX11_thing 51 = .ok (.invokevirtual 257, 3) := by decide +kernel
theorem dX11_thing_54 : decode cX11_thing 54 = .ok (.ifCond .ne 7, 3) := by decide +kernel
theorem dX11_thing_57 : decode cX11_thing 57 = .ok (.ldc2_w 255, 3) := by decide +kernel
theorem dX11_thing_60 : decode cX11_thing 60 = .ok (.lreturn, 1) := by decide +kernel
theorem dX11_thing_61 : decode cX11_thing 61 = .ok (.aload_n 0, 1) := by decide +kernel
theorem dX11_thing_62 : decode cX11_thing 62 = .ok (.getfield 54, 3) := by decide +kernel
theorem dX11_thing_65 : decode cX11_thing 65 = .ok (.iload_n 1, 1) := by decide +kernel
theorem dX11_thing_66 : decode cX11_thing 66 = .ok (.iload_n 2, 1) := by decide +kernel
theorem dX11_thing_67 : decode cX11_thing 67 = .ok (.invokevirtual 261, 3) := by decide +kernel
theorem dX11_thing_70 : decode cX11_thing 70 = .ok (.i2l, 1) := by decide +kernel
theorem dX11_thing_71 : decode cX11_thing 71 = .ok (.lreturn, 1) := by decide +kernel
set_option maxRecDepth 20000 in
theorem ggX11_copied_X11_within : GoodIn wsX11_copied wsX11_within := goodIn_r _ [7] (by decide +kernel) (by decide +kernel)
set_option maxRecDepth 20000 in
theorem gX11_copied_X11_within : GoodIn wsX11_copied (va_wsS RX11 79 yX11_within wsX11_within) := goodIn_app (goodIn_of _ (by decide +kernel)) ggX11_copied_X11_within
set_option maxRecDepth 20000 in
theorem ggX11_copied_X6_copyTo : GoodIn wsX11_copied wsX6_copyTo := goodIn_r _ [12, 13, 14, 15, 16, 29, 30, 31, 32] (by decide +kernel) (by decide +kernel)
set_option maxRecDepth 20000 in
theorem gX11_copied_X6_copyTo : GoodIn wsX11_copied (wsV RX11 265 RX6 yX6_copyTo wsX6_copyTo) := goodIn_app (goodIn_of _ (by decide +kernel)) ggX11_copied_X6_copyTo
theorem dX11_copied_0 : decode cX11_copied 0 = .ok (.iload_n 1, 1) := by decide +kernel
theorem dX11_copied_1 : decode cX11_copied 1 = .ok (.iconst 0, 1) := by decide +kernel
theorem dX11_copied_2 : decode cX11_copied 2 = .ok (.iconst 2, 1) := by decide +kernel
theorem dX11_copied_3 : decode cX11_copied 3 = .ok (.invokestatic 79, 3) := by decide +kernel
theorem dX11_copied_6 : decode cX11_copied 6 = .ok (.ifCond .eq 12, 3) := by decide +kernel
theorem dX11_copied_9 : decode cX11_copied 9 = .ok (.iload_n 2, 1) := by decide +kernel
theorem dX11_copied_10 : decode cX11_copied 10 = .ok (.iconst 0, 1) := by decide +kernel
theorem dX11_copied_11 : decode cX11_copied 11 = .ok (.iconst 2, 1) := by decide +kernel
theorem dX11_copied_12 : decode cX11_copied 12 = .ok (.invokestatic 79, 3) := by decide +kernel
theorem dX11_copied_15 : decode cX11_copied 15 = .ok (.ifCond .ne 5, 3) := by decide +kernel
theorem dX11_copied_18 : decode cX11_copied 18 = .ok (.iconst (-1), 1) := by decide +kernel
theorem dX11_copied_19 : decode cX11_copied 19 = .ok (.ireturn, 1) := by decide +kernel
theorem dX11_copied_20 : decode cX11_copied 20 = .ok (.aload_n 0, 1) := by decide +kernel
theorem dX11_copied_21 : decode cX11_copied 21 = .ok (.getfield 54, 3) := by decide +kernel
theorem dX11_copied_24 : decode cX11_copied 24 = .ok (.getfield 246, 3) := by decide +kernel
theorem dX11_copied_27 : decode cX11_copied 27 = .ok (.iload_n 1, 1) := by decide +kernel
theorem dX11_copied_28 : decode cX11_copied 28 = .ok (.iaload, 1) := by decide +kernel
theorem dX11_copied_29 : decode cX11_copied 29 = .ok (.iconst (-1), 1) := by decide +kernel
theorem dX11_copied_30 : decode cX11_copied 30 = .ok (.if_icmp .ne 6, 3) := by decide +kernel
theorem dX11_copied_33 : decode cX11_copied 33 = .ok (.bipush (-11), 2) := by decide +kernel
theorem dX11_copied_35 : decode cX11_copied 35 = .ok (.ireturn, 1) := by decide +kernel
theorem dX11_copied_36 : decode cX11_copied 36 = .ok (.aload_n 0, 1) := by decide +kernel
theorem dX11_copied_37 : decode cX11_copied 37 = .ok (.getfield 54, 3) := by decide +kernel
theorem dX11_copied_40 : decode cX11_copied 40 = .ok (.iload_n 1, 1) := by decide +kernel
theorem dX11_copied_41 : decode cX11_copied 41 = .ok (.iload_n 2, 1) := by decide +kernel
theorem dX11_copied_42 : decode cX11_copied 42 = .ok (.invokevirtual 265, 3) := by decide +kernel
theorem dX11_copied_45 : decode cX11_copied 45 = .ok (.aload_n 0, 1) := by decide +kernel
theorem dX11_copied_46 : decode cX11_copied 46 = .ok (.getfield 54, 3) := by decide +kernel
theorem dX11_copied_49 : decode cX11_copied 49 = .ok (.getfield 249, 3) := by decide +kernel
theorem dX11_copied_52 : decode cX11_copied 52 = .ok (.iload_n 1, 1) := by decide +kernel
theorem dX11_copied_53 : decode cX11_copied 53 = .ok (.iaload, 1) := by decide +kernel
theorem dX11_copied_54 : decode cX11_copied 54 = .ok (.ireturn, 1) := by decide +kernel
set_option maxRecDepth 20000 in
theorem ggX11_feed_X11_within : GoodIn wsX11_feed wsX11_within := goodIn_r _ [6] (by decide +kernel) (by decide +kernel)
set_option maxRecDepth 20000 in
theorem gX11_feed_X11_within : GoodIn wsX11_feed (va_wsS RX11 79 yX11_within wsX11_within) := goodIn_app (goodIn_of _ (by decide +kernel)) ggX11_feed_X11_within
set_option maxRecDepth 20000 in
theorem ggX11_feed_X10_append : GoodIn wsX11_feed wsX10_append := goodIn_r _ [11, 12, 13, 26, 27, 28, 29, 30, 31, 32, 33, 34] (by decide +kernel) (by decide +kernel)
set_option maxRecDepth 20000 in
theorem gX11_feed_X10_append : GoodIn wsX11_feed (wsV RX11 269 RX10 yX10_append wsX10_append) := goodIn_app (goodIn_of _ (by decide +kernel)) ggX11_feed_X10_append
theorem dX11_feed_0 : decode cX11_feed 0 = .ok (.iload_n 1, 1) := by decide +kernel
theorem dX11_feed_1 : decode cX11_feed 1 = .ok (.bipush 32, 2) := by decide +kernel
theorem dX11_feed_3 : decode cX11_feed 3 = .ok (.bipush 126, 2) := by decide +kernel
theorem dX11_feed_5 : decode cX11_feed 5 = .ok (.invokestatic 79, 3) := by decide +kernel
theorem dX11_feed_8 : decode cX11_feed 8 = .ok (.ifCond .ne 6, 3) := by decide +kernel
theorem dX11_feed_11 : decode cX11_feed 11 = .ok (.bipush (-2), 2) := by decide +kernel
theorem dX11_feed_13 : decode cX11_feed 13 = .ok (.ireturn, 1) := by decide +kernel
theorem dX11_feed_14 : decode cX11_feed 14 = .ok (.aload_n 0, 1) := by decide +kernel
theorem dX11_feed_15 : decode cX11_feed 15 = .ok (.getfield 61, 3) := by decide +kernel
theorem dX11_feed_18 : decode cX11_feed 18 = .ok (.getfield 268, 3) := by decide +kernel
theorem dX11_feed_21 : decode cX11_feed 21 = .ok (.bipush 60, 2) := by decide +kernel
theorem dX11_feed_23 : decode cX11_feed 23 = .ok (.if_icmp .lt 6, 3) := by decide +kernel
theorem dX11_feed_26 : decode cX11_feed 26 = .ok (.bipush (-4), 2) := by decide +kernel
theorem dX11_feed_28 : decode cX11_feed 28 = .ok (.ireturn, 1) := by decide +kernel
theorem dX11_feed_29 : decode cX11_feed 29 = .ok (.aload_n 0, 1) := by decide +kernel
theorem dX11_feed_30 : decode cX11_feed 30 = .ok (.getfield 61, 3) := by decide +kernel
theorem dX11_feed_33 : decode cX11_feed 33 = .ok (.iload_n 1, 1) := by decide +kernel
theorem dX11_feed_34 : decode cX11_feed 34 = .ok (.invokevirtual 269, 3) := by decide +kernel
theorem dX11_feed_37 : decode cX11_feed 37 = .ok (.aload_n 0, 1) := by decide +kernel
theorem dX11_feed_38 : decode cX11_feed 38 = .ok (.getfield 61, 3) := by decide +kernel
theorem dX11_feed_41 : decode cX11_feed 41 = .ok (.getfield 268, 3) := by decide +kernel
theorem dX11_feed_44 : decode cX11_feed 44 = .ok (.ireturn, 1) := by decide +kernel
theorem dX11_wipe_0 : decode cX11_wipe 0 = .ok (.aload_n 0, 1) := by decide +kernel
theorem dX11_wipe_1 : decode cX11_wipe 1 = .ok (.getfield 61, 3) := by decide +kernel
theorem dX11_wipe_4 : decode cX11_wipe 4 = .ok (.getfield 268, 3) := by decide +kernel
theorem dX11_wipe_7 : decode cX11_wipe 7 = .ok (.istore_n 1, 1) := by decide +kernel
theorem dX11_wipe_8 : decode cX11_wipe 8 = .ok (.aload_n 0, 1) := by decide +kernel
theorem dX11_wipe_9 : decode cX11_wipe 9 = .ok (.getfield 61, 3) := by decide +kernel
theorem dX11_wipe_12 : decode cX11_wipe 12 = .ok (.iconst 0, 1) := by decide +kernel
theorem dX11_wipe_13 : decode cX11_wipe 13 = .ok (.putfield 268, 3) := by decide +kernel
theorem dX11_wipe_16 : decode cX11_wipe 16 = .ok (.iload_n 1, 1) := by decide +kernel
theorem dX11_wipe_17 : decode cX11_wipe 17 = .ok (.ireturn, 1) := by decide +kernel
set_option maxRecDepth 20000 in
theorem ggX11_read_X10_fault : GoodIn wsX11_read wsX10_fault := goodIn_r _ [14, 15, 16, 17, 18, 19, 20, 21, 22, 23, 24, 13, 25, 26, 27, 28, 29, 30, 31, 32, 33, 34, 35, 36, 37, 38, 39, 40, 41, 42, 43, 44, 45, 46, 47, 48, 49, 50, 51, 52, 53, 54, 55, 56, 57, 58, 59, 60, 76, 77, 78, 79, 80, 81, 82, 83, 84] (by decide +kernel) (by decide +kernel)
set_option maxRecDepth 20000 in
theorem gX11_read_X10_fault : GoodIn wsX11_read (wsV RX11 271 RX10 yX10_fault wsX10_fault) := goodIn_app (goodIn_of _ (by decide +kernel)) ggX11_read_X10_fault
set_option maxRecDepth 20000 in
theorem ggX11_read_X3_highest : GoodIn wsX11_read wsX3_highest := goodIn_r _ [63] (by decide +kernel) (by decide +kernel)
set_option maxRecDepth 20000 in
theorem gX11_read_X3_highest : GoodIn wsX11_read (va_wsS RX11 87 yX3_highest wsX3_highest) := goodIn_app (goodIn_of _ (by decide +kernel)) ggX11_read_X3_highest
theorem dX11_read_0 : decode cX11_read 0 = .ok (.aload_n 0, 1) := by decide +kernel
theorem dX11_read_1 : decode cX11_read 1 = .ok (.getfield 61, 3) := by decide +kernel
theorem dX11_read_4 : decode cX11_read 4 = .ok (.invokevirtual 271, 3) := by decide +kernel
theorem dX11_read_7 : decode cX11_read 7 = .ok (.istore_n 1, 1) := by decide +kernel
theorem dX11_read_8 : decode cX11_read 8 = .ok (.aload_n 0, 1) := by decide +kernel
theorem dX11_read_9 : decode cX11_read 9 = .ok (.getfield 61, 3) := by decide +kernel
theorem dX11_read_12 : decode cX11_read 12 = .ok (.iconst 0, 1) := by decide +kernel
theorem dX11_read_13 : decode cX11_read 13 = .ok (.putfield 268, 3) := by decide +kernel
theorem dX11_read_16 : decode cX11_read 16 = .ok (.iload_n 1, 1) := by decide +kernel
theorem dX11_read_17 : decode cX11_read 17 = .ok (.iconst (-1), 1) := by decide +kernel
theorem dX11_read_18 : decode cX11_read 18 = .ok (.if_icmp .eq 8, 3) := by decide +kernel
theorem dX11_read_21 : decode cX11_read 21 = .ok (.bipush (-100), 2) := by decide +kernel
theorem dX11_read_23 : decode cX11_read 23 = .ok (.iload_n 1, 1) := by decide +kernel
theorem dX11_read_24 : decode cX11_read 24 = .ok (.isub, 1) := by decide +kernel
theorem dX11_read_25 : decode cX11_read 25 = .ok (.ireturn, 1) := by decide +kernel
theorem dX11_read_26 : decode cX11_read 26 = .ok (.aload_n 0, 1) := by decide +kernel
theorem dX11_read_27 : decode cX11_read 27 = .ok (.getfield 61, 3) := by decide +kernel
theorem dX11_read_30 : decode cX11_read 30 = .ok (.getfield 274, 3) := by decide +kernel
theorem dX11_read_33 : decode cX11_read 33 = .ok (.iconst 0, 1) := by decide +kernel
theorem dX11_read_34 : decode cX11_read 34 = .ok (.aload_n 0, 1) := by decide +kernel
theorem dX11_read_35 : decode cX11_read 35 = .ok (.getfield 12, 3) := by decide +kernel
theorem dX11_read_38 : decode cX11_read 38 = .ok (.getfield 83, 3) := by decide +kernel
theorem dX11_read_41 : decode cX11_read 41 = .ok (.iconst 0, 1) := by decide +kernel
theorem dX11_read_42 : decode cX11_read 42 = .ok (.iconst 5, 1) := by decide +kernel
theorem dX11_read_43 : decode cX11_read 43 = .ok (.invokestatic 232, 3) := by decide +kernel
theorem dX11_read_46 : decode cX11_read 46 = .ok (.aload_n 0, 1) := by decide +kernel
theorem dX11_read_47 : decode cX11_read 47 = .ok (.getfield 12, 3) := by decide +kernel
theorem dX11_read_50 : decode cX11_read 50 = .ok (.getfield 83, 3) := by decide +kernel
theorem dX11_read_53 : decode cX11_read 53 = .ok (.invokestatic 87, 3) := by decide +kernel
theorem dX11_read_56 : decode cX11_read 56 = .ok (.bipush 10, 2) := by decide +kernel
theorem dX11_read_58 : decode cX11_read 58 = .ok (.iadd, 1) := by decide +kernel
theorem dX11_read_59 : decode cX11_read 59 = .ok (.ireturn, 1) := by decide +kernel
set_option maxRecDepth 20000 in
theorem ggX11_written_X10_write : GoodIn wsX11_written wsX10_write := goodIn_r _ [9, 10, 11, 12, 13, 8, 14, 15, 16, 17, 18, 19, 20, 21, 22, 23, 44, 45, 46, 47, 48, 49, 50, 51, 52] (by decide +kernel) (by decide +kernel)
set_option maxRecDepth 20000 in
theorem gX11_written_X10_write : GoodIn wsX11_written (wsV RX11 277 RX10 yX10_write wsX10_write) := goodIn_app (goodIn_of _ (by decide +kernel)) ggX11_written_X10_write
set_option maxRecDepth 20000 in
theorem ggX11_written_X11_within : GoodIn wsX11_written wsX11_within := goodIn_r _ [27] (by decide +kernel) (by decide +kernel)
set_option maxRecDepth 20000 in
theorem gX11_written_X11_within : GoodIn wsX11_written (va_wsS RX11 79 yX11_within wsX11_within) := goodIn_app (goodIn_of _ (by decide +kernel)) ggX11_written_X11_within
theorem dX11_written_0 : decode cX11_written 0 = .ok (.aload_n 0, 1) := by decide +kernel
theorem dX11_written_1 : decode cX11_written 1 = .ok (.getfield 61, 3) := by decide +kernel
theorem dX11_written_4 : decode cX11_written 4 = .ok (.aload_n 0, 1) := by decide +kernel
theorem dX11_written_5 : decode cX11_written 5 = .ok (.getfield 12, 3) := by decide +kernel
theorem dX11_written_8 : decode cX11_written 8 = .ok (.getfield 83, 3) := by decide +kernel
theorem dX11_written_11 : decode cX11_written 11 = .ok (.invokevirtual 277, 3) := by decide +kernel
theorem dX11_written_14 : decode cX11_written 14 = .ok (.istore_n 2, 1) := by decide +kernel
theorem dX11_written_15 : decode cX11_written 15 = .ok (.iload_n 1, 1) := by decide +kernel
theorem dX11_written_16 : decode cX11_written 16 = .ok (.iconst (-1), 1) := by decide +kernel
theorem dX11_written_17 : decode cX11_written 17 = .ok (.if_icmp .ne 5, 3) := by decide +kernel
theorem dX11_written_20 : decode cX11_written 20 = .ok (.iload_n 2, 1) := by decide +kernel
theorem dX11_written_21 : decode cX11_written 21 = .ok (.ireturn, 1) := by decide +kernel
theorem dX11_written_22 : decode cX11_written 22 = .ok (.iload_n 1, 1) := by decide +kernel
theorem dX11_written_23 : decode cX11_written 23 = .ok (.iconst 0, 1) := by decide +kernel
theorem dX11_written_24 : decode cX11_written 24 = .ok (.iload_n 2, 1) := by decide +kernel
theorem dX11_written_25 : decode cX11_written 25 = .ok (.iconst 1, 1) := by decide +kernel
theorem dX11_written_26 : decode cX11_written 26 = .ok (.isub, 1) := by decide +kernel
theorem dX11_written_27 : decode cX11_written 27 = .ok (.invokestatic 79, 3) := by decide +kernel
theorem dX11_written_30 : decode cX11_written 30 = .ok (.ifCond .eq 15, 3) := by decide +kernel
theorem dX11_written_33 : decode cX11_written 33 = .ok (.aload_n 0, 1) := by decide +kernel
theorem dX11_written_34 : decode cX11_written 34 = .ok (.getfield 61, 3) := by decide +kernel
theorem dX11_written_37 : decode cX11_written 37 = .ok (.getfield 280, 3) := by decide +kernel
theorem dX11_written_40 : decode cX11_written 40 = .ok (.iload_n 1, 1) := by decide +kernel
theorem dX11_written_41 : decode cX11_written 41 = .ok (.iaload, 1) := by decide +kernel
theorem dX11_written_42 : decode cX11_written 42 = .ok (.goto 4, 3) := by decide +kernel
theorem dX11_written_45 : decode cX11_written 45 = .ok (.iconst (-1), 1) := by decide +kernel
theorem dX11_written_46 : decode cX11_written 46 = .ok (.ireturn, 1) := by decide +kernel
set_option maxRecDepth 20000 in
theorem ggX11_list_X11_within : GoodIn wsX11_list wsX11_within := goodIn_r _ [5] (by decide +kernel) (by decide +kernel)
set_option maxRecDepth 20000 in
theorem gX11_list_X11_within : GoodIn wsX11_list (va_wsS RX11 79 yX11_within wsX11_within) := goodIn_app (goodIn_of _ (by decide +kernel)) ggX11_list_X11_within
set_option maxRecDepth 20000 in
theorem ggX11_list_X1_make : GoodIn wsX11_list wsX1_make := goodIn_r _ [10, 11, 12, 25, 26] (by decide +kernel) (by decide +kernel)
set_option maxRecDepth 20000 in
theorem gX11_list_X1_make : GoodIn wsX11_list (wsV RX11 283 RX1 yX1_make wsX1_make) := goodIn_app (goodIn_of _ (by decide +kernel)) ggX11_list_X1_make
theorem dX11_list_0 : decode cX11_list 0 = .ok (.iload_n 1, 1) := by decide +kernel
theorem dX11_list_1 : decode cX11_list 1 = .ok (.iconst 0, 1) := by decide +kernel
theorem dX11_list_2 : decode cX11_list 2 = .ok (.iconst 2, 1) := by decide +kernel
theorem dX11_list_3 : decode cX11_list 3 = .ok (.invokestatic 79, 3) := by decide +kernel
theorem dX11_list_6 : decode cX11_list 6 = .ok (.ifCond .ne 5, 3) := by decide +kernel
theorem dX11_list_9 : decode cX11_list 9 = .ok (.iconst (-1), 1) := by decide +kernel
theorem dX11_list_10 : decode cX11_list 10 = .ok (.ireturn, 1) := by decide +kernel
theorem dX11_list_11 : decode cX11_list 11 = .ok (.iload_n 2, 1) := by decide +kernel
theorem dX11_list_12 : decode cX11_list 12 = .ok (.bipush 12, 2) := by decide +kernel
theorem dX11_list_14 : decode cX11_list 14 = .ok (.if_icmp .le 6, 3) := by decide +kernel
theorem dX11_list_17 : decode cX11_list 17 = .ok (.bipush (-2), 2) := by decide +kernel
theorem dX11_list_19 : decode cX11_list 19 = .ok (.ireturn, 1) := by decide +kernel
theorem dX11_list_20 : decode cX11_list 20 = .ok (.iload_n 2, 1) := by decide +kernel
theorem dX11_list_21 : decode cX11_list 21 = .ok (.iconst (-1), 1) := by decide +kernel
theorem dX11_list_22 : decode cX11_list 22 = .ok (.if_icmp .ge 6, 3) := by decide +kernel
theorem dX11_list_25 : decode cX11_list 25 = .ok (.bipush (-14), 2) := by decide +kernel
theorem dX11_list_27 : decode cX11_list 27 = .ok (.ireturn, 1) := by decide +kernel
theorem dX11_list_28 : decode cX11_list 28 = .ok (.aload_n 0, 1) := by decide +kernel
theorem dX11_list_29 : decode cX11_list 29 = .ok (.getfield 68, 3) := by decide +kernel
theorem dX11_list_32 : decode cX11_list 32 = .ok (.iload_n 1, 1) := by decide +kernel
theorem dX11_list_33 : decode cX11_list 33 = .ok (.iload_n 2, 1) := by decide +kernel
theorem dX11_list_34 : decode cX11_list 34 = .ok (.invokevirtual 283, 3) := by decide +kernel
theorem dX11_list_37 : decode cX11_list 37 = .ok (.iconst 1, 1) := by decide +kernel
theorem dX11_list_38 : decode cX11_list 38 = .ok (.ireturn, 1) := by decide +kernel
set_option maxRecDepth 20000 in
theorem ggX11_lay_X11_within : GoodIn wsX11_lay wsX11_within := goodIn_r _ [7] (by decide +kernel) (by decide +kernel)
set_option maxRecDepth 20000 in
theorem gX11_lay_X11_within : GoodIn wsX11_lay (va_wsS RX11 79 yX11_within wsX11_within) := goodIn_app (goodIn_of _ (by decide +kernel)) ggX11_lay_X11_within
theorem dX11_lay_0 : decode cX11_lay 0 = .ok (.iload_n 1, 1) := by decide +kernel
theorem dX11_lay_1 : decode cX11_lay 1 = .ok (.iconst 0, 1) := by decide +kernel
theorem dX11_lay_2 : decode cX11_lay 2 = .ok (.iconst 2, 1) := by decide +kernel
theorem dX11_lay_3 : decode cX11_lay 3 = .ok (.invokestatic 79, 3) := by decide +kernel
theorem dX11_lay_6 : decode cX11_lay 6 = .ok (.ifCond .ne 5, 3) := by decide +kernel
theorem dX11_lay_9 : decode cX11_lay 9 = .ok (.iconst (-1), 1) := by decide +kernel
theorem dX11_lay_10 : decode cX11_lay 10 = .ok (.ireturn, 1) := by decide +kernel
theorem dX11_lay_11 : decode cX11_lay 11 = .ok (.aload_n 0, 1) := by decide +kernel
theorem dX11_lay_12 : decode cX11_lay 12 = .ok (.getfield 68, 3) := by decide +kernel
theorem dX11_lay_15 : decode cX11_lay 15 = .ok (.getfield 285, 3) := by decide +kernel
theorem dX11_lay_18 : decode cX11_lay 18 = .ok (.iload_n 1, 1) := by decide +kernel
theorem dX11_lay_19 : decode cX11_lay 19 = .ok (.iaload, 1) := by decide +kernel
theorem dX11_lay_20 : decode cX11_lay 20 = .ok (.iconst (-1), 1) := by decide +kernel
theorem dX11_lay_21 : decode cX11_lay 21 = .ok (.if_icmp .ne 6, 3) := by decide +kernel
theorem dX11_lay_24 : decode cX11_lay 24 = .ok (.bipush (-11), 2) := by decide +kernel
theorem dX11_lay_26 : decode cX11_lay 26 = .ok (.ireturn, 1) := by decide +kernel
theorem dX11_lay_27 : decode cX11_lay 27 = .ok (.iload_n 2, 1) := by decide +kernel
theorem dX11_lay_28 : decode cX11_lay 28 = .ok (.iconst 0, 1) := by decide +kernel
theorem dX11_lay_29 : decode cX11_lay 29 = .ok (.aload_n 0, 1) := by decide +kernel
theorem dX11_lay_30 : decode cX11_lay 30 = .ok (.getfield 68, 3) := by decide +kernel
theorem dX11_lay_33 : decode cX11_lay 33 = .ok (.getfield 285, 3) := by decide +kernel
theorem dX11_lay_36 : decode cX11_lay 36 = .ok (.iload_n 1, 1) := by decide +kernel
theorem dX11_lay_37 : decode cX11_lay 37 = .ok (.iaload, 1) := by decide +kernel
theorem dX11_lay_38 : decode cX11_lay 38 = .ok (.iconst 1, 1) := by decide +kernel
theorem dX11_lay_39 : decode cX11_lay 39 = .ok (.isub, 1) := by decide +kernel
theorem dX11_lay_40 : decode cX11_lay 40 = .ok (.invokestatic 79, 3) := by decide +kernel
theorem dX11_lay_43 : decode cX11_lay 43 = .ok (.ifCond .ne 6, 3) := by decide +kernel
theorem dX11_lay_46 : decode cX11_lay 46 = .ok (.bipush (-13), 2) := by decide +kernel
theorem dX11_lay_48 : decode cX11_lay 48 = .ok (.ireturn, 1) := by decide +kernel
theorem dX11_lay_49 : decode cX11_lay 49 = .ok (.aload_n 0, 1) := by decide +kernel
theorem dX11_lay_50 : decode cX11_lay 50 = .ok (.getfield 68, 3) := by decide +kernel
theorem dX11_lay_53 : decode cX11_lay 53 = .ok (.getfield 286, 3) := by decide +kernel
theorem dX11_lay_56 : decode cX11_lay 56 = .ok (.iload_n 1, 1) := by decide +kernel
theorem dX11_lay_57 : decode cX11_lay 57 = .ok (.bipush 12, 2) := by decide +kernel
theorem dX11_lay_59 : decode cX11_lay 59 = .ok (.imul, 1) := by decide +kernel
theorem dX11_lay_60 : decode cX11_lay 60 = .ok (.iload_n 2, 1) := by decide +kernel
theorem dX11_lay_61 : decode cX11_lay 61 = .ok (.iadd, 1) := by decide +kernel
theorem dX11_lay_62 : decode cX11_lay 62 = .ok (.lload_n 3, 1) := by decide +kernel
theorem dX11_lay_63 : decode cX11_lay 63 = .ok (.lastore, 1) := by decide +kernel
theorem dX11_lay_64 : decode cX11_lay 64 = .ok (.iconst 1, 1) := by decide +kernel
theorem dX11_lay_65 : decode cX11_lay 65 = .ok (.ireturn, 1) := by decide +kernel
set_option maxRecDepth 20000 in
theorem ggX11_look_X11_within : GoodIn wsX11_look wsX11_within := goodIn_r _ [8] (by decide +kernel) (by decide +kernel)
set_option maxRecDepth 20000 in
theorem gX11_look_X11_within : GoodIn wsX11_look (va_wsS RX11 79 yX11_within wsX11_within) := goodIn_app (goodIn_of _ (by decide +kernel)) ggX11_look_X11_within
theorem dX11_look_0 : decode cX11_look 0 = .ok (.iload_n 1, 1) := by decide +kernel
theorem dX11_look_1 : decode cX11_look 1 = .ok (.iconst 0, 1) := by decide +kernel
theorem dX11_look_2 : decode cX11_look 2 = .ok (.iconst 2, 1) := by decide +kernel
theorem dX11_look_3 : decode cX11_look 3 = .ok (.invokestatic 79, 3) := by decide +kernel
theorem dX11_look_6 : decode cX11_look 6 = .ok (.ifCond .eq 22, 3) := by decide +kernel
theorem dX11_look_9 : decode cX11_look 9 = .ok (.iload_n 2, 1) := by decide +kernel
theorem dX11_look_10 : decode cX11_look 10 = .ok (.iconst 0, 1) := by decide +kernel
theorem dX11_look_11 : decode cX11_look 11 = .ok (.aload_n 0, 1) := by decide +kernel
theorem dX11_look_12 : decode cX11_look 12 = .ok (.getfield 68, 3) := by decide +kernel
theorem dX11_look_15 : decode cX11_look 15 = .ok (.getfield 285, 3) := by decide +kernel
theorem dX11_look_18 : decode cX11_look 18 = .ok (.iload_n 1, 1) := by decide +kernel
theorem dX11_look_19 : decode cX11_look 19 = .ok (.iaload, 1) := by decide +kernel
theorem dX11_look_20 : decode cX11_look 20 = .ok (.iconst 1, 1) := by decide +kernel
theorem dX11_look_21 : decode cX11_look 21 = .ok (.isub, 1) := by decide +kernel
theorem dX11_look_22 : decode cX11_look 22 = .ok (.invokestatic 79, 3) := by decide +kernel
theorem dX11_look_25 : decode cX11_look 25 = .ok (.ifCond .ne 7, 3) := by decide +kernel
theorem dX11_look_28 : decode cX11_look 28 = .ok (.ldc2_w 255, 3) := by decide +kernel
theorem dX11_look_31 : decode cX11_look 31 = .ok (.lreturn, 1) := by decide +kernel
theorem dX11_look_32 : decode cX11_look 32 = .ok (.aload_n 0, 1) := by decide +kernel
theorem dX11_look_33 : decode cX11_look 33 = .ok (.getfield 68, 3) := by decide +kernel
theorem dX11_look_36 : decode cX11_look 36 = .ok (.getfield 286, 3) := by decide +kernel
theorem dX11_look_39 : decode cX11_look 39 = .ok (.iload_n 1, 1) := by decide +kernel
theorem dX11_look_40 : decode cX11_look 40 = .ok (.bipush 12, 2) := by decide +kernel
theorem dX11_look_42 : decode cX11_look 42 = .ok (.imul, 1) := by decide +kernel
theorem dX11_look_43 : decode cX11_look 43 = .ok (.iload_n 2, 1) := by decide +kernel
theorem dX11_look_44 : decode cX11_look 44 = .ok (.iadd, 1) := by decide +kernel
theorem dX11_look_45 : decode cX11_look 45 = .ok (.laload, 1) := by decide +kernel
theorem dX11_look_46 : decode cX11_look 46 = .ok (.lreturn, 1) := by decide +kernel
set_option maxRecDepth 20000 in
theorem ggX11_judge_X11_within : GoodIn wsX11_judge wsX11_within := goodIn_r _ [8] (by decide +kernel) (by decide +kernel)
set_option maxRecDepth 20000 in
theorem gX11_judge_X11_within : GoodIn wsX11_judge (va_wsS RX11 79 yX11_within wsX11_within) := goodIn_app (goodIn_of _ (by decide +kernel)) ggX11_judge_X11_within
set_option maxRecDepth 20000 in
theorem ggX11_judge_X0_isThere : GoodIn wsX11_judge wsX0_isThere := goodIn_r _ [13, 14, 42, 43, 44, 45, 46, 47, 48] (by decide +kernel) (by decide +kernel)
set_option maxRecDepth 20000 in
theorem gX11_judge_X0_isThere : GoodIn wsX11_judge (wsV RX11 150 RX0 yX0_isThere wsX0_isThere) := goodIn_app (goodIn_of _ (by decide +kernel)) ggX11_judge_X0_isThere
set_option maxRecDepth 20000 in
theorem ggX11_judge_X1_compare : GoodIn wsX11_judge wsX1_compare := goodIn_r _ [19, 20, 21, 22, 23, 36, 37, 42, 43, 44, 45, 46, 47, 48] (by decide +kernel) (by decide +kernel)
set_option maxRecDepth 20000 in
theorem gX11_judge_X1_compare : GoodIn wsX11_judge (wsV RX11 290 RX1 yX1_compare wsX1_compare) := goodIn_app (goodIn_of _ (by decide +kernel)) ggX11_judge_X1_compare
theorem dX11_judge_0 : decode cX11_judge 0 = .ok (.iload_n 1, 1) := by decide +kernel
theorem dX11_judge_1 : decode cX11_judge 1 = .ok (.iconst 0, 1) := by decide +kernel
theorem dX11_judge_2 : decode cX11_judge 2 = .ok (.iconst 2, 1) := by decide +kernel
theorem dX11_judge_3 : decode cX11_judge 3 = .ok (.invokestatic 79, 3) := by decide +kernel
theorem dX11_judge_6 : decode cX11_judge 6 = .ok (.ifCond .ne 5, 3) := by decide +kernel
theorem dX11_judge_9 : decode cX11_judge 9 = .ok (.iconst (-1), 1) := by decide +kernel
theorem dX11_judge_10 : decode cX11_judge 10 = .ok (.ireturn, 1) := by decide +kernel
theorem dX11_judge_11 : decode cX11_judge 11 = .ok (.aload_n 0, 1) := by decide +kernel
theorem dX11_judge_12 : decode cX11_judge 12 = .ok (.getfield 68, 3) := by decide +kernel
theorem dX11_judge_15 : decode cX11_judge 15 = .ok (.getfield 285, 3) := by decide +kernel
theorem dX11_judge_18 : decode cX11_judge 18 = .ok (.iload_n 1, 1) := by decide +kernel
theorem dX11_judge_19 : decode cX11_judge 19 = .ok (.iaload, 1) := by decide +kernel
theorem dX11_judge_20 : decode cX11_judge 20 = .ok (.iconst (-1), 1) := by decide +kernel
theorem dX11_judge_21 : decode cX11_judge 21 = .ok (.if_icmp .ne 6, 3) := by decide +kernel
theorem dX11_judge_24 : decode cX11_judge 24 = .ok (.bipush (-11), 2) := by decide +kernel
theorem dX11_judge_26 : decode cX11_judge 26 = .ok (.ireturn, 1) := by decide +kernel
theorem dX11_judge_27 : decode cX11_judge 27 = .ok (.aload_n 0, 1) := by decide +kernel
theorem dX11_judge_28 : decode cX11_judge 28 = .ok (.getfield 12, 3) := by decide +kernel
theorem dX11_judge_31 : decode cX11_judge 31 = .ok (.getfield 140, 3) := by decide +kernel
theorem dX11_judge_34 : decode cX11_judge 34 = .ok (.invokevirtual 150, 3) := by decide +kernel
theorem dX11_judge_37 : decode cX11_judge 37 = .ok (.ifCond .ne 6, 3) := by decide +kernel
theorem dX11_judge_40 : decode cX11_judge 40 = .ok (.bipush (-3), 2) := by decide +kernel
theorem dX11_judge_42 : decode cX11_judge 42 = .ok (.ireturn, 1) := by decide +kernel
theorem dX11_judge_43 : decode cX11_judge 43 = .ok (.aload_n 0, 1) := by decide +kernel
theorem dX11_judge_44 : decode cX11_judge 44 = .ok (.getfield 68, 3) := by decide +kernel
theorem dX11_judge_47 : decode cX11_judge 47 = .ok (.iload_n 1, 1) := by decide +kernel
theorem dX11_judge_48 : decode cX11_judge 48 = .ok (.aload_n 0, 1) := by decide +kernel
theorem dX11_judge_49 : decode cX11_judge 49 = .ok (.getfield 12, 3) := by decide +kernel
theorem dX11_judge_52 : decode cX11_judge 52 = .ok (.getfield 140, 3) := by decide +kernel
theorem dX11_judge_55 : decode cX11_judge 55 = .ok (.invokevirtual 290, 3) := by decide +kernel
theorem dX11_judge_58 : decode cX11_judge 58 = .ok (.ireturn, 1) := by decide +kernel
set_option maxRecDepth 20000 in
theorem ggX11_image_X9_become : GoodIn wsX11_image wsX9_become := goodIn_r _ [9, 10, 11, 12, 13, 14, 15, 16, 17, 18, 19, 20, 21, 22, 23, 24, 25, 26, 27, 28, 29, 30, 31, 32, 33, 34, 35, 36, 37, 38, 39, 40, 41, 42, 43, 60, 61, 62, 63, 64, 65, 66, 67, 68, 69, 70, 71, 72, 73, 74] (by decide +kernel) (by decide +kernel)
set_option maxRecDepth 20000 in
theorem gX11_image_X9_become : GoodIn wsX11_image (wsV RX11 294 RX9 yX9_become wsX9_become) := goodIn_app (goodIn_of _ (by decide +kernel)) ggX11_image_X9_become
set_option maxRecDepth 20000 in
theorem ggX11_image_X3_highest : GoodIn wsX11_image wsX3_highest := goodIn_r _ [47] (by decide +kernel) (by decide +kernel)
set_option maxRecDepth 20000 in
theorem gX11_image_X3_highest : GoodIn wsX11_image (va_wsS RX11 87 yX3_highest wsX3_highest) := goodIn_app (goodIn_of _ (by decide +kernel)) ggX11_image_X3_highest
theorem dX11_image_0 : decode cX11_image 0 = .ok (.aload_n 0, 1) := by decide +kernel
theorem dX11_image_1 : decode cX11_image 1 = .ok (.getfield 18, 3) := by decide +kernel
theorem dX11_image_4 : decode cX11_image 4 = .ok (.aload_n 0, 1) := by decide +kernel
theorem dX11_image_5 : decode cX11_image 5 = .ok (.getfield 12, 3) := by decide +kernel
theorem dX11_image_8 : decode cX11_image 8 = .ok (.invokevirtual 294, 3) := by decide +kernel
theorem dX11_image_11 : decode cX11_image 11 = .ok (.aload_n 0, 1) := by decide +kernel
theorem dX11_image_12 : decode cX11_image 12 = .ok (.iconst 1, 1) := by decide +kernel
theorem dX11_image_13 : decode cX11_image 13 = .ok (.putfield 21, 3) := by decide +kernel
theorem dX11_image_16 : decode cX11_image 16 = .ok (.aload_n 0, 1) := by decide +kernel
theorem dX11_image_17 : decode cX11_image 17 = .ok (.getfield 12, 3) := by decide +kernel
theorem dX11_image_20 : decode cX11_image 20 = .ok (.getfield 83, 3) := by decide +kernel
theorem dX11_image_23 : decode cX11_image 23 = .ok (.invokestatic 87, 3) := by decide +kernel
theorem dX11_image_26 : decode cX11_image 26 = .ok (.ireturn, 1) := by decide +kernel
set_option maxRecDepth 20000 in
theorem ggX11_undo_X9_become : GoodIn wsX11_undo wsX9_become := goodIn_r _ [9, 10, 11, 12, 13, 14, 15, 16, 17, 18, 19, 20, 21, 22, 23, 24, 25, 26, 27, 28, 29, 30, 31, 32, 33, 34, 35, 36, 37, 38, 39, 40, 41, 42, 43, 60, 61, 62, 63, 64, 65, 66, 67, 68, 69, 70, 71, 72, 73, 74] (by decide +kernel) (by decide +kernel)
set_option maxRecDepth 20000 in
theorem gX11_undo_X9_become : GoodIn wsX11_undo (wsV RX11 294 RX9 yX9_become wsX9_become) := goodIn_app (goodIn_of _ (by decide +kernel)) ggX11_undo_X9_become
set_option maxRecDepth 20000 in
theorem ggX11_undo_X3_highest : GoodIn wsX11_undo wsX3_highest := goodIn_r _ [47] (by decide +kernel) (by decide +kernel)
set_option maxRecDepth 20000 in
theorem gX11_undo_X3_highest : GoodIn wsX11_undo (va_wsS RX11 87 yX3_highest wsX3_highest) := goodIn_app (goodIn_of _ (by decide +kernel)) ggX11_undo_X3_highest
theorem dX11_undo_0 : decode cX11_undo 0 = .ok (.aload_n 0, 1) := by decide +kernel
theorem dX11_undo_1 : decode cX11_undo 1 = .ok (.getfield 21, 3) := by decide +kernel
theorem dX11_undo_4 : decode cX11_undo 4 = .ok (.ifCond .ne 6, 3) := by decide +kernel
theorem dX11_undo_7 : decode cX11_undo 7 = .ok (.bipush (-3), 2) := by decide +kernel
theorem dX11_undo_9 : decode cX11_undo 9 = .ok (.ireturn, 1) := by decide +kernel
theorem dX11_undo_10 : decode cX11_undo 10 = .ok (.aload_n 0, 1) := by decide +kernel
theorem dX11_undo_11 : decode cX11_undo 11 = .ok (.getfield 12, 3) := by decide +kernel
theorem dX11_undo_14 : decode cX11_undo 14 = .ok (.aload_n 0, 1) := by decide +kernel
theorem dX11_undo_15 : decode cX11_undo 15 = .ok (.getfield 18, 3) := by decide +kernel
theorem dX11_undo_18 : decode cX11_undo 18 = .ok (.invokevirtual 294, 3) := by decide +kernel
theorem dX11_undo_21 : decode cX11_undo 21 = .ok (.aload_n 0, 1) := by decide +kernel
theorem dX11_undo_22 : decode cX11_undo 22 = .ok (.getfield 12, 3) := by decide +kernel
theorem dX11_undo_25 : decode cX11_undo 25 = .ok (.getfield 83, 3) := by decide +kernel
theorem dX11_undo_28 : decode cX11_undo 28 = .ok (.invokestatic 87, 3) := by decide +kernel
theorem dX11_undo_31 : decode cX11_undo 31 = .ok (.ireturn, 1) := by decide +kernel
set_option maxRecDepth 20000 in
theorem ggX11_count_X3_others : GoodIn wsX11_count wsX3_others := goodIn_r _ [17] (by decide +kernel) (by decide +kernel)
set_option maxRecDepth 20000 in
theorem gX11_count_X3_others : GoodIn wsX11_count (va_wsS RX11 109 yX3_others wsX3_others) := goodIn_app (goodIn_of _ (by decide +kernel)) ggX11_count_X3_others
set_option maxRecDepth 20000 in
theorem ggX11_count_X3_notBelow : GoodIn wsX11_count wsX3_notBelow := goodIn_r _ [20] (by decide +kernel) (by decide +kernel)
set_option maxRecDepth 20000 in
theorem gX11_count_X3_notBelow : GoodIn wsX11_count (va_wsS RX11 297 yX3_notBelow wsX3_notBelow) := goodIn_app (goodIn_of _ (by decide +kernel)) ggX11_count_X3_notBelow
set_option maxRecDepth 20000 in
theorem ggX11_count_X0_isThere : GoodIn wsX11_count wsX0_isThere := goodIn_r _ [25, 26, 62, 63, 64, 65, 66, 67, 68] (by decide +kernel) (by decide +kernel)
set_option maxRecDepth 20000 in
theorem gX11_count_X0_isThere : GoodIn wsX11_count (wsV RX11 150 RX0 yX0_isThere wsX0_isThere) := goodIn_app (goodIn_of _ (by decide +kernel)) ggX11_count_X0_isThere
theorem dX11_count_0 : decode cX11_count 0 = .ok (.iload_n 1, 1) := by decide +kernel
theorem dX11_count_1 : decode cX11_count 1 = .ok (.tableswitch 128 0 6 #[43, 54, 68, 79, 87, 98, 109], 43) := by decide +kernel
theorem dX11_count_44 : decode cX11_count 44 = .ok (.aload_n 0, 1) := by decide +kernel
theorem dX11_count_45 : decode cX11_count 45 = .ok (.getfield 12, 3) := by decide +kernel
theorem dX11_count_48 : decode cX11_count 48 = .ok (.getfield 83, 3) := by decide +kernel
theorem dX11_count_51 : decode cX11_count 51 = .ok (.invokestatic 109, 3) := by decide +kernel
theorem dX11_count_54 : decode cX11_count 54 = .ok (.ireturn, 1) := by decide +kernel
theorem dX11_count_55 : decode cX11_count 55 = .ok (.aload_n 0, 1) := by decide +kernel
theorem dX11_count_56 : decode cX11_count 56 = .ok (.getfield 12, 3) := by decide +kernel
theorem dX11_count_59 : decode cX11_count 59 = .ok (.getfield 102, 3) := by decide +kernel
theorem dX11_count_62 : decode cX11_count 62 = .ok (.getfield 106, 3) := by decide +kernel
theorem dX11_count_65 : decode cX11_count 65 = .ok (.invokestatic 109, 3) := by decide +kernel
theorem dX11_count_68 : decode cX11_count 68 = .ok (.ireturn, 1) := by decide +kernel
theorem dX11_count_69 : decode cX11_count 69 = .ok (.aload_n 0, 1) := by decide +kernel
theorem dX11_count_70 : decode cX11_count 70 = .ok (.getfield 12, 3) := by decide +kernel
theorem dX11_count_73 : decode cX11_count 73 = .ok (.getfield 218, 3) := by decide +kernel
theorem dX11_count_76 : decode cX11_count 76 = .ok (.getfield 222, 3) := by decide +kernel
theorem dX11_count_79 : decode cX11_count 79 = .ok (.ireturn, 1) := by decide +kernel
theorem dX11_count_80 : decode cX11_count 80 = .ok (.aload_n 0, 1) := by decide +kernel
theorem dX11_count_81 : decode cX11_count 81 = .ok (.getfield 61, 3) := by decide +kernel
theorem dX11_count_84 : decode cX11_count 84 = .ok (.getfield 268, 3) := by decide +kernel
theorem dX11_count_87 : decode cX11_count 87 = .ok (.ireturn, 1) := by decide +kernel
theorem dX11_count_88 : decode cX11_count 88 = .ok (.aload_n 0, 1) := by decide +kernel
theorem dX11_count_89 : decode cX11_count 89 = .ok (.getfield 54, 3) := by decide +kernel
theorem dX11_count_92 : decode cX11_count 92 = .ok (.getfield 246, 3) := by decide +kernel
theorem dX11_count_95 : decode cX11_count 95 = .ok (.invokestatic 297, 3) := by decide +kernel
theorem dX11_count_98 : decode cX11_count 98 = .ok (.ireturn, 1) := by decide +kernel
theorem dX11_count_99 : decode cX11_count 99 = .ok (.aload_n 0, 1) := by decide +kernel
theorem dX11_count_100 : decode cX11_count 100 = .ok (.getfield 68, 3) := by decide +kernel
theorem dX11_count_103 : decode cX11_count 103 = .ok (.getfield 285, 3) := by decide +kernel
theorem dX11_count_106 : decode cX11_count 106 = .ok (.invokestatic 297, 3) := by decide +kernel
theorem dX11_count_109 : decode cX11_count 109 = .ok (.ireturn, 1) := by decide +kernel
theorem dX11_count_110 : decode cX11_count 110 = .ok (.aload_n 0, 1) := by decide +kernel
theorem dX11_count_111 : decode cX11_count 111 = .ok (.getfield 12, 3) := by decide +kernel
theorem dX11_count_114 : decode cX11_count 114 = .ok (.getfield 140, 3) := by decide +kernel
theorem dX11_count_117 : decode cX11_count 117 = .ok (.invokevirtual 150, 3) := by decide +kernel
theorem dX11_count_120 : decode cX11_count 120 = .ok (.ifCond .eq 7, 3) := by decide +kernel
theorem dX11_count_123 : decode cX11_count 123 = .ok (.iconst 1, 1) := by decide +kernel
theorem dX11_count_124 : decode cX11_count 124 = .ok (.goto 4, 3) := by decide +kernel
theorem dX11_count_127 : decode cX11_count 127 = .ok (.iconst 0, 1) := by decide +kernel
theorem dX11_count_128 : decode cX11_count 128 = .ok (.ireturn, 1) := by decide +kernel
theorem dX11_count_129 : decode cX11_count 129 = .ok (.iconst (-1), 1) := by decide +kernel
theorem dX11_count_130 : decode cX11_count 130 = .ok (.ireturn, 1) := by decide +kernel
theorem dX11_within_0 : decode cX11_within 0 = .ok (.iload_n 0, 1) := by decide +kernel
theorem dX11_within_1 : decode cX11_within 1 = .ok (.iload_n 1, 1) := by decide +kernel
theorem dX11_within_2 : decode cX11_within 2 = .ok (.if_icmp .lt 12, 3) := by decide +kernel
theorem dX11_within_5 : decode cX11_within 5 = .ok (.iload_n 0, 1) := by decide +kernel
theorem dX11_within_6 : decode cX11_within 6 = .ok (.iload_n 2, 1) := by decide +kernel
theorem dX11_within_7 : decode cX11_within 7 = .ok (.if_icmp .gt 7, 3) := by decide +kernel
theorem dX11_within_10 : decode cX11_within 10 = .ok (.iconst 1, 1) := by decide +kernel
theorem dX11_within_11 : decode cX11_within 11 = .ok (.goto 4, 3) := by decide +kernel
theorem dX11_within_14 : decode cX11_within 14 = .ok (.iconst 0, 1) := by decide +kernel
theorem dX11_within_15 : decode cX11_within 15 = .ok (.ireturn, 1) := by decide +kernel
theorem dX11_floatPattern_0 : decode cX11_floatPattern 0 = .ok (.iload_n 0, 1) := by decide +kernel
theorem dX11_floatPattern_1 : decode cX11_floatPattern 1 = .ok (.i2l, 1) := by decide +kernel
theorem dX11_floatPattern_2 : decode cX11_floatPattern 2 = .ok (.ldc2_w 300, 3) := by decide +kernel
theorem dX11_floatPattern_5 : decode cX11_floatPattern 5 = .ok (.land, 1) := by decide +kernel
theorem dX11_floatPattern_6 : decode cX11_floatPattern 6 = .ok (.lreturn, 1) := by decide +kernel
theorem dX12_init_0 : decode cX12_init 0 = .ok (.aload_n 0, 1) := by decide +kernel
theorem dX12_init_1 : decode cX12_init 1 = .ok (.invokespecial 3, 3) := by decide +kernel
theorem dX12_init_4 : decode cX12_init 4 = .ok (.aload_n 0, 1) := by decide +kernel
theorem dX12_init_5 : decode cX12_init 5 = .ok (.iconst 5, 1) := by decide +kernel
theorem dX12_init_6 : decode cX12_init 6 = .ok (.newarray .int, 2) := by decide +kernel
theorem dX12_init_8 : decode cX12_init 8 = .ok (.putfield 9, 3) := by decide +kernel
theorem dX12_init_11 : decode cX12_init 11 = .ok (.aload_n 0, 1) := by decide +kernel
theorem dX12_init_12 : decode cX12_init 12 = .ok (.bipush 75, 2) := by decide +kernel
theorem dX12_init_14 : decode cX12_init 14 = .ok (.newarray .int, 2) := by decide +kernel
theorem dX12_init_16 : decode cX12_init 16 = .ok (.putfield 15, 3) := by decide +kernel
theorem dX12_init_19 : decode cX12_init 19 = .ok (.aload_n 0, 1) := by decide +kernel
theorem dX12_init_20 : decode cX12_init 20 = .ok (.bipush 75, 2) := by decide +kernel
theorem dX12_init_22 : decode cX12_init 22 = .ok (.newarray .int, 2) := by decide +kernel
theorem dX12_init_24 : decode cX12_init 24 = .ok (.putfield 18, 3) := by decide +kernel
theorem dX12_init_27 : decode cX12_init 27 = .ok (.aload_n 0, 1) := by decide +kernel
theorem dX12_init_28 : decode cX12_init 28 = .ok (.bipush 9, 2) := by decide +kernel
theorem dX12_init_30 : decode cX12_init 30 = .ok (.newarray .int, 2) := by decide +kernel
theorem dX12_init_32 : decode cX12_init 32 = .ok (.putfield 21, 3) := by decide +kernel
theorem dX12_init_35 : decode cX12_init 35 = .ok (.aload_n 0, 1) := by decide +kernel
theorem dX12_init_36 : decode cX12_init 36 = .ok (.bipush 125, 2) := by decide +kernel
theorem dX12_init_38 : decode cX12_init 38 = .ok (.newarray .int, 2) := by decide +kernel
theorem dX12_init_40 : decode cX12_init 40 = .ok (.putfield 24, 3) := by decide +kernel
theorem dX12_init_43 : decode cX12_init 43 = .ok (.aload_n 0, 1) := by decide +kernel
theorem dX12_init_44 : decode cX12_init 44 = .ok (.sipush 1125, 3) := by decide +kernel
theorem dX12_init_47 : decode cX12_init 47 = .ok (.newarray .int, 2) := by decide +kernel
theorem dX12_init_49 : decode cX12_init 49 = .ok (.putfield 27, 3) := by decide +kernel
theorem dX12_init_52 : decode cX12_init 52 = .ok (.aload_n 0, 1) := by decide +kernel
theorem dX12_init_53 : decode cX12_init 53 = .ok (.sipush 225, 3) := by decide +kernel
theorem dX12_init_56 : decode cX12_init 56 = .ok (.newarray .int, 2) := by decide +kernel
theorem dX12_init_58 : decode cX12_init 58 = .ok (.putfield 30, 3) := by decide +kernel
theorem dX12_init_61 : decode cX12_init 61 = .ok (.aload_n 0, 1) := by decide +kernel
theorem dX12_init_62 : decode cX12_init 62 = .ok (.bipush 9, 2) := by decide +kernel
theorem dX12_init_64 : decode cX12_init 64 = .ok (.newarray .int, 2) := by decide +kernel
theorem dX12_init_66 : decode cX12_init 66 = .ok (.putfield 33, 3) := by decide +kernel
theorem dX12_init_69 : decode cX12_init 69 = .ok (.aload_n 0, 1) := by decide +kernel
theorem dX12_init_70 : decode cX12_init 70 = .ok (.sipush 18900, 3) := by decide +kernel
theorem dX12_init_73 : decode cX12_init 73 = .ok (.newarray .int, 2) := by decide +kernel
theorem dX12_init_75 : decode cX12_init 75 = .ok (.putfield 36, 3) := by decide +kernel
theorem dX12_init_78 : decode cX12_init 78 = .ok (.aload_n 0, 1) := by decide +kernel
theorem dX12_init_79 : decode cX12_init 79 = .ok (.bipush 84, 2) := by decide +kernel
theorem dX12_init_81 : decode cX12_init 81 = .ok (.newarray .int, 2) := by decide +kernel
theorem dX12_init_83 : decode cX12_init 83 = .ok (.putfield 39, 3) := by decide +kernel
theorem dX12_init_86 : decode cX12_init 86 = .ok (.aload_n 0, 1) := by decide +kernel
theorem dX12_init_87 : decode cX12_init 87 = .ok (.bipush 84, 2) := by decide +kernel
theorem dX12_init_89 : decode cX12_init 89 = .ok (.newarray .int, 2) := by decide +kernel
theorem dX12_init_91 : decode cX12_init 91 = .ok (.putfield 42, 3) := by decide +kernel
theorem dX12_init_94 : decode cX12_init 94 = .ok (.aload_n 0, 1) := by decide +kernel
theorem dX12_init_95 : decode cX12_init 95 = .ok (.bipush 9, 2) := by decide +kernel
theorem dX12_init_97 : decode cX12_init 97 = .ok (.newarray .int, 2) := by decide +kernel
theorem dX12_init_99 : decode cX12_init 99 = .ok (.putfield 45, 3) := by decide +kernel
theorem dX12_init_102 : decode cX12_init 102 = .ok (.aload_n 0, 1) := by decide +kernel
theorem dX12_init_103 : decode cX12_init 103 = .ok (.bipush 25, 2) := by decide +kernel
theorem dX12_init_105 : decode cX12_init 105 = .ok (.newarray .int, 2) := by decide +kernel
theorem dX12_init_107 : decode cX12_init 107 = .ok (.putfield 48, 3) := by decide +kernel
theorem dX12_init_110 : decode cX12_init 110 = .ok (.aload_n 0, 1) := by decide +kernel
theorem dX12_init_111 : decode cX12_init 111 = .ok (.bipush 25, 2) := by decide +kernel
theorem dX12_init_113 : decode cX12_init 113 = .ok (.newarray .int, 2) := by decide +kernel
theorem dX12_init_115 : decode cX12_init 115 = .ok (.putfield 51, 3) := by decide +kernel
theorem dX12_init_118 : decode cX12_init 118 = .ok (.aload_n 0, 1) := by decide +kernel
theorem dX12_init_119 : decode cX12_init 119 = .ok (.bipush 8, 2) := by decide +kernel
theorem dX12_init_121 : decode cX12_init 121 = .ok (.newarray .int, 2) := by decide +kernel
theorem dX12_init_123 : decode cX12_init 123 = .ok (.putfield 54, 3) := by decide +kernel
theorem dX12_init_126 : decode cX12_init 126 = .ok (.aload_n 0, 1) := by decide +kernel
theorem dX12_init_127 : decode cX12_init 127 = .ok (.bipush 8, 2) := by decide +kernel
theorem dX12_init_129 : decode cX12_init 129 = .ok (.newarray .int, 2) := by decide +kernel
theorem dX12_init_131 : decode cX12_init 131 = .ok (.putfield 57, 3) := by decide +kernel
theorem dX12_init_134 : decode cX12_init 134 = .ok (.aload_n 0, 1) := by decide +kernel
theorem dX12_init_135 : decode cX12_init 135 = .ok (.iconst 5, 1) := by decide +kernel
theorem dX12_init_136 : decode cX12_init 136 = .ok (.newarray .int, 2) := by decide +kernel
theorem dX12_init_138 : decode cX12_init 138 = .ok (.putfield 60, 3) := by decide +kernel
theorem dX12_init_141 : decode cX12_init 141 = .ok (.aload_n 0, 1) := by decide +kernel
theorem dX12_init_142 : decode cX12_init 142 = .ok (.iconst 5, 1) := by decide +kernel
theorem dX12_init_143 : decode cX12_init 143 = .ok (.newarray .int, 2) := by decide +kernel
theorem dX12_init_145 : decode cX12_init 145 = .ok (.putfield 63, 3) := by decide +kernel
theorem dX12_init_148 : decode cX12_init 148 = .ok (.aload_n 0, 1) := by decide +kernel
theorem dX12_init_149 : decode cX12_init 149 = .ok (.iconst 3, 1) := by decide +kernel
theorem dX12_init_150 : decode cX12_init 150 = .ok (.newarray .int, 2) := by decide +kernel
theorem dX12_init_152 : decode cX12_init 152 = .ok (.dup, 1) := by decide +kernel
theorem dX12_init_153 : decode cX12_init 153 = .ok (.iconst 0, 1) := by decide +kernel
theorem dX12_init_154 : decode cX12_init 154 = .ok (.iconst (-1), 1) := by decide +kernel
theorem dX12_init_155 : decode cX12_init 155 = .ok (.iastore, 1) := by decide +kernel
theorem dX12_init_156 : decode cX12_init 156 = .ok (.dup, 1) := by decide +kernel
theorem dX12_init_157 : decode cX12_init 157 = .ok (.iconst 1, 1) := by decide +kernel
theorem dX12_init_158 : decode cX12_init 158 = .ok (.iconst (-1), 1) := by decide +kernel
theorem dX12_init_159 : decode cX12_init 159 = .ok (.iastore, 1) := by decide +kernel
theorem dX12_init_160 : decode cX12_init 160 = .ok (.dup, 1) := by decide +kernel
theorem dX12_init_161 : decode cX12_init 161 = .ok (.iconst 2, 1) := by decide +kernel
theorem dX12_init_162 : decode cX12_init 162 = .ok (.iconst (-1), 1) := by decide +kernel
theorem dX12_init_163 : decode cX12_init 163 = .ok (.iastore, 1) := by decide +kernel
theorem dX12_init_164 : decode cX12_init 164 = .ok (.putfield 66, 3) := by decide +kernel
theorem dX12_init_167 : decode cX12_init 167 = .ok (.aload_n 0, 1) := by decide +kernel
theorem dX12_init_168 : decode cX12_init 168 = .ok (.iconst 3, 1) := by decide +kernel
theorem dX12_init_169 : decode cX12_init 169 = .ok (.newarray .int, 2) := by decide +kernel
theorem dX12_init_171 : decode cX12_init 171 = .ok (.putfield 69, 3) := by decide +kernel
theorem dX12_init_174 : decode cX12_init 174 = .ok (.aload_n 0, 1) := by decide +kernel
theorem dX12_init_175 : decode cX12_init 175 = .ok (.bipush 30, 2) := by decide +kernel
theorem dX12_init_177 : decode cX12_init 177 = .ok (.newarray .int, 2) := by decide +kernel
theorem dX12_init_179 : decode cX12_init 179 = .ok (.putfield 72, 3) := by decide +kernel
theorem dX12_init_182 : decode cX12_init 182 = .ok (.aload_n 0, 1) := by decide +kernel
theorem dX12_init_183 : decode cX12_init 183 = .ok (.bipush 30, 2) := by decide +kernel
theorem dX12_init_185 : decode cX12_init 185 = .ok (.newarray .boolean, 2) := by decide +kernel
theorem dX12_init_187 : decode cX12_init 187 = .ok (.putfield 75, 3) := by decide +kernel
theorem dX12_init_190 : decode cX12_init 190 = .ok (.aload_n 0, 1) := by decide +kernel
theorem dX12_init_191 : decode cX12_init 191 = .ok (.bipush 60, 2) := by decide +kernel
theorem dX12_init_193 : decode cX12_init 193 = .ok (.newarray .int, 2) := by decide +kernel
theorem dX12_init_195 : decode cX12_init 195 = .ok (.putfield 79, 3) := by decide +kernel
theorem dX12_init_198 : decode cX12_init 198 = .ok (.aload_n 0, 1) := by decide +kernel
theorem dX12_init_199 : decode cX12_init 199 = .ok (.iconst 5, 1) := by decide +kernel
theorem dX12_init_200 : decode cX12_init 200 = .ok (.newarray .int, 2) := by decide +kernel
theorem dX12_init_202 : decode cX12_init 202 = .ok (.putfield 82, 3) := by decide +kernel
theorem dX12_init_205 : decode cX12_init 205 = .ok (.aload_n 0, 1) := by decide +kernel
theorem dX12_init_206 : decode cX12_init 206 = .ok (.iconst 3, 1) := by decide +kernel
theorem dX12_init_207 : decode cX12_init 207 = .ok (.newarray .int, 2) := by decide +kernel
theorem dX12_init_209 : decode cX12_init 209 = .ok (.dup, 1) := by decide +kernel
theorem dX12_init_210 : decode cX12_init 210 = .ok (.iconst 0, 1) := by decide +kernel
theorem dX12_init_211 : decode cX12_init 211 = .ok (.iconst (-1), 1) := by decide +kernel
theorem dX12_init_212 : decode cX12_init 212 = .ok (.iastore, 1) := by decide +kernel
theorem dX12_init_213 : decode cX12_init 213 = .ok (.dup, 1) := by decide +kernel
theorem dX12_init_214 : decode cX12_init 214 = .ok (.iconst 1, 1) := by decide +kernel
theorem dX12_init_215 : decode cX12_init 215 = .ok (.iconst (-1), 1) := by decide +kernel
theorem dX12_init_216 : decode cX12_init 216 = .ok (.iastore, 1) := by decide +kernel
theorem dX12_init_217 : decode cX12_init 217 = .ok (.dup, 1) := by decide +kernel
theorem dX12_init_218 : decode cX12_init 218 = .ok (.iconst 2, 1) := by decide +kernel
theorem dX12_init_219 : decode cX12_init 219 = .ok (.iconst (-1), 1) := by decide +kernel
theorem dX12_init_220 : decode cX12_init 220 = .ok (.iastore, 1) := by decide +kernel
theorem dX12_init_221 : decode cX12_init 221 = .ok (.putfield 85, 3) := by decide +kernel
theorem dX12_init_224 : decode cX12_init 224 = .ok (.aload_n 0, 1) := by decide +kernel
theorem dX12_init_225 : decode cX12_init 225 = .ok (.bipush 36, 2) := by decide +kernel
theorem dX12_init_227 : decode cX12_init 227 = .ok (.newarray .long, 2) := by decide +kernel
theorem dX12_init_229 : decode cX12_init 229 = .ok (.putfield 88, 3) := by decide +kernel
theorem dX12_init_232 : decode cX12_init 232 = .ok (.aload_n 0, 1) := by decide +kernel
theorem dX12_init_233 : decode cX12_init 233 = .ok (.iconst 5, 1) := by decide +kernel
theorem dX12_init_234 : decode cX12_init 234 = .ok (.newarray .int, 2) := by decide +kernel
theorem dX12_init_236 : decode cX12_init 236 = .ok (.putfield 92, 3) := by decide +kernel
theorem dX12_init_239 : decode cX12_init 239 = .ok (.aload_n 0, 1) := by decide +kernel
theorem dX12_init_240 : decode cX12_init 240 = .ok (.bipush 75, 2) := by decide +kernel
theorem dX12_init_242 : decode cX12_init 242 = .ok (.newarray .int, 2) := by decide +kernel
theorem dX12_init_244 : decode cX12_init 244 = .ok (.putfield 95, 3) := by decide +kernel
theorem dX12_init_247 : decode cX12_init 247 = .ok (.aload_n 0, 1) := by decide +kernel
theorem dX12_init_248 : decode cX12_init 248 = .ok (.bipush 75, 2) := by decide +kernel
theorem dX12_init_250 : decode cX12_init 250 = .ok (.newarray .int, 2) := by decide +kernel
theorem dX12_init_252 : decode cX12_init 252 = .ok (.putfield 98, 3) := by decide +kernel
theorem dX12_init_255 : decode cX12_init 255 = .ok (.aload_n 0, 1) := by decide +kernel
theorem dX12_init_256 : decode cX12_init 256 = .ok (.bipush 9, 2) := by decide +kernel
theorem dX12_init_258 : decode cX12_init 258 = .ok (.newarray .int, 2) := by decide +kernel
theorem dX12_init_260 : decode cX12_init 260 = .ok (.putfield 101, 3) := by decide +kernel
theorem dX12_init_263 : decode cX12_init 263 = .ok (.aload_n 0, 1) := by decide +kernel
theorem dX12_init_264 : decode cX12_init 264 = .ok (.bipush 8, 2) := by decide +kernel
theorem dX12_init_266 : decode cX12_init 266 = .ok (.newarray .int, 2) := by decide +kernel
theorem dX12_init_268 : decode cX12_init 268 = .ok (.putfield 104, 3) := by decide +kernel
theorem dX12_init_271 : decode cX12_init 271 = .ok (.aload_n 0, 1) := by decide +kernel
theorem dX12_init_272 : decode cX12_init 272 = .ok (.bipush 8, 2) := by decide +kernel
theorem dX12_init_274 : decode cX12_init 274 = .ok (.newarray .int, 2) := by decide +kernel
theorem dX12_init_276 : decode cX12_init 276 = .ok (.putfield 107, 3) := by decide +kernel
theorem dX12_init_279 : decode cX12_init 279 = .ok (.aload_n 0, 1) := by decide +kernel
theorem dX12_init_280 : decode cX12_init 280 = .ok (.getfield 9, 3) := by decide +kernel
theorem dX12_init_283 : decode cX12_init 283 = .ok (.iconst 2, 1) := by decide +kernel
theorem dX12_init_284 : decode cX12_init 284 = .ok (.iconst 1, 1) := by decide +kernel
theorem dX12_init_285 : decode cX12_init 285 = .ok (.iastore, 1) := by decide +kernel
theorem dX12_init_286 : decode cX12_init 286 = .ok (.return_, 1) := by decide +kernel
theorem dX12_isIn_0 : decode cX12_isIn 0 = .ok (.iload_n 0, 1) := by decide +kernel
theorem dX12_isIn_1 : decode cX12_isIn 1 = .ok (.iload_n 1, 1) := by decide +kernel
theorem dX12_isIn_2 : decode cX12_isIn 2 = .ok (.if_icmp .lt 12, 3) := by decide +kernel
theorem dX12_isIn_5 : decode cX12_isIn 5 = .ok (.iload_n 0, 1) := by decide +kernel
theorem dX12_isIn_6 : decode cX12_isIn 6 = .ok (.iload_n 2, 1) := by decide +kernel
theorem dX12_isIn_7 : decode cX12_isIn 7 = .ok (.if_icmp .gt 7, 3) := by decide +kernel
theorem dX12_isIn_10 : decode cX12_isIn 10 = .ok (.iconst 1, 1) := by decide +kernel
theorem dX12_isIn_11 : decode cX12_isIn 11 = .ok (.goto 4, 3) := by decide +kernel
theorem dX12_isIn_14 : decode cX12_isIn 14 = .ok (.iconst 0, 1) := by decide +kernel
theorem dX12_isIn_15 : decode cX12_isIn 15 = .ok (.ireturn, 1) := by decide +kernel
set_option maxRecDepth 20000 in
theorem ggX12_modulo_J9_floorMod_7cf53 : GoodIn wsX12_modulo wsJ9_floorMod_7cf53 := goodIn_r _ [4] (by decide +kernel) (by decide +kernel)
set_option maxRecDepth 20000 in
theorem gX12_modulo_J9_floorMod_7cf53 : GoodIn wsX12_modulo (va_wsS RX12 110 yJ9_floorMod_7cf53 wsJ9_floorMod_7cf53) := goodIn_app (goodIn_of _ (by decide +kernel)) ggX12_modulo_J9_floorMod_7cf53
theorem dX12_modulo_0 : decode cX12_modulo 0 = .ok (.iload_n 0, 1) := by decide +kernel
theorem dX12_modulo_1 : decode cX12_modulo 1 = .ok (.sipush 10007, 3) := by decide +kernel
theorem dX12_modulo_4 : decode cX12_modulo 4 = .ok (.invokestatic 110, 3) := by decide +kernel
theorem dX12_modulo_7 : decode cX12_modulo 7 = .ok (.ireturn, 1) := by decide +kernel
theorem dX12_signed_0 : decode cX12_signed 0 = .ok (.iload_n 0, 1) := by decide +kernel
theorem dX12_signed_1 : decode cX12_signed 1 = .ok (.sipush 5003, 3) := by decide +kernel
theorem dX12_signed_4 : decode cX12_signed 4 = .ok (.if_icmp .le 11, 3) := by decide +kernel
theorem dX12_signed_7 : decode cX12_signed 7 = .ok (.iload_n 0, 1) := by decide +kernel
theorem dX12_signed_8 : decode cX12_signed 8 = .ok (.sipush 10007, 3) := by decide +kernel
theorem dX12_signed_11 : decode cX12_signed 11 = .ok (.isub, 1) := by decide +kernel
theorem dX12_signed_12 : decode cX12_signed 12 = .ok (.goto 4, 3) := by decide +kernel
theorem dX12_signed_15 : decode cX12_signed 15 = .ok (.iload_n 0, 1) := by decide +kernel
theorem dX12_signed_16 : decode cX12_signed 16 = .ok (.ireturn, 1) := by decide +kernel
set_option maxRecDepth 20000 in
theorem ggX12_told_X12_signed : GoodIn wsX12_told wsX12_signed := goodIn_r _ [5] (by decide +kernel) (by decide +kernel)
set_option maxRecDepth 20000 in
theorem gX12_told_X12_signed : GoodIn wsX12_told (va_wsS RX12 117 yX12_signed wsX12_signed) := goodIn_app (goodIn_of _ (by decide +kernel)) ggX12_told_X12_signed
theorem dX12_told_0 : decode cX12_told 0 = .ok (.ldc 116, 2) := by decide +kernel
theorem dX12_told_2 : decode cX12_told 2 = .ok (.iload_n 0, 1) := by decide +kernel
theorem dX12_told_3 : decode cX12_told 3 = .ok (.invokestatic 117, 3) := by decide +kernel
theorem dX12_told_6 : decode cX12_told 6 = .ok (.iadd, 1) := by decide +kernel
theorem dX12_told_7 : decode cX12_told 7 = .ok (.ireturn, 1) := by decide +kernel
theorem dX12_inverse_0 : decode cX12_inverse 0 = .ok (.iconst 1, 1) := by decide +kernel
theorem dX12_inverse_1 : decode cX12_inverse 1 = .ok (.istore_n 1, 1) := by decide +kernel
theorem dX12_inverse_2 : decode cX12_inverse 2 = .ok (.iload_n 0, 1) := by decide +kernel
theorem dX12_inverse_3 : decode cX12_inverse 3 = .ok (.istore_n 2, 1) := by decide +kernel
theorem dX12_inverse_4 : decode cX12_inverse 4 = .ok (.sipush 10005, 3) := by decide +kernel
theorem dX12_inverse_7 : decode cX12_inverse 7 = .ok (.istore_n 3, 1) := by decide +kernel
theorem dX12_inverse_8 : decode cX12_inverse 8 = .ok (.iload_n 3, 1) := by decide +kernel
theorem dX12_inverse_9 : decode cX12_inverse 9 = .ok (.ifCond .le 37, 3) := by decide +kernel
theorem dX12_inverse_12 : decode cX12_inverse 12 = .ok (.iload_n 3, 1) := by decide +kernel
theorem dX12_inverse_13 : decode cX12_inverse 13 = .ok (.iconst 2, 1) := by decide +kernel
theorem dX12_inverse_14 : decode cX12_inverse 14 = .ok (.irem, 1) := by decide +kernel
theorem dX12_inverse_15 : decode cX12_inverse 15 = .ok (.iconst 1, 1) := by decide +kernel
theorem dX12_inverse_16 : decode cX12_inverse 16 = .ok (.if_icmp .ne 13, 3) := by decide +kernel
theorem dX12_inverse_19 : decode cX12_inverse 19 = .ok (.iload_n 1, 1) := by decide +kernel
theorem dX12_inverse_20 : decode cX12_inverse 20 = .ok (.iload_n 2, 1) := by decide +kernel
theorem dX12_inverse_21 : decode cX12_inverse 21 = .ok (.imul, 1) := by decide +kernel
theorem dX12_inverse_22 : decode cX12_inverse 22 = .ok (.sipush 10007, 3) := by decide +kernel
theorem dX12_inverse_25 : decode cX12_inverse 25 = .ok (.irem, 1) := by decide +kernel
theorem dX12_inverse_26 : decode cX12_inverse 26 = .ok (.goto 4, 3) := by decide +kernel
theorem dX12_inverse_29 : decode cX12_inverse 29 = .ok (.iload_n 1, 1) := by decide +kernel
theorem dX12_inverse_30 : decode cX12_inverse 30 = .ok (.istore_n 1, 1) := by decide +kernel
theorem dX12_inverse_31 : decode cX12_inverse 31 = .ok (.iload_n 2, 1) := by decide +kernel
theorem dX12_inverse_32 : decode cX12_inverse 32 = .ok (.iload_n 2, 1) := by decide +kernel
theorem dX12_inverse_33 : decode cX12_inverse 33 = .ok (.imul, 1) := by decide +kernel
theorem dX12_inverse_34 : decode cX12_inverse 34 = .ok (.sipush 10007, 3) := by decide +kernel
theorem dX12_inverse_37 : decode cX12_inverse 37 = .ok (.irem, 1) := by decide +kernel
theorem dX12_inverse_38 : decode cX12_inverse 38 = .ok (.istore_n 2, 1) := by decide +kernel
theorem dX12_inverse_39 : decode cX12_inverse 39 = .ok (.iload_n 3, 1) := by decide +kernel
theorem dX12_inverse_40 : decode cX12_inverse 40 = .ok (.iconst 2, 1) := by decide +kernel
theorem dX12_inverse_41 : decode cX12_inverse 41 = .ok (.idiv, 1) := by decide +kernel
theorem dX12_inverse_42 : decode cX12_inverse 42 = .ok (.istore_n 3, 1) := by decide +kernel
theorem dX12_inverse_43 : decode cX12_inverse 43 = .ok (.goto (-35), 3) := by decide +kernel
theorem dX12_inverse_46 : decode cX12_inverse 46 = .ok (.iload_n 1, 1) := by decide +kernel
theorem dX12_inverse_47 : decode cX12_inverse 47 = .ok (.ireturn, 1) := by decide +kernel
theorem dX12_degreeOf_0 : decode cX12_degreeOf 0 = .ok (.iconst 4, 1) := by decide +kernel
theorem dX12_degreeOf_1 : decode cX12_degreeOf 1 = .ok (.istore_n 1, 1) := by decide +kernel
theorem dX12_degreeOf_2 : decode cX12_degreeOf 2 = .ok (.iload_n 1, 1) := by decide +kernel
theorem dX12_degreeOf_3 : decode cX12_degreeOf 3 = .ok (.ifCond .lt 18, 3) := by decide +kernel
theorem dX12_degreeOf_6 : decode cX12_degreeOf 6 = .ok (.aload_n 0, 1) := by decide +kernel
theorem dX12_degreeOf_7 : decode cX12_degreeOf 7 = .ok (.getfield 9, 3) := by decide +kernel
theorem dX12_degreeOf_10 : decode cX12_degreeOf 10 = .ok (.iload_n 1, 1) := by decide +kernel
theorem dX12_degreeOf_11 : decode cX12_degreeOf 11 = .ok (.iaload, 1) := by decide +kernel
theorem dX12_degreeOf_12 : decode cX12_degreeOf 12 = .ok (.ifCond .ne 9, 3) := by decide +kernel
theorem dX12_degreeOf_15 : decode cX12_degreeOf 15 = .ok (.iinc 1 (-1), 3) := by decide +kernel
theorem dX12_degreeOf_18 : decode cX12_degreeOf 18 = .ok (.goto (-16), 3) := by decide +kernel
theorem dX12_degreeOf_21 : decode cX12_degreeOf 21 = .ok (.iload_n 1, 1) := by decide +kernel
theorem dX12_degreeOf_22 : decode cX12_degreeOf 22 = .ok (.ireturn, 1) := by decide +kernel
set_option maxRecDepth 20000 in
theorem ggX12_set_X12_isIn : GoodIn wsX12_set wsX12_isIn := goodIn_r _ [5] (by decide +kernel) (by decide +kernel)
set_option maxRecDepth 20000 in
theorem gX12_set_X12_isIn : GoodIn wsX12_set (va_wsS RX12 121 yX12_isIn wsX12_isIn) := goodIn_app (goodIn_of _ (by decide +kernel)) ggX12_set_X12_isIn
set_option maxRecDepth 20000 in
theorem ggX12_set_X12_modulo : GoodIn wsX12_set wsX12_modulo := goodIn_r _ [8, 9, 10, 11, 12] (by decide +kernel) (by decide +kernel)
set_option maxRecDepth 20000 in
theorem gX12_set_X12_modulo : GoodIn wsX12_set (va_wsS RX12 125 yX12_modulo wsX12_modulo) := goodIn_app (goodIn_of _ (by decide +kernel)) ggX12_set_X12_modulo
set_option maxRecDepth 20000 in
theorem ggX12_set_X12_told : GoodIn wsX12_set wsX12_told := goodIn_r _ [15, 16, 17, 18, 4, 19] (by decide +kernel) (by decide +kernel)
set_option maxRecDepth 20000 in
theorem gX12_set_X12_told : GoodIn wsX12_set (va_wsS RX12 128 yX12_told wsX12_told) := goodIn_app (goodIn_of _ (by decide +kernel)) ggX12_set_X12_told
theorem dX12_set_0 : decode cX12_set 0 = .ok (.iload_n 1, 1) := by decide +kernel
theorem dX12_set_1 : decode cX12_set 1 = .ok (.iconst 0, 1) := by decide +kernel
theorem dX12_set_2 : decode cX12_set 2 = .ok (.iconst 4, 1) := by decide +kernel
theorem dX12_set_3 : decode cX12_set 3 = .ok (.invokestatic 121, 3) := by decide +kernel
theorem dX12_set_6 : decode cX12_set 6 = .ok (.ifCond .ne 5, 3) := by decide +kernel
theorem dX12_set_9 : decode cX12_set 9 = .ok (.iconst (-1), 1) := by decide +kernel
theorem dX12_set_10 : decode cX12_set 10 = .ok (.ireturn, 1) := by decide +kernel
theorem dX12_set_11 : decode cX12_set 11 = .ok (.iload_n 2, 1) := by decide +kernel
theorem dX12_set_12 : decode cX12_set 12 = .ok (.sipush (-5003), 3) := by decide +kernel
theorem dX12_set_15 : decode cX12_set 15 = .ok (.sipush 5003, 3) := by decide +kernel
theorem dX12_set_18 : decode cX12_set 18 = .ok (.invokestatic 121, 3) := by decide +kernel
theorem dX12_set_21 : decode cX12_set 21 = .ok (.ifCond .ne 6, 3) := by decide +kernel
theorem dX12_set_24 : decode cX12_set 24 = .ok (.bipush (-2), 2) := by decide +kernel
theorem dX12_set_26 : decode cX12_set 26 = .ok (.ireturn, 1) := by decide +kernel
theorem dX12_set_27 : decode cX12_set 27 = .ok (.aload_n 0, 1) := by decide +kernel
theorem dX12_set_28 : decode cX12_set 28 = .ok (.getfield 9, 3) := by decide +kernel
theorem dX12_set_31 : decode cX12_set 31 = .ok (.iload_n 1, 1) := by decide +kernel
theorem dX12_set_32 : decode cX12_set 32 = .ok (.iaload, 1) := by decide +kernel
theorem dX12_set_33 : decode cX12_set 33 = .ok (.istore_n 3, 1) := by decide +kernel
theorem dX12_set_34 : decode cX12_set 34 = .ok (.aload_n 0, 1) := by decide +kernel
theorem dX12_set_35 : decode cX12_set 35 = .ok (.getfield 9, 3) := by decide +kernel
theorem dX12_set_38 : decode cX12_set 38 = .ok (.iload_n 1, 1) := by decide +kernel
theorem dX12_set_39 : decode cX12_set 39 = .ok (.iload_n 2, 1) := by decide +kernel
theorem dX12_set_40 : decode cX12_set 40 = .ok (.invokestatic 125, 3) := by decide +kernel
theorem dX12_set_43 : decode cX12_set 43 = .ok (.iastore, 1) := by decide +kernel
theorem dX12_set_44 : decode cX12_set 44 = .ok (.iload_n 3, 1) := by decide +kernel
theorem dX12_set_45 : decode cX12_set 45 = .ok (.invokestatic 128, 3) := by decide +kernel
theorem dX12_set_48 : decode cX12_set 48 = .ok (.ireturn, 1) := by decide +kernel
set_option maxRecDepth 20000 in
theorem ggX12_of_X12_isIn : GoodIn wsX12_of wsX12_isIn := goodIn_r _ [5] (by decide +kernel) (by decide +kernel)
set_option maxRecDepth 20000 in
theorem gX12_of_X12_isIn : GoodIn wsX12_of (va_wsS RX12 121 yX12_isIn wsX12_isIn) := goodIn_app (goodIn_of _ (by decide +kernel)) ggX12_of_X12_isIn
set_option maxRecDepth 20000 in
theorem ggX12_of_X12_told : GoodIn wsX12_of wsX12_told := goodIn_r _ [8, 9, 10, 11, 4, 12] (by decide +kernel) (by decide +kernel)
set_option maxRecDepth 20000 in
theorem gX12_of_X12_told : GoodIn wsX12_of (va_wsS RX12 128 yX12_told wsX12_told) := goodIn_app (goodIn_of _ (by decide +kernel)) ggX12_of_X12_told
theorem dX12_of_0 : decode cX12_of 0 = .ok (.iload_n 1, 1) := by decide +kernel
theorem dX12_of_1 : decode cX12_of 1 = .ok (.iconst 0, 1) := by decide +kernel
theorem dX12_of_2 : decode cX12_of 2 = .ok (.iconst 4, 1) := by decide +kernel
theorem dX12_of_3 : decode cX12_of 3 = .ok (.invokestatic 121, 3) := by decide +kernel
theorem dX12_of_6 : decode cX12_of 6 = .ok (.ifCond .eq 15, 3) := by decide +kernel
theorem dX12_of_9 : decode cX12_of 9 = .ok (.aload_n 0, 1) := by decide +kernel
theorem dX12_of_10 : decode cX12_of 10 = .ok (.getfield 9, 3) := by decide +kernel
theorem dX12_of_13 : decode cX12_of 13 = .ok (.iload_n 1, 1) := by decide +kernel
theorem dX12_of_14 : decode cX12_of 14 = .ok (.iaload, 1) := by decide +kernel
theorem dX12_of_15 : decode cX12_of 15 = .ok (.invokestatic 128, 3) := by decide +kernel
theorem dX12_of_18 : decode cX12_of 18 = .ok (.goto 4, 3) := by decide +kernel
theorem dX12_of_21 : decode cX12_of 21 = .ok (.iconst (-1), 1) := by decide +kernel
theorem dX12_of_22 : decode cX12_of 22 = .ok (.ireturn, 1) := by decide +kernel
set_option maxRecDepth 20000 in
theorem ggX12_degree_X12_degreeOf : GoodIn wsX12_degree wsX12_degreeOf := goodIn_r _ [5, 6, 7, 8, 9, 10, 11, 12, 13, 14, 15, 16, 17, 18, 19, 20, 21, 22, 23, 24, 25, 26, 27, 28, 29, 30, 31, 32, 33, 34, 35, 36, 37, 38, 39, 40, 41, 42, 43, 44, 45, 46, 47, 48, 49, 50, 51] (by decide +kernel) (by decide +kernel)
set_option maxRecDepth 20000 in
theorem gX12_degree_X12_degreeOf : GoodIn wsX12_degree (wsV RX12 131 RX12 yX12_degreeOf wsX12_degreeOf) := goodIn_app (goodIn_of _ (by decide +kernel)) ggX12_degree_X12_degreeOf
theorem dX12_degree_0 : decode cX12_degree 0 = .ok (.aload_n 0, 1) := by decide +kernel
theorem dX12_degree_1 : decode cX12_degree 1 = .ok (.invokevirtual 131, 3) := by decide +kernel
theorem dX12_degree_4 : decode cX12_degree 4 = .ok (.ireturn, 1) := by decide +kernel
set_option maxRecDepth 20000 in
theorem ggX12_isNumber_X12_isIn : GoodIn wsX12_isNumber wsX12_isIn := goodIn_r _ [4] (by decide +kernel) (by decide +kernel)
set_option maxRecDepth 20000 in
theorem gX12_isNumber_X12_isIn : GoodIn wsX12_isNumber (va_wsS RX12 121 yX12_isIn wsX12_isIn) := goodIn_app (goodIn_of _ (by decide +kernel)) ggX12_isNumber_X12_isIn
theorem dX12_isNumber_0 : decode cX12_isNumber 0 = .ok (.iload_n 0, 1) := by decide +kernel
theorem dX12_isNumber_1 : decode cX12_isNumber 1 = .ok (.iconst 0, 1) := by decide +kernel
theorem dX12_isNumber_2 : decode cX12_isNumber 2 = .ok (.iconst 4, 1) := by decide +kernel
theorem dX12_isNumber_3 : decode cX12_isNumber 3 = .ok (.invokestatic 121, 3) := by decide +kernel
theorem dX12_isNumber_6 : decode cX12_isNumber 6 = .ok (.ifCond .eq 25, 3) := by decide +kernel
theorem dX12_isNumber_9 : decode cX12_isNumber 9 = .ok (.iload_n 1, 1) := by decide +kernel
theorem dX12_isNumber_10 : decode cX12_isNumber 10 = .ok (.iconst 0, 1) := by decide +kernel
theorem dX12_isNumber_11 : decode cX12_isNumber 11 = .ok (.iconst 4, 1) := by decide +kernel
theorem dX12_isNumber_12 : decode cX12_isNumber 12 = .ok (.invokestatic 121, 3) := by decide +kernel
theorem dX12_isNumber_15 : decode cX12_isNumber 15 = .ok (.ifCond .eq 16, 3) := by decide +kernel
theorem dX12_isNumber_18 : decode cX12_isNumber 18 = .ok (.iload_n 2, 1) := by decide +kernel
theorem dX12_isNumber_19 : decode cX12_isNumber 19 = .ok (.iconst 0, 1) := by decide +kernel
theorem dX12_isNumber_20 : decode cX12_isNumber 20 = .ok (.iconst 2, 1) := by decide +kernel
theorem dX12_isNumber_21 : decode cX12_isNumber 21 = .ok (.invokestatic 121, 3) := by decide +kernel
theorem dX12_isNumber_24 : decode cX12_isNumber 24 = .ok (.ifCond .eq 7, 3) := by decide +kernel
theorem dX12_isNumber_27 : decode cX12_isNumber 27 = .ok (.iconst 1, 1) := by decide +kernel
theorem dX12_isNumber_28 : decode cX12_isNumber 28 = .ok (.goto 4, 3) := by decide +kernel
theorem dX12_isNumber_31 : decode cX12_isNumber 31 = .ok (.iconst 0, 1) := by decide +kernel
theorem dX12_isNumber_32 : decode cX12_isNumber 32 = .ok (.ireturn, 1) := by decide +kernel
theorem dX12_placeOf_0 : decode cX12_placeOf 0 = .ok (.bipush 15, 2) := by decide +kernel
theorem dX12_placeOf_2 : decode cX12_placeOf 2 = .ok (.iload_n 0, 1) := by decide +kernel
theorem dX12_placeOf_3 : decode cX12_placeOf 3 = .ok (.imul, 1) := by decide +kernel
theorem dX12_placeOf_4 : decode cX12_placeOf 4 = .ok (.iconst 3, 1) := by decide +kernel
theorem dX12_placeOf_5 : decode cX12_placeOf 5 = .ok (.iload_n 1, 1) := by decide +kernel
theorem dX12_placeOf_6 : decode cX12_placeOf 6 = .ok (.imul, 1) := by decide +kernel
theorem dX12_placeOf_7 : decode cX12_placeOf 7 = .ok (.iadd, 1) := by decide +kernel
theorem dX12_placeOf_8 : decode cX12_placeOf 8 = .ok (.iload_n 2, 1) := by decide +kernel
theorem dX12_placeOf_9 : decode cX12_placeOf 9 = .ok (.iadd, 1) := by decide +kernel
theorem dX12_placeOf_10 : decode cX12_placeOf 10 = .ok (.ireturn, 1) := by decide +kernel
set_option maxRecDepth 20000 in
theorem ggX12_put_X12_isNumber : GoodIn wsX12_put wsX12_isNumber := goodIn_r _ [5, 6, 7, 4, 8] (by decide +kernel) (by decide +kernel)
set_option maxRecDepth 20000 in
theorem gX12_put_X12_isNumber : GoodIn wsX12_put (va_wsS RX12 135 yX12_isNumber wsX12_isNumber) := goodIn_app (goodIn_of _ (by decide +kernel)) ggX12_put_X12_isNumber
set_option maxRecDepth 20000 in
theorem ggX12_put_X12_isIn : GoodIn wsX12_put wsX12_isIn := goodIn_r _ [8] (by decide +kernel) (by decide +kernel)
set_option maxRecDepth 20000 in
theorem gX12_put_X12_isIn : GoodIn wsX12_put (va_wsS RX12 121 yX12_isIn wsX12_isIn) := goodIn_app (goodIn_of _ (by decide +kernel)) ggX12_put_X12_isIn
set_option maxRecDepth 20000 in
theorem ggX12_put_X12_placeOf : GoodIn wsX12_put wsX12_placeOf := goodIn_r _ [11] (by decide +kernel) (by decide +kernel)
set_option maxRecDepth 20000 in
theorem gX12_put_X12_placeOf : GoodIn wsX12_put (va_wsS RX12 138 yX12_placeOf wsX12_placeOf) := goodIn_app (goodIn_of _ (by decide +kernel)) ggX12_put_X12_placeOf
set_option maxRecDepth 20000 in
theorem ggX12_put_X12_modulo : GoodIn wsX12_put wsX12_modulo := goodIn_r _ [14, 15, 16, 17, 18] (by decide +kernel) (by decide +kernel)
set_option maxRecDepth 20000 in
theorem gX12_put_X12_modulo : GoodIn wsX12_put (va_wsS RX12 125 yX12_modulo wsX12_modulo) := goodIn_app (goodIn_of _ (by decide +kernel)) ggX12_put_X12_modulo
set_option maxRecDepth 20000 in
theorem ggX12_put_X12_told : GoodIn wsX12_put wsX12_told := goodIn_r _ [21, 22, 23, 24, 4, 25] (by decide +kernel) (by decide +kernel)
set_option maxRecDepth 20000 in
theorem gX12_put_X12_told : GoodIn wsX12_put (va_wsS RX12 128 yX12_told wsX12_told) := goodIn_app (goodIn_of _ (by decide +kernel)) ggX12_put_X12_told
theorem dX12_put_0 : decode cX12_put 0 = .ok (.iload_n 1, 1) := by decide +kernel
theorem dX12_put_1 : decode cX12_put 1 = .ok (.iload_n 2, 1) := by decide +kernel
theorem dX12_put_2 : decode cX12_put 2 = .ok (.iload_n 3, 1) := by decide +kernel
theorem dX12_put_3 : decode cX12_put 3 = .ok (.invokestatic 135, 3) := by decide +kernel
theorem dX12_put_6 : decode cX12_put 6 = .ok (.ifCond .ne 5, 3) := by decide +kernel
theorem dX12_put_9 : decode cX12_put 9 = .ok (.iconst (-1), 1) := by decide +kernel
theorem dX12_put_10 : decode cX12_put 10 = .ok (.ireturn, 1) := by decide +kernel
theorem dX12_put_11 : decode cX12_put 11 = .ok (.iload 4, 2) := by decide +kernel
theorem dX12_put_13 : decode cX12_put 13 = .ok (.sipush (-5003), 3) := by decide +kernel
theorem dX12_put_16 : decode cX12_put 16 = .ok (.sipush 5003, 3) := by decide +kernel
theorem dX12_put_19 : decode cX12_put 19 = .ok (.invokestatic 121, 3) := by decide +kernel
theorem dX12_put_22 : decode cX12_put 22 = .ok (.ifCond .ne 6, 3) := by decide +kernel
theorem dX12_put_25 : decode cX12_put 25 = .ok (.bipush (-2), 2) := by decide +kernel
theorem dX12_put_27 : decode cX12_put 27 = .ok (.ireturn, 1) := by decide +kernel
theorem dX12_put_28 : decode cX12_put 28 = .ok (.aload_n 0, 1) := by decide +kernel
theorem dX12_put_29 : decode cX12_put 29 = .ok (.getfield 15, 3) := by decide +kernel
theorem dX12_put_32 : decode cX12_put 32 = .ok (.iload_n 1, 1) := by decide +kernel
theorem dX12_put_33 : decode cX12_put 33 = .ok (.iload_n 2, 1) := by decide +kernel
theorem dX12_put_34 : decode cX12_put 34 = .ok (.iload_n 3, 1) := by decide +kernel
theorem dX12_put_35 : decode cX12_put 35 = .ok (.invokestatic 138, 3) := by decide +kernel
theorem dX12_put_38 : decode cX12_put 38 = .ok (.iaload, 1) := by decide +kernel
theorem dX12_put_39 : decode cX12_put 39 = .ok (.istore 5, 2) := by decide +kernel
theorem dX12_put_41 : decode cX12_put 41 = .ok (.aload_n 0, 1) := by decide +kernel
theorem dX12_put_42 : decode cX12_put 42 = .ok (.getfield 15, 3) := by decide +kernel
theorem dX12_put_45 : decode cX12_put 45 = .ok (.iload_n 1, 1) := by decide +kernel
theorem dX12_put_46 : decode cX12_put 46 = .ok (.iload_n 2, 1) := by decide +kernel
theorem dX12_put_47 : decode cX12_put 47 = .ok (.iload_n 3, 1) := by decide +kernel
theorem dX12_put_48 : decode cX12_put 48 = .ok (.invokestatic 138, 3) := by decide +kernel
theorem dX12_put_51 : decode cX12_put 51 = .ok (.iload 4, 2) := by decide +kernel
theorem dX12_put_53 : decode cX12_put 53 = .ok (.invokestatic 125, 3) := by decide +kernel
theorem dX12_put_56 : decode cX12_put 56 = .ok (.iastore, 1) := by decide +kernel
theorem dX12_put_57 : decode cX12_put 57 = .ok (.iload 5, 2) := by decide +kernel
theorem dX12_put_59 : decode cX12_put 59 = .ok (.invokestatic 128, 3) := by decide +kernel
theorem dX12_put_62 : decode cX12_put 62 = .ok (.ireturn, 1) := by decide +kernel
set_option maxRecDepth 20000 in
theorem ggX12_get_X12_isNumber : GoodIn wsX12_get wsX12_isNumber := goodIn_r _ [5, 6, 7, 4, 8] (by decide +kernel) (by decide +kernel)
set_option maxRecDepth 20000 in
theorem gX12_get_X12_isNumber : GoodIn wsX12_get (va_wsS RX12 135 yX12_isNumber wsX12_isNumber) := goodIn_app (goodIn_of _ (by decide +kernel)) ggX12_get_X12_isNumber
set_option maxRecDepth 20000 in
theorem ggX12_get_X12_placeOf : GoodIn wsX12_get wsX12_placeOf := goodIn_r _ [11] (by decide +kernel) (by decide +kernel)
set_option maxRecDepth 20000 in
theorem gX12_get_X12_placeOf : GoodIn wsX12_get (va_wsS RX12 138 yX12_placeOf wsX12_placeOf) := goodIn_app (goodIn_of _ (by decide +kernel)) ggX12_get_X12_placeOf
set_option maxRecDepth 20000 in
theorem ggX12_get_X12_told : GoodIn wsX12_get wsX12_told := goodIn_r _ [14, 15, 16, 17, 4, 18] (by decide +kernel) (by decide +kernel)
set_option maxRecDepth 20000 in
theorem gX12_get_X12_told : GoodIn wsX12_get (va_wsS RX12 128 yX12_told wsX12_told) := goodIn_app (goodIn_of _ (by decide +kernel)) ggX12_get_X12_told
theorem dX12_get_0 : decode cX12_get 0 = .ok (.iload_n 1, 1) := by decide +kernel
theorem dX12_get_1 : decode cX12_get 1 = .ok (.iload_n 2, 1) := by decide +kernel
theorem dX12_get_2 : decode cX12_get 2 = .ok (.iload_n 3, 1) := by decide +kernel
theorem dX12_get_3 : decode cX12_get 3 = .ok (.invokestatic 135, 3) := by decide +kernel
theorem dX12_get_6 : decode cX12_get 6 = .ok (.ifCond .eq 20, 3) := by decide +kernel
theorem dX12_get_9 : decode cX12_get 9 = .ok (.aload_n 0, 1) := by decide +kernel
theorem dX12_get_10 : decode cX12_get 10 = .ok (.getfield 15, 3) := by decide +kernel
theorem dX12_get_13 : decode cX12_get 13 = .ok (.iload_n 1, 1) := by decide +kernel
theorem dX12_get_14 : decode cX12_get 14 = .ok (.iload_n 2, 1) := by decide +kernel
theorem dX12_get_15 : decode cX12_get 15 = .ok (.iload_n 3, 1) := by decide +kernel
theorem dX12_get_16 : decode cX12_get 16 = .ok (.invokestatic 138, 3) := by decide +kernel
theorem dX12_get_19 : decode cX12_get 19 = .ok (.iaload, 1) := by decide +kernel
theorem dX12_get_20 : decode cX12_get 20 = .ok (.invokestatic 128, 3) := by decide +kernel
theorem dX12_get_23 : decode cX12_get 23 = .ok (.goto 4, 3) := by decide +kernel
theorem dX12_get_26 : decode cX12_get 26 = .ok (.iconst (-1), 1) := by decide +kernel
theorem dX12_get_27 : decode cX12_get 27 = .ok (.ireturn, 1) := by decide +kernel
theorem dX12_numbers_0 : decode cX12_numbers 0 = .ok (.iconst 0, 1) := by decide +kernel
theorem dX12_numbers_1 : decode cX12_numbers 1 = .ok (.istore_n 1, 1) := by decide +kernel
theorem dX12_numbers_2 : decode cX12_numbers 2 = .ok (.iconst 0, 1) := by decide +kernel
theorem dX12_numbers_3 : decode cX12_numbers 3 = .ok (.istore_n 2, 1) := by decide +kernel
theorem dX12_numbers_4 : decode cX12_numbers 4 = .ok (.iload_n 2, 1) := by decide +kernel
theorem dX12_numbers_5 : decode cX12_numbers 5 = .ok (.bipush 75, 2) := by decide +kernel
theorem dX12_numbers_7 : decode cX12_numbers 7 = .ok (.if_icmp .ge 26, 3) := by decide +kernel
theorem dX12_numbers_10 : decode cX12_numbers 10 = .ok (.iload_n 1, 1) := by decide +kernel
theorem dX12_numbers_11 : decode cX12_numbers 11 = .ok (.aload_n 0, 1) := by decide +kernel
theorem dX12_numbers_12 : decode cX12_numbers 12 = .ok (.getfield 15, 3) := by decide +kernel
theorem dX12_numbers_15 : decode cX12_numbers 15 = .ok (.iload_n 2, 1) := by decide +kernel
theorem dX12_numbers_16 : decode cX12_numbers 16 = .ok (.iaload, 1) := by decide +kernel
theorem dX12_numbers_17 : decode cX12_numbers 17 = .ok (.ifCond .ne 7, 3) := by decide +kernel
theorem dX12_numbers_20 : decode cX12_numbers 20 = .ok (.iconst 0, 1) := by decide +kernel
theorem dX12_numbers_21 : decode cX12_numbers 21 = .ok (.goto 4, 3) := by decide +kernel
theorem dX12_numbers_24 : decode cX12_numbers 24 = .ok (.iconst 1, 1) := by decide +kernel
theorem dX12_numbers_25 : decode cX12_numbers 25 = .ok (.iadd, 1) := by decide +kernel
theorem dX12_numbers_26 : decode cX12_numbers 26 = .ok (.istore_n 1, 1) := by decide +kernel
theorem dX12_numbers_27 : decode cX12_numbers 27 = .ok (.iinc 2 1, 3) := by decide +kernel
theorem dX12_numbers_30 : decode cX12_numbers 30 = .ok (.goto (-26), 3) := by decide +kernel
theorem dX12_numbers_33 : decode cX12_numbers 33 = .ok (.iload_n 1, 1) := by decide +kernel
theorem dX12_numbers_34 : decode cX12_numbers 34 = .ok (.ireturn, 1) := by decide +kernel
set_option maxRecDepth 20000 in
theorem ggX12_clear_X12_numbers : GoodIn wsX12_clear wsX12_numbers := goodIn_r _ [6, 1, 7, 8, 9, 10, 11, 12, 13, 14, 15, 16, 17, 18, 19, 20, 21, 22, 23, 24, 25, 26, 27, 28, 29, 30, 31, 32, 33, 34, 35, 36, 37, 38, 39, 40, 41, 42, 43, 44, 45, 46, 47, 48, 49, 50, 51] (by decide +kernel) (by decide +kernel)
set_option maxRecDepth 20000 in
theorem gX12_clear_X12_numbers : GoodIn wsX12_clear (wsV RX12 142 RX12 yX12_numbers wsX12_numbers) := goodIn_app (goodIn_of _ (by decide +kernel)) ggX12_clear_X12_numbers
theorem dX12_clear_0 : decode cX12_clear 0 = .ok (.aload_n 0, 1) := by decide +kernel
theorem dX12_clear_1 : decode cX12_clear 1 = .ok (.invokevirtual 142, 3) := by decide +kernel
theorem dX12_clear_4 : decode cX12_clear 4 = .ok (.istore_n 1, 1) := by decide +kernel
theorem dX12_clear_5 : decode cX12_clear 5 = .ok (.iconst 0, 1) := by decide +kernel
theorem dX12_clear_6 : decode cX12_clear 6 = .ok (.istore_n 2, 1) := by decide +kernel
theorem dX12_clear_7 : decode cX12_clear 7 = .ok (.iload_n 2, 1) := by decide +kernel
theorem dX12_clear_8 : decode cX12_clear 8 = .ok (.bipush 75, 2) := by decide +kernel
theorem dX12_clear_10 : decode cX12_clear 10 = .ok (.if_icmp .ge 16, 3) := by decide +kernel
theorem dX12_clear_13 : decode cX12_clear 13 = .ok (.aload_n 0, 1) := by decide +kernel
theorem dX12_clear_14 : decode cX12_clear 14 = .ok (.getfield 15, 3) := by decide +kernel
theorem dX12_clear_17 : decode cX12_clear 17 = .ok (.iload_n 2, 1) := by decide +kernel
theorem dX12_clear_18 : decode cX12_clear 18 = .ok (.iconst 0, 1) := by decide +kernel
theorem dX12_clear_19 : decode cX12_clear 19 = .ok (.iastore, 1) := by decide +kernel
theorem dX12_clear_20 : decode cX12_clear 20 = .ok (.iinc 2 1, 3) := by decide +kernel
theorem dX12_clear_23 : decode cX12_clear 23 = .ok (.goto (-16), 3) := by decide +kernel
theorem dX12_clear_26 : decode cX12_clear 26 = .ok (.iload_n 1, 1) := by decide +kernel
theorem dX12_clear_27 : decode cX12_clear 27 = .ok (.ireturn, 1) := by decide +kernel
theorem dX12_orderOf_0 : decode cX12_orderOf 0 = .ok (.iconst 0, 1) := by decide +kernel
theorem dX12_orderOf_1 : decode cX12_orderOf 1 = .ok (.istore_n 1, 1) := by decide +kernel
theorem dX12_orderOf_2 : decode cX12_orderOf 2 = .ok (.iconst 0, 1) := by decide +kernel
theorem dX12_orderOf_3 : decode cX12_orderOf 3 = .ok (.istore_n 2, 1) := by decide +kernel
theorem dX12_orderOf_4 : decode cX12_orderOf 4 = .ok (.iload_n 2, 1) := by decide +kernel
theorem dX12_orderOf_5 : decode cX12_orderOf 5 = .ok (.bipush 75, 2) := by decide +kernel
theorem dX12_orderOf_7 : decode cX12_orderOf 7 = .ok (.if_icmp .ge 27, 3) := by decide +kernel
theorem dX12_orderOf_10 : decode cX12_orderOf 10 = .ok (.aload_n 0, 1) := by decide +kernel
theorem dX12_orderOf_11 : decode cX12_orderOf 11 = .ok (.getfield 15, 3) := by decide +kernel
theorem dX12_orderOf_14 : decode cX12_orderOf 14 = .ok (.iload_n 2, 1) := by decide +kernel
theorem dX12_orderOf_15 : decode cX12_orderOf 15 = .ok (.iaload, 1) := by decide +kernel
theorem dX12_orderOf_16 : decode cX12_orderOf 16 = .ok (.ifCond .ne 7, 3) := by decide +kernel
theorem dX12_orderOf_19 : decode cX12_orderOf 19 = .ok (.iload_n 1, 1) := by decide +kernel
theorem dX12_orderOf_20 : decode cX12_orderOf 20 = .ok (.goto 7, 3) := by decide +kernel
theorem dX12_orderOf_23 : decode cX12_orderOf 23 = .ok (.iload_n 2, 1) := by decide +kernel
theorem dX12_orderOf_24 : decode cX12_orderOf 24 = .ok (.bipush 15, 2) := by decide +kernel
theorem dX12_orderOf_26 : decode cX12_orderOf 26 = .ok (.idiv, 1) := by decide +kernel
theorem dX12_orderOf_27 : decode cX12_orderOf 27 = .ok (.istore_n 1, 1) := by decide +kernel
theorem dX12_orderOf_28 : decode cX12_orderOf 28 = .ok (.iinc 2 1, 3) := by decide +kernel
theorem dX12_orderOf_31 : decode cX12_orderOf 31 = .ok (.goto (-27), 3) := by decide +kernel
theorem dX12_orderOf_34 : decode cX12_orderOf 34 = .ok (.iload_n 1, 1) := by decide +kernel
theorem dX12_orderOf_35 : decode cX12_orderOf 35 = .ok (.ireturn, 1) := by decide +kernel
set_option maxRecDepth 20000 in
theorem ggX12_order_X12_orderOf : GoodIn wsX12_order wsX12_orderOf := goodIn_r _ [5, 6, 7, 8, 9, 10, 11, 12, 13, 14, 15, 16, 17, 18, 19, 20, 21, 22, 23, 24, 25, 26, 27, 28, 29, 30, 31, 32, 33, 34, 35, 36, 37, 38, 39, 40, 41, 42, 43, 44, 45, 46, 47, 48, 49, 50, 51] (by decide +kernel) (by decide +kernel)
set_option maxRecDepth 20000 in
theorem gX12_order_X12_orderOf : GoodIn wsX12_order (wsV RX12 145 RX12 yX12_orderOf wsX12_orderOf) := goodIn_app (goodIn_of _ (by decide +kernel)) ggX12_order_X12_orderOf
theorem dX12_order_0 : decode cX12_order 0 = .ok (.aload_n 0, 1) := by decide +kernel
theorem dX12_order_1 : decode cX12_order 1 = .ok (.invokevirtual 145, 3) := by decide +kernel
theorem dX12_order_4 : decode cX12_order 4 = .ok (.ireturn, 1) := by decide +kernel
theorem dX12_tellsPowers_0 : decode cX12_tellsPowers 0 = .ok (.iconst 0, 1) := by decide +kernel
theorem dX12_tellsPowers_1 : decode cX12_tellsPowers 1 = .ok (.istore_n 1, 1) := by decide +kernel
theorem dX12_tellsPowers_2 : decode cX12_tellsPowers 2 = .ok (.iload_n 1, 1) := by decide +kernel
theorem dX12_tellsPowers_3 : decode cX12_tellsPowers 3 = .ok (.bipush 125, 2) := by decide +kernel
theorem dX12_tellsPowers_5 : decode cX12_tellsPowers 5 = .ok (.if_icmp .ge 24, 3) := by decide +kernel
theorem dX12_tellsPowers_8 : decode cX12_tellsPowers 8 = .ok (.aload_n 0, 1) := by decide +kernel
theorem dX12_tellsPowers_9 : decode cX12_tellsPowers 9 = .ok (.getfield 24, 3) := by decide +kernel
theorem dX12_tellsPowers_12 : decode cX12_tellsPowers 12 = .ok (.iload_n 1, 1) := by decide +kernel
theorem dX12_tellsPowers_13 : decode cX12_tellsPowers 13 = .ok (.iload_n 1, 1) := by decide +kernel
theorem dX12_tellsPowers_14 : decode cX12_tellsPowers 14 = .ok (.ifCond .ne 7, 3) := by decide +kernel
theorem dX12_tellsPowers_17 : decode cX12_tellsPowers 17 = .ok (.iconst 1, 1) := by decide +kernel
theorem dX12_tellsPowers_18 : decode cX12_tellsPowers 18 = .ok (.goto 4, 3) := by decide +kernel
theorem dX12_tellsPowers_21 : decode cX12_tellsPowers 21 = .ok (.iconst 0, 1) := by decide +kernel
theorem dX12_tellsPowers_22 : decode cX12_tellsPowers 22 = .ok (.iastore, 1) := by decide +kernel
theorem dX12_tellsPowers_23 : decode cX12_tellsPowers 23 = .ok (.iinc 1 1, 3) := by decide +kernel
theorem dX12_tellsPowers_26 : decode cX12_tellsPowers 26 = .ok (.goto (-24), 3) := by decide +kernel
theorem dX12_tellsPowers_29 : decode cX12_tellsPowers 29 = .ok (.iconst 1, 1) := by decide +kernel
theorem dX12_tellsPowers_30 : decode cX12_tellsPowers 30 = .ok (.istore_n 1, 1) := by decide +kernel
theorem dX12_tellsPowers_31 : decode cX12_tellsPowers 31 = .ok (.iload_n 1, 1) := by decide +kernel
theorem dX12_tellsPowers_32 : decode cX12_tellsPowers 32 = .ok (.iconst 5, 1) := by decide +kernel
theorem dX12_tellsPowers_33 : decode cX12_tellsPowers 33 = .ok (.if_icmp .ge 93, 3) := by decide +kernel
theorem dX12_tellsPowers_36 : decode cX12_tellsPowers 36 = .ok (.iconst 0, 1) := by decide +kernel
theorem dX12_tellsPowers_37 : decode cX12_tellsPowers 37 = .ok (.istore_n 2, 1) := by decide +kernel
theorem dX12_tellsPowers_38 : decode cX12_tellsPowers 38 = .ok (.iload_n 2, 1) := by decide +kernel
theorem dX12_tellsPowers_39 : decode cX12_tellsPowers 39 = .ok (.bipush 25, 2) := by decide +kernel
theorem dX12_tellsPowers_41 : decode cX12_tellsPowers 41 = .ok (.if_icmp .ge 79, 3) := by decide +kernel
theorem dX12_tellsPowers_44 : decode cX12_tellsPowers 44 = .ok (.iconst 0, 1) := by decide +kernel
theorem dX12_tellsPowers_45 : decode cX12_tellsPowers 45 = .ok (.istore_n 3, 1) := by decide +kernel
theorem dX12_tellsPowers_46 : decode cX12_tellsPowers 46 = .ok (.iload_n 3, 1) := by decide +kernel
theorem dX12_tellsPowers_47 : decode cX12_tellsPowers 47 = .ok (.iconst 5, 1) := by decide +kernel
theorem dX12_tellsPowers_48 : decode cX12_tellsPowers 48 = .ok (.if_icmp .ge 66, 3) := by decide +kernel
theorem dX12_tellsPowers_51 : decode cX12_tellsPowers 51 = .ok (.iload_n 2, 1) := by decide +kernel
theorem dX12_tellsPowers_52 : decode cX12_tellsPowers 52 = .ok (.iload_n 3, 1) := by decide +kernel
theorem dX12_tellsPowers_53 : decode cX12_tellsPowers 53 = .ok (.iadd, 1) := by decide +kernel
theorem dX12_tellsPowers_54 : decode cX12_tellsPowers 54 = .ok (.bipush 25, 2) := by decide +kernel
theorem dX12_tellsPowers_56 : decode cX12_tellsPowers 56 = .ok (.if_icmp .ge 58, 3) := by decide +kernel
theorem dX12_tellsPowers_59 : decode cX12_tellsPowers 59 = .ok (.bipush 25, 2) := by decide +kernel
theorem dX12_tellsPowers_61 : decode cX12_tellsPowers 61 = .ok (.iload_n 1, 1) := by decide +kernel
theorem dX12_tellsPowers_62 : decode cX12_tellsPowers 62 = .ok (.imul, 1) := by decide +kernel
theorem dX12_tellsPowers_63 : decode cX12_tellsPowers 63 = .ok (.iload_n 2, 1) := by decide +kernel
theorem dX12_tellsPowers_64 : decode cX12_tellsPowers 64 = .ok (.iadd, 1) := by decide +kernel
theorem dX12_tellsPowers_65 : decode cX12_tellsPowers 65 = .ok (.iload_n 3, 1) := by decide +kernel
theorem dX12_tellsPowers_66 : decode cX12_tellsPowers 66 = .ok (.iadd, 1) := by decide +kernel
theorem dX12_tellsPowers_67 : decode cX12_tellsPowers 67 = .ok (.istore 4, 2) := by decide +kernel
theorem dX12_tellsPowers_69 : decode cX12_tellsPowers 69 = .ok (.aload_n 0, 1) := by decide +kernel
theorem dX12_tellsPowers_70 : decode cX12_tellsPowers 70 = .ok (.getfield 24, 3) := by decide +kernel
theorem dX12_tellsPowers_73 : decode cX12_tellsPowers 73 = .ok (.iload 4, 2) := by decide +kernel
theorem dX12_tellsPowers_75 : decode cX12_tellsPowers 75 = .ok (.aload_n 0, 1) := by decide +kernel
theorem dX12_tellsPowers_76 : decode cX12_tellsPowers 76 = .ok (.getfield 24, 3) := by decide +kernel
theorem dX12_tellsPowers_79 : decode cX12_tellsPowers 79 = .ok (.iload 4, 2) := by decide +kernel
theorem dX12_tellsPowers_81 : decode cX12_tellsPowers 81 = .ok (.iaload, 1) := by decide +kernel
theorem dX12_tellsPowers_82 : decode cX12_tellsPowers 82 = .ok (.aload_n 0, 1) := by decide +kernel
theorem dX12_tellsPowers_83 : decode cX12_tellsPowers 83 = .ok (.getfield 24, 3) := by decide +kernel
theorem dX12_tellsPowers_86 : decode cX12_tellsPowers 86 = .ok (.bipush 25, 2) := by decide +kernel
theorem dX12_tellsPowers_88 : decode cX12_tellsPowers 88 = .ok (.iload_n 1, 1) := by decide +kernel
theorem dX12_tellsPowers_89 : decode cX12_tellsPowers 89 = .ok (.iconst 1, 1) := by decide +kernel
theorem dX12_tellsPowers_90 : decode cX12_tellsPowers 90 = .ok (.isub, 1) := by decide +kernel
theorem dX12_tellsPowers_91 : decode cX12_tellsPowers 91 = .ok (.imul, 1) := by decide +kernel
theorem dX12_tellsPowers_92 : decode cX12_tellsPowers 92 = .ok (.iload_n 2, 1) := by decide +kernel
theorem dX12_tellsPowers_93 : decode cX12_tellsPowers 93 = .ok (.iadd, 1) := by decide +kernel
theorem dX12_tellsPowers_94 : decode cX12_tellsPowers 94 = .ok (.iaload, 1) := by decide +kernel
theorem dX12_tellsPowers_95 : decode cX12_tellsPowers 95 = .ok (.aload_n 0, 1) := by decide +kernel
theorem dX12_tellsPowers_96 : decode cX12_tellsPowers 96 = .ok (.getfield 9, 3) := by decide +kernel
theorem dX12_tellsPowers_99 : decode cX12_tellsPowers 99 = .ok (.iload_n 3, 1) := by decide +kernel
theorem dX12_tellsPowers_100 : decode cX12_tellsPowers 100 = .ok (.iaload, 1) := by decide +kernel
theorem dX12_tellsPowers_101 : decode cX12_tellsPowers 101 = .ok (.imul, 1) := by decide +kernel
theorem dX12_tellsPowers_102 : decode cX12_tellsPowers 102 = .ok (.iadd, 1) := by decide +kernel
theorem dX12_tellsPowers_103 : decode cX12_tellsPowers 103 = .ok (.sipush 10007, 3) := by decide +kernel
theorem dX12_tellsPowers_106 : decode cX12_tellsPowers 106 = .ok (.irem, 1) := by decide +kernel
theorem dX12_tellsPowers_107 : decode cX12_tellsPowers 107 = .ok (.iastore, 1) := by decide +kernel
theorem dX12_tellsPowers_108 : decode cX12_tellsPowers 108 = .ok (.iinc 3 1, 3) := by decide +kernel
theorem dX12_tellsPowers_111 : decode cX12_tellsPowers 111 = .ok (.goto (-65), 3) := by decide +kernel
theorem dX12_tellsPowers_114 : decode cX12_tellsPowers 114 = .ok (.iinc 2 1, 3) := by decide +kernel
theorem dX12_tellsPowers_117 : decode cX12_tellsPowers 117 = .ok (.goto (-79), 3) := by decide +kernel
theorem dX12_tellsPowers_120 : decode cX12_tellsPowers 120 = .ok (.iinc 1 1, 3) := by decide +kernel
theorem dX12_tellsPowers_123 : decode cX12_tellsPowers 123 = .ok (.goto (-92), 3) := by decide +kernel
theorem dX12_tellsPowers_126 : decode cX12_tellsPowers 126 = .ok (.return_, 1) := by decide +kernel
theorem dX12_adds_0 : decode cX12_adds 0 = .ok (.aload_n 0, 1) := by decide +kernel
theorem dX12_adds_1 : decode cX12_adds 1 = .ok (.getfield 27, 3) := by decide +kernel
theorem dX12_adds_4 : decode cX12_adds 4 = .ok (.iload_n 1, 1) := by decide +kernel
theorem dX12_adds_5 : decode cX12_adds 5 = .ok (.aload_n 0, 1) := by decide +kernel
theorem dX12_adds_6 : decode cX12_adds 6 = .ok (.getfield 27, 3) := by decide +kernel
theorem dX12_adds_9 : decode cX12_adds 9 = .ok (.iload_n 1, 1) := by decide +kernel
theorem dX12_adds_10 : decode cX12_adds 10 = .ok (.iaload, 1) := by decide +kernel
theorem dX12_adds_11 : decode cX12_adds 11 = .ok (.iload_n 2, 1) := by decide +kernel
theorem dX12_adds_12 : decode cX12_adds 12 = .ok (.iadd, 1) := by decide +kernel
theorem dX12_adds_13 : decode cX12_adds 13 = .ok (.sipush 10007, 3) := by decide +kernel
theorem dX12_adds_16 : decode cX12_adds 16 = .ok (.irem, 1) := by decide +kernel
theorem dX12_adds_17 : decode cX12_adds 17 = .ok (.iastore, 1) := by decide +kernel
theorem dX12_adds_18 : decode cX12_adds 18 = .ok (.return_, 1) := by decide +kernel
set_option maxRecDepth 20000 in
theorem ggX12_derives_X12_adds : GoodIn wsX12_derives wsX12_adds := goodIn_r _ [7, 1, 15, 16, 17, 18, 19, 20, 21, 22, 23, 24, 25, 26, 27, 28, 29, 30, 31, 32, 33, 34, 35, 36, 37, 38, 39, 40, 41, 42, 43, 44, 45, 46, 47, 48, 49, 50, 51, 52, 53, 54, 55, 56, 57, 58, 59] (by decide +kernel) (by decide +kernel)
set_option maxRecDepth 20000 in
theorem gX12_derives_X12_adds : GoodIn wsX12_derives (wsV RX12 148 RX12 yX12_adds wsX12_adds) := goodIn_app (goodIn_of _ (by decide +kernel)) ggX12_derives_X12_adds
set_option maxRecDepth 20000 in
theorem ggX12_derives_X12_modulo : GoodIn wsX12_derives wsX12_modulo := goodIn_r _ [10, 11, 12, 13, 14] (by decide +kernel) (by decide +kernel)
set_option maxRecDepth 20000 in
theorem gX12_derives_X12_modulo : GoodIn wsX12_derives (va_wsS RX12 125 yX12_modulo wsX12_modulo) := goodIn_app (goodIn_of _ (by decide +kernel)) ggX12_derives_X12_modulo
theorem dX12_derives_0 : decode cX12_derives 0 = .ok (.aload_n 0, 1) := by decide +kernel
theorem dX12_derives_1 : decode cX12_derives 1 = .ok (.getfield 27, 3) := by decide +kernel
theorem dX12_derives_4 : decode cX12_derives 4 = .ok (.sipush 225, 3) := by decide +kernel
theorem dX12_derives_7 : decode cX12_derives 7 = .ok (.iload_n 1, 1) := by decide +kernel
theorem dX12_derives_8 : decode cX12_derives 8 = .ok (.imul, 1) := by decide +kernel
theorem dX12_derives_9 : decode cX12_derives 9 = .ok (.bipush 9, 2) := by decide +kernel
theorem dX12_derives_11 : decode cX12_derives 11 = .ok (.iload_n 2, 1) := by decide +kernel
theorem dX12_derives_12 : decode cX12_derives 12 = .ok (.imul, 1) := by decide +kernel
theorem dX12_derives_13 : decode cX12_derives 13 = .ok (.iadd, 1) := by decide +kernel
theorem dX12_derives_14 : decode cX12_derives 14 = .ok (.iload_n 3, 1) := by decide +kernel
theorem dX12_derives_15 : decode cX12_derives 15 = .ok (.iadd, 1) := by decide +kernel
theorem dX12_derives_16 : decode cX12_derives 16 = .ok (.iaload, 1) := by decide +kernel
theorem dX12_derives_17 : decode cX12_derives 17 = .ok (.istore 4, 2) := by decide +kernel
theorem dX12_derives_19 : decode cX12_derives 19 = .ok (.iconst 0, 1) := by decide +kernel
theorem dX12_derives_20 : decode cX12_derives 20 = .ok (.istore 5, 2) := by decide +kernel
theorem dX12_derives_22 : decode cX12_derives 22 = .ok (.iload 5, 2) := by decide +kernel
theorem dX12_derives_24 : decode cX12_derives 24 = .ok (.iconst 5, 1) := by decide +kernel
theorem dX12_derives_25 : decode cX12_derives 25 = .ok (.if_icmp .ge 146, 3) := by decide +kernel
theorem dX12_derives_28 : decode cX12_derives 28 = .ok (.iload 4, 2) := by decide +kernel
theorem dX12_derives_30 : decode cX12_derives 30 = .ok (.ifCond .le 141, 3) := by decide +kernel
theorem dX12_derives_33 : decode cX12_derives 33 = .ok (.sipush 225, 3) := by decide +kernel
theorem dX12_derives_36 : decode cX12_derives 36 = .ok (.iload_n 1, 1) := by decide +kernel
theorem dX12_derives_37 : decode cX12_derives 37 = .ok (.iconst 1, 1) := by decide +kernel
theorem dX12_derives_38 : decode cX12_derives 38 = .ok (.iadd, 1) := by decide +kernel
theorem dX12_derives_39 : decode cX12_derives 39 = .ok (.imul, 1) := by decide +kernel
theorem dX12_derives_40 : decode cX12_derives 40 = .ok (.istore 6, 2) := by decide +kernel
theorem dX12_derives_42 : decode cX12_derives 42 = .ok (.iload_n 2, 1) := by decide +kernel
theorem dX12_derives_43 : decode cX12_derives 43 = .ok (.ifCond .le 41, 3) := by decide +kernel
theorem dX12_derives_46 : decode cX12_derives 46 = .ok (.aload_n 0, 1) := by decide +kernel
theorem dX12_derives_47 : decode cX12_derives 47 = .ok (.iload 6, 2) := by decide +kernel
theorem dX12_derives_49 : decode cX12_derives 49 = .ok (.bipush 9, 2) := by decide +kernel
theorem dX12_derives_51 : decode cX12_derives 51 = .ok (.iload_n 2, 1) := by decide +kernel
theorem dX12_derives_52 : decode cX12_derives 52 = .ok (.iconst 1, 1) := by decide +kernel
theorem dX12_derives_53 : decode cX12_derives 53 = .ok (.isub, 1) := by decide +kernel
theorem dX12_derives_54 : decode cX12_derives 54 = .ok (.iload 5, 2) := by decide +kernel
theorem dX12_derives_56 : decode cX12_derives 56 = .ok (.iadd, 1) := by decide +kernel
theorem dX12_derives_57 : decode cX12_derives 57 = .ok (.imul, 1) := by decide +kernel
theorem dX12_derives_58 : decode cX12_derives 58 = .ok (.iadd, 1) := by decide +kernel
theorem dX12_derives_59 : decode cX12_derives 59 = .ok (.iload_n 3, 1) := by decide +kernel
theorem dX12_derives_60 : decode cX12_derives 60 = .ok (.iadd, 1) := by decide +kernel
theorem dX12_derives_61 : decode cX12_derives 61 = .ok (.iload 4, 2) := by decide +kernel
theorem dX12_derives_63 : decode cX12_derives 63 = .ok (.aload_n 0, 1) := by decide +kernel
theorem dX12_derives_64 : decode cX12_derives 64 = .ok (.getfield 9, 3) := by decide +kernel
theorem dX12_derives_67 : decode cX12_derives 67 = .ok (.iload 5, 2) := by decide +kernel
theorem dX12_derives_69 : decode cX12_derives 69 = .ok (.iaload, 1) := by decide +kernel
theorem dX12_derives_70 : decode cX12_derives 70 = .ok (.imul, 1) := by decide +kernel
theorem dX12_derives_71 : decode cX12_derives 71 = .ok (.sipush 10007, 3) := by decide +kernel
theorem dX12_derives_74 : decode cX12_derives 74 = .ok (.irem, 1) := by decide +kernel
theorem dX12_derives_75 : decode cX12_derives 75 = .ok (.iload_n 2, 1) := by decide +kernel
theorem dX12_derives_76 : decode cX12_derives 76 = .ok (.imul, 1) := by decide +kernel
theorem dX12_derives_77 : decode cX12_derives 77 = .ok (.sipush 10007, 3) := by decide +kernel
theorem dX12_derives_80 : decode cX12_derives 80 = .ok (.irem, 1) := by decide +kernel
theorem dX12_derives_81 : decode cX12_derives 81 = .ok (.invokevirtual 148, 3) := by decide +kernel
theorem dX12_derives_84 : decode cX12_derives 84 = .ok (.iload 5, 2) := by decide +kernel
theorem dX12_derives_86 : decode cX12_derives 86 = .ok (.ifCond .le 79, 3) := by decide +kernel
theorem dX12_derives_89 : decode cX12_derives 89 = .ok (.iload 4, 2) := by decide +kernel
theorem dX12_derives_91 : decode cX12_derives 91 = .ok (.aload_n 0, 1) := by decide +kernel
theorem dX12_derives_92 : decode cX12_derives 92 = .ok (.getfield 9, 3) := by decide +kernel
theorem dX12_derives_95 : decode cX12_derives 95 = .ok (.iload 5, 2) := by decide +kernel
theorem dX12_derives_97 : decode cX12_derives 97 = .ok (.iaload, 1) := by decide +kernel
theorem dX12_derives_98 : decode cX12_derives 98 = .ok (.imul, 1) := by decide +kernel
theorem dX12_derives_99 : decode cX12_derives 99 = .ok (.sipush 10007, 3) := by decide +kernel
theorem dX12_derives_102 : decode cX12_derives 102 = .ok (.irem, 1) := by decide +kernel
theorem dX12_derives_103 : decode cX12_derives 103 = .ok (.iload 5, 2) := by decide +kernel
theorem dX12_derives_105 : decode cX12_derives 105 = .ok (.imul, 1) := by decide +kernel
theorem dX12_derives_106 : decode cX12_derives 106 = .ok (.sipush 10007, 3) := by decide +kernel
theorem dX12_derives_109 : decode cX12_derives 109 = .ok (.irem, 1) := by decide +kernel
theorem dX12_derives_110 : decode cX12_derives 110 = .ok (.istore 7, 2) := by decide +kernel
theorem dX12_derives_112 : decode cX12_derives 112 = .ok (.aload_n 0, 1) := by decide +kernel
theorem dX12_derives_113 : decode cX12_derives 113 = .ok (.iload 6, 2) := by decide +kernel
theorem dX12_derives_115 : decode cX12_derives 115 = .ok (.bipush 9, 2) := by decide +kernel
theorem dX12_derives_117 : decode cX12_derives 117 = .ok (.iload_n 2, 1) := by decide +kernel
theorem dX12_derives_118 : decode cX12_derives 118 = .ok (.iload 5, 2) := by decide +kernel
theorem dX12_derives_120 : decode cX12_derives 120 = .ok (.iadd, 1) := by decide +kernel
theorem dX12_derives_121 : decode cX12_derives 121 = .ok (.iconst 1, 1) := by decide +kernel
theorem dX12_derives_122 : decode cX12_derives 122 = .ok (.isub, 1) := by decide +kernel
theorem dX12_derives_123 : decode cX12_derives 123 = .ok (.imul, 1) := by decide +kernel
theorem dX12_derives_124 : decode cX12_derives 124 = .ok (.iadd, 1) := by decide +kernel
theorem dX12_derives_125 : decode cX12_derives 125 = .ok (.iload_n 3, 1) := by decide +kernel
theorem dX12_derives_126 : decode cX12_derives 126 = .ok (.iadd, 1) := by decide +kernel
theorem dX12_derives_127 : decode cX12_derives 127 = .ok (.iload 7, 2) := by decide +kernel
theorem dX12_derives_129 : decode cX12_derives 129 = .ok (.iconst 1, 1) := by decide +kernel
theorem dX12_derives_130 : decode cX12_derives 130 = .ok (.iload_n 1, 1) := by decide +kernel
theorem dX12_derives_131 : decode cX12_derives 131 = .ok (.isub, 1) := by decide +kernel
theorem dX12_derives_132 : decode cX12_derives 132 = .ok (.invokestatic 125, 3) := by decide +kernel
theorem dX12_derives_135 : decode cX12_derives 135 = .ok (.imul, 1) := by decide +kernel
theorem dX12_derives_136 : decode cX12_derives 136 = .ok (.sipush 10007, 3) := by decide +kernel
theorem dX12_derives_139 : decode cX12_derives 139 = .ok (.irem, 1) := by decide +kernel
theorem dX12_derives_140 : decode cX12_derives 140 = .ok (.invokevirtual 148, 3) := by decide +kernel
theorem dX12_derives_143 : decode cX12_derives 143 = .ok (.aload_n 0, 1) := by decide +kernel
theorem dX12_derives_144 : decode cX12_derives 144 = .ok (.iload 6, 2) := by decide +kernel
theorem dX12_derives_146 : decode cX12_derives 146 = .ok (.bipush 9, 2) := by decide +kernel
theorem dX12_derives_148 : decode cX12_derives 148 = .ok (.iload_n 2, 1) := by decide +kernel
theorem dX12_derives_149 : decode cX12_derives 149 = .ok (.iload 5, 2) := by decide +kernel
theorem dX12_derives_151 : decode cX12_derives 151 = .ok (.iadd, 1) := by decide +kernel
theorem dX12_derives_152 : decode cX12_derives 152 = .ok (.iconst 1, 1) := by decide +kernel
theorem dX12_derives_153 : decode cX12_derives 153 = .ok (.isub, 1) := by decide +kernel
theorem dX12_derives_154 : decode cX12_derives 154 = .ok (.imul, 1) := by decide +kernel
theorem dX12_derives_155 : decode cX12_derives 155 = .ok (.iadd, 1) := by decide +kernel
theorem dX12_derives_156 : decode cX12_derives 156 = .ok (.iload_n 3, 1) := by decide +kernel
theorem dX12_derives_157 : decode cX12_derives 157 = .ok (.iadd, 1) := by decide +kernel
theorem dX12_derives_158 : decode cX12_derives 158 = .ok (.iconst 1, 1) := by decide +kernel
theorem dX12_derives_159 : decode cX12_derives 159 = .ok (.iadd, 1) := by decide +kernel
theorem dX12_derives_160 : decode cX12_derives 160 = .ok (.iload 7, 2) := by decide +kernel
theorem dX12_derives_162 : decode cX12_derives 162 = .ok (.invokevirtual 148, 3) := by decide +kernel
theorem dX12_derives_165 : decode cX12_derives 165 = .ok (.iinc 5 1, 3) := by decide +kernel
theorem dX12_derives_168 : decode cX12_derives 168 = .ok (.goto (-146), 3) := by decide +kernel
theorem dX12_derives_171 : decode cX12_derives 171 = .ok (.return_, 1) := by decide +kernel
set_option maxRecDepth 20000 in
theorem ggX12_tellsLefts_X12_tellsPowers : GoodIn wsX12_tellsLefts wsX12_tellsPowers := goodIn_r _ [6, 7, 8, 24, 25, 26, 27, 28, 29, 30, 31, 32, 33, 34, 35, 36, 37, 38, 39, 40, 41, 42, 43, 44, 45, 46, 47, 48, 49, 50, 51, 52, 53, 54, 55, 56, 57, 58, 59, 60, 61, 62, 63, 64, 65, 66, 67, 68] (by decide +kernel) (by decide +kernel)
set_option maxRecDepth 20000 in
theorem gX12_tellsLefts_X12_tellsPowers : GoodIn wsX12_tellsLefts (wsV RX12 152 RX12 yX12_tellsPowers wsX12_tellsPowers) := goodIn_app (goodIn_of _ (by decide +kernel)) ggX12_tellsLefts_X12_tellsPowers
set_option maxRecDepth 20000 in
theorem ggX12_tellsLefts_X12_derives : GoodIn wsX12_tellsLefts wsX12_derives := goodIn_r _ [12, 1, 8, 13, 14, 15, 5, 16, 17, 18, 19, 20, 21, 22, 23, 24, 25, 26, 27, 28, 29, 30, 31, 32, 33, 34, 35, 36, 37, 38, 39, 40, 41, 42, 43, 44, 45, 46, 47, 48, 49, 50, 51, 52, 53, 54, 55, 56, 57, 58, 59, 60, 61, 62, 63, 64, 65, 66, 67, 68] (by decide +kernel) (by decide +kernel)
set_option maxRecDepth 20000 in
theorem gX12_tellsLefts_X12_derives : GoodIn wsX12_tellsLefts (wsV RX12 155 RX12 yX12_derives wsX12_derives) := goodIn_app (goodIn_of _ (by decide +kernel)) ggX12_tellsLefts_X12_derives
theorem dX12_tellsLefts_0 : decode cX12_tellsLefts 0 = .ok (.aload_n 0, 1) := by decide +kernel
theorem dX12_tellsLefts_1 : decode cX12_tellsLefts 1 = .ok (.invokevirtual 152, 3) := by decide +kernel
theorem dX12_tellsLefts_4 : decode cX12_tellsLefts 4 = .ok (.iconst 0, 1) := by decide +kernel
theorem dX12_tellsLefts_5 : decode cX12_tellsLefts 5 = .ok (.istore_n 1, 1) := by decide +kernel
theorem dX12_tellsLefts_6 : decode cX12_tellsLefts 6 = .ok (.iload_n 1, 1) := by decide +kernel
theorem dX12_tellsLefts_7 : decode cX12_tellsLefts 7 = .ok (.sipush 1125, 3) := by decide +kernel
theorem dX12_tellsLefts_10 : decode cX12_tellsLefts 10 = .ok (.if_icmp .ge 24, 3) := by decide +kernel
theorem dX12_tellsLefts_13 : decode cX12_tellsLefts 13 = .ok (.aload_n 0, 1) := by decide +kernel
theorem dX12_tellsLefts_14 : decode cX12_tellsLefts 14 = .ok (.getfield 27, 3) := by decide +kernel
theorem dX12_tellsLefts_17 : decode cX12_tellsLefts 17 = .ok (.iload_n 1, 1) := by decide +kernel
theorem dX12_tellsLefts_18 : decode cX12_tellsLefts 18 = .ok (.iload_n 1, 1) := by decide +kernel
theorem dX12_tellsLefts_19 : decode cX12_tellsLefts 19 = .ok (.ifCond .ne 7, 3) := by decide +kernel
theorem dX12_tellsLefts_22 : decode cX12_tellsLefts 22 = .ok (.iconst 1, 1) := by decide +kernel
theorem dX12_tellsLefts_23 : decode cX12_tellsLefts 23 = .ok (.goto 4, 3) := by decide +kernel
theorem dX12_tellsLefts_26 : decode cX12_tellsLefts 26 = .ok (.iconst 0, 1) := by decide +kernel
theorem dX12_tellsLefts_27 : decode cX12_tellsLefts 27 = .ok (.iastore, 1) := by decide +kernel
theorem dX12_tellsLefts_28 : decode cX12_tellsLefts 28 = .ok (.iinc 1 1, 3) := by decide +kernel
theorem dX12_tellsLefts_31 : decode cX12_tellsLefts 31 = .ok (.goto (-25), 3) := by decide +kernel
theorem dX12_tellsLefts_34 : decode cX12_tellsLefts 34 = .ok (.iconst 0, 1) := by decide +kernel
theorem dX12_tellsLefts_35 : decode cX12_tellsLefts 35 = .ok (.istore_n 1, 1) := by decide +kernel
theorem dX12_tellsLefts_36 : decode cX12_tellsLefts 36 = .ok (.iload_n 1, 1) := by decide +kernel
theorem dX12_tellsLefts_37 : decode cX12_tellsLefts 37 = .ok (.iconst 4, 1) := by decide +kernel
theorem dX12_tellsLefts_38 : decode cX12_tellsLefts 38 = .ok (.if_icmp .ge 43, 3) := by decide +kernel
theorem dX12_tellsLefts_41 : decode cX12_tellsLefts 41 = .ok (.iconst 0, 1) := by decide +kernel
theorem dX12_tellsLefts_42 : decode cX12_tellsLefts 42 = .ok (.istore_n 2, 1) := by decide +kernel
theorem dX12_tellsLefts_43 : decode cX12_tellsLefts 43 = .ok (.iload_n 2, 1) := by decide +kernel
theorem dX12_tellsLefts_44 : decode cX12_tellsLefts 44 = .ok (.bipush 13, 2) := by decide +kernel
theorem dX12_tellsLefts_46 : decode cX12_tellsLefts 46 = .ok (.if_icmp .ge 29, 3) := by decide +kernel
theorem dX12_tellsLefts_49 : decode cX12_tellsLefts 49 = .ok (.iconst 0, 1) := by decide +kernel
theorem dX12_tellsLefts_50 : decode cX12_tellsLefts 50 = .ok (.istore_n 3, 1) := by decide +kernel
theorem dX12_tellsLefts_51 : decode cX12_tellsLefts 51 = .ok (.iload_n 3, 1) := by decide +kernel
theorem dX12_tellsLefts_52 : decode cX12_tellsLefts 52 = .ok (.iconst 5, 1) := by decide +kernel
theorem dX12_tellsLefts_53 : decode cX12_tellsLefts 53 = .ok (.if_icmp .ge 16, 3) := by decide +kernel
theorem dX12_tellsLefts_56 : decode cX12_tellsLefts 56 = .ok (.aload_n 0, 1) := by decide +kernel
theorem dX12_tellsLefts_57 : decode cX12_tellsLefts 57 = .ok (.iload_n 1, 1) := by decide +kernel
theorem dX12_tellsLefts_58 : decode cX12_tellsLefts 58 = .ok (.iload_n 2, 1) := by decide +kernel
theorem dX12_tellsLefts_59 : decode cX12_tellsLefts 59 = .ok (.iload_n 3, 1) := by decide +kernel
theorem dX12_tellsLefts_60 : decode cX12_tellsLefts 60 = .ok (.invokevirtual 155, 3) := by decide +kernel
theorem dX12_tellsLefts_63 : decode cX12_tellsLefts 63 = .ok (.iinc 3 1, 3) := by decide +kernel
theorem dX12_tellsLefts_66 : decode cX12_tellsLefts 66 = .ok (.goto (-15), 3) := by decide +kernel
theorem dX12_tellsLefts_69 : decode cX12_tellsLefts 69 = .ok (.iinc 2 1, 3) := by decide +kernel
theorem dX12_tellsLefts_72 : decode cX12_tellsLefts 72 = .ok (.goto (-29), 3) := by decide +kernel
theorem dX12_tellsLefts_75 : decode cX12_tellsLefts 75 = .ok (.iinc 1 1, 3) := by decide +kernel
theorem dX12_tellsLefts_78 : decode cX12_tellsLefts 78 = .ok (.goto (-42), 3) := by decide +kernel
theorem dX12_tellsLefts_81 : decode cX12_tellsLefts 81 = .ok (.return_, 1) := by decide +kernel
theorem dX12_brings_0 : decode cX12_brings 0 = .ok (.iconst 0, 1) := by decide +kernel
theorem dX12_brings_1 : decode cX12_brings 1 = .ok (.istore 6, 2) := by decide +kernel
theorem dX12_brings_3 : decode cX12_brings 3 = .ok (.iload 6, 2) := by decide +kernel
theorem dX12_brings_5 : decode cX12_brings 5 = .ok (.bipush 13, 2) := by decide +kernel
theorem dX12_brings_7 : decode cX12_brings 7 = .ok (.if_icmp .ge 136, 3) := by decide +kernel
theorem dX12_brings_10 : decode cX12_brings 10 = .ok (.iconst 0, 1) := by decide +kernel
theorem dX12_brings_11 : decode cX12_brings 11 = .ok (.istore 7, 2) := by decide +kernel
theorem dX12_brings_13 : decode cX12_brings 13 = .ok (.iload 7, 2) := by decide +kernel
theorem dX12_brings_15 : decode cX12_brings 15 = .ok (.iconst 5, 1) := by decide +kernel
theorem dX12_brings_16 : decode cX12_brings 16 = .ok (.if_icmp .ge 121, 3) := by decide +kernel
theorem dX12_brings_19 : decode cX12_brings 19 = .ok (.aload_n 0, 1) := by decide +kernel
theorem dX12_brings_20 : decode cX12_brings 20 = .ok (.getfield 27, 3) := by decide +kernel
theorem dX12_brings_23 : decode cX12_brings 23 = .ok (.sipush 225, 3) := by decide +kernel
theorem dX12_brings_26 : decode cX12_brings 26 = .ok (.iload_n 2, 1) := by decide +kernel
theorem dX12_brings_27 : decode cX12_brings 27 = .ok (.imul, 1) := by decide +kernel
theorem dX12_brings_28 : decode cX12_brings 28 = .ok (.bipush 9, 2) := by decide +kernel
theorem dX12_brings_30 : decode cX12_brings 30 = .ok (.iload 6, 2) := by decide +kernel
theorem dX12_brings_32 : decode cX12_brings 32 = .ok (.imul, 1) := by decide +kernel
theorem dX12_brings_33 : decode cX12_brings 33 = .ok (.iadd, 1) := by decide +kernel
theorem dX12_brings_34 : decode cX12_brings 34 = .ok (.iload 7, 2) := by decide +kernel
theorem dX12_brings_36 : decode cX12_brings 36 = .ok (.iadd, 1) := by decide +kernel
theorem dX12_brings_37 : decode cX12_brings 37 = .ok (.iaload, 1) := by decide +kernel
theorem dX12_brings_38 : decode cX12_brings 38 = .ok (.iload_n 1, 1) := by decide +kernel
theorem dX12_brings_39 : decode cX12_brings 39 = .ok (.imul, 1) := by decide +kernel
theorem dX12_brings_40 : decode cX12_brings 40 = .ok (.sipush 10007, 3) := by decide +kernel
theorem dX12_brings_43 : decode cX12_brings 43 = .ok (.irem, 1) := by decide +kernel
theorem dX12_brings_44 : decode cX12_brings 44 = .ok (.istore 8, 2) := by decide +kernel
theorem dX12_brings_46 : decode cX12_brings 46 = .ok (.iconst 0, 1) := by decide +kernel
theorem dX12_brings_47 : decode cX12_brings 47 = .ok (.istore 9, 2) := by decide +kernel
theorem dX12_brings_49 : decode cX12_brings 49 = .ok (.iload 9, 2) := by decide +kernel
theorem dX12_brings_51 : decode cX12_brings 51 = .ok (.bipush 17, 2) := by decide +kernel
theorem dX12_brings_53 : decode cX12_brings 53 = .ok (.if_icmp .ge 78, 3) := by decide +kernel
theorem dX12_brings_56 : decode cX12_brings 56 = .ok (.iload 8, 2) := by decide +kernel
theorem dX12_brings_58 : decode cX12_brings 58 = .ok (.ifCond .le 73, 3) := by decide +kernel
theorem dX12_brings_61 : decode cX12_brings 61 = .ok (.aload_n 0, 1) := by decide +kernel
theorem dX12_brings_62 : decode cX12_brings 62 = .ok (.getfield 24, 3) := by decide +kernel
theorem dX12_brings_65 : decode cX12_brings 65 = .ok (.bipush 25, 2) := by decide +kernel
theorem dX12_brings_67 : decode cX12_brings 67 = .ok (.iload 5, 2) := by decide +kernel
theorem dX12_brings_69 : decode cX12_brings 69 = .ok (.iload_n 2, 1) := by decide +kernel
theorem dX12_brings_70 : decode cX12_brings 70 = .ok (.isub, 1) := by decide +kernel
theorem dX12_brings_71 : decode cX12_brings 71 = .ok (.imul, 1) := by decide +kernel
theorem dX12_brings_72 : decode cX12_brings 72 = .ok (.iload 9, 2) := by decide +kernel
theorem dX12_brings_74 : decode cX12_brings 74 = .ok (.iadd, 1) := by decide +kernel
theorem dX12_brings_75 : decode cX12_brings 75 = .ok (.iaload, 1) := by decide +kernel
theorem dX12_brings_76 : decode cX12_brings 76 = .ok (.istore 10, 2) := by decide +kernel
theorem dX12_brings_78 : decode cX12_brings 78 = .ok (.iload 10, 2) := by decide +kernel
theorem dX12_brings_80 : decode cX12_brings 80 = .ok (.ifCond .le 45, 3) := by decide +kernel
theorem dX12_brings_83 : decode cX12_brings 83 = .ok (.bipush 9, 2) := by decide +kernel
theorem dX12_brings_85 : decode cX12_brings 85 = .ok (.iload 6, 2) := by decide +kernel
theorem dX12_brings_87 : decode cX12_brings 87 = .ok (.iload_n 3, 1) := by decide +kernel
theorem dX12_brings_88 : decode cX12_brings 88 = .ok (.iadd, 1) := by decide +kernel
theorem dX12_brings_89 : decode cX12_brings 89 = .ok (.iload 9, 2) := by decide +kernel
theorem dX12_brings_91 : decode cX12_brings 91 = .ok (.iadd, 1) := by decide +kernel
theorem dX12_brings_92 : decode cX12_brings 92 = .ok (.imul, 1) := by decide +kernel
theorem dX12_brings_93 : decode cX12_brings 93 = .ok (.iload 7, 2) := by decide +kernel
theorem dX12_brings_95 : decode cX12_brings 95 = .ok (.iadd, 1) := by decide +kernel
theorem dX12_brings_96 : decode cX12_brings 96 = .ok (.iload 4, 2) := by decide +kernel
theorem dX12_brings_98 : decode cX12_brings 98 = .ok (.iadd, 1) := by decide +kernel
theorem dX12_brings_99 : decode cX12_brings 99 = .ok (.istore 11, 2) := by decide +kernel
theorem dX12_brings_101 : decode cX12_brings 101 = .ok (.aload_n 0, 1) := by decide +kernel
theorem dX12_brings_102 : decode cX12_brings 102 = .ok (.getfield 30, 3) := by decide +kernel
theorem dX12_brings_105 : decode cX12_brings 105 = .ok (.iload 11, 2) := by decide +kernel
theorem dX12_brings_107 : decode cX12_brings 107 = .ok (.aload_n 0, 1) := by decide +kernel
theorem dX12_brings_108 : decode cX12_brings 108 = .ok (.getfield 30, 3) := by decide +kernel
theorem dX12_brings_111 : decode cX12_brings 111 = .ok (.iload 11, 2) := by decide +kernel
theorem dX12_brings_113 : decode cX12_brings 113 = .ok (.iaload, 1) := by decide +kernel
theorem dX12_brings_114 : decode cX12_brings 114 = .ok (.iload 8, 2) := by decide +kernel
theorem dX12_brings_116 : decode cX12_brings 116 = .ok (.iload 10, 2) := by decide +kernel
theorem dX12_brings_118 : decode cX12_brings 118 = .ok (.imul, 1) := by decide +kernel
theorem dX12_brings_119 : decode cX12_brings 119 = .ok (.iadd, 1) := by decide +kernel
theorem dX12_brings_120 : decode cX12_brings 120 = .ok (.sipush 10007, 3) := by decide +kernel
theorem dX12_brings_123 : decode cX12_brings 123 = .ok (.irem, 1) := by decide +kernel
theorem dX12_brings_124 : decode cX12_brings 124 = .ok (.iastore, 1) := by decide +kernel
theorem dX12_brings_125 : decode cX12_brings 125 = .ok (.iinc 9 1, 3) := by decide +kernel
theorem dX12_brings_128 : decode cX12_brings 128 = .ok (.goto (-79), 3) := by decide +kernel
theorem dX12_brings_131 : decode cX12_brings 131 = .ok (.iinc 7 1, 3) := by decide +kernel
theorem dX12_brings_134 : decode cX12_brings 134 = .ok (.goto (-121), 3) := by decide +kernel
theorem dX12_brings_137 : decode cX12_brings 137 = .ok (.iinc 6 1, 3) := by decide +kernel
theorem dX12_brings_140 : decode cX12_brings 140 = .ok (.goto (-137), 3) := by decide +kernel
theorem dX12_brings_143 : decode cX12_brings 143 = .ok (.return_, 1) := by decide +kernel
theorem dX12_clears_0 : decode cX12_clears 0 = .ok (.iconst 0, 1) := by decide +kernel
theorem dX12_clears_1 : decode cX12_clears 1 = .ok (.istore_n 1, 1) := by decide +kernel
theorem dX12_clears_2 : decode cX12_clears 2 = .ok (.iload_n 1, 1) := by decide +kernel
theorem dX12_clears_3 : decode cX12_clears 3 = .ok (.sipush 225, 3) := by decide +kernel
theorem dX12_clears_6 : decode cX12_clears 6 = .ok (.if_icmp .ge 16, 3) := by decide +kernel
theorem dX12_clears_9 : decode cX12_clears 9 = .ok (.aload_n 0, 1) := by decide +kernel
theorem dX12_clears_10 : decode cX12_clears 10 = .ok (.getfield 30, 3) := by decide +kernel
theorem dX12_clears_13 : decode cX12_clears 13 = .ok (.iload_n 1, 1) := by decide +kernel
theorem dX12_clears_14 : decode cX12_clears 14 = .ok (.iconst 0, 1) := by decide +kernel
theorem dX12_clears_15 : decode cX12_clears 15 = .ok (.iastore, 1) := by decide +kernel
theorem dX12_clears_16 : decode cX12_clears 16 = .ok (.iinc 1 1, 3) := by decide +kernel
theorem dX12_clears_19 : decode cX12_clears 19 = .ok (.goto (-17), 3) := by decide +kernel
theorem dX12_clears_22 : decode cX12_clears 22 = .ok (.return_, 1) := by decide +kernel
set_option maxRecDepth 20000 in
theorem ggX12_works_X12_tellsLefts : GoodIn wsX12_works wsX12_tellsLefts := goodIn_r _ [6, 7, 8, 9, 10, 5, 11, 12, 13, 14, 15, 16, 17, 18, 19, 20, 21, 22, 23, 24, 25, 26, 27, 28, 42, 43, 44, 45, 46, 47, 48, 49, 50, 51, 52, 53, 54, 55, 56, 57, 58, 59, 60, 61, 62, 63, 64, 65, 66, 67, 68, 69, 70, 71, 72, 73, 74, 75, 76, 77, 78, 79, 80, 81, 82, 83, 84, 85, 86] (by decide +kernel) (by decide +kernel)
set_option maxRecDepth 20000 in
theorem gX12_works_X12_tellsLefts : GoodIn wsX12_works (wsV RX12 159 RX12 yX12_tellsLefts wsX12_tellsLefts) := goodIn_app (goodIn_of _ (by decide +kernel)) ggX12_works_X12_tellsLefts
set_option maxRecDepth 20000 in
theorem ggX12_works_X12_clears : GoodIn wsX12_works wsX12_clears := goodIn_r _ [32, 33, 42, 43, 44, 45, 46, 47, 48, 49, 50, 51, 52, 53, 54, 55, 56, 57, 58, 59, 60, 61, 62, 63, 64, 65, 66, 67, 68, 69, 70, 71, 72, 73, 74, 75, 76, 77, 78, 79, 80, 81, 82, 83, 84, 85, 86] (by decide +kernel) (by decide +kernel)
set_option maxRecDepth 20000 in
theorem gX12_works_X12_clears : GoodIn wsX12_works (wsV RX12 162 RX12 yX12_clears wsX12_clears) := goodIn_app (goodIn_of _ (by decide +kernel)) ggX12_works_X12_clears
set_option maxRecDepth 20000 in
theorem ggX12_works_X12_orderOf : GoodIn wsX12_works wsX12_orderOf := goodIn_r _ [37, 1, 42, 43, 44, 45, 46, 47, 48, 49, 50, 51, 52, 53, 54, 55, 56, 57, 58, 59, 60, 61, 62, 63, 64, 65, 66, 67, 68, 69, 70, 71, 72, 73, 74, 75, 76, 77, 78, 79, 80, 81, 82, 83, 84, 85, 86] (by decide +kernel) (by decide +kernel)
set_option maxRecDepth 20000 in
theorem gX12_works_X12_orderOf : GoodIn wsX12_works (wsV RX12 145 RX12 yX12_orderOf wsX12_orderOf) := goodIn_app (goodIn_of _ (by decide +kernel)) ggX12_works_X12_orderOf
set_option maxRecDepth 20000 in
theorem ggX12_works_X12_brings : GoodIn wsX12_works wsX12_brings := goodIn_r _ [41, 7, 12, 33, 42, 43, 44, 45, 46, 47, 48, 49, 50, 51, 52, 53, 54, 55, 56, 57, 58, 59, 60, 61, 62, 63, 64, 65, 66, 67, 68, 69, 70, 71, 72, 73, 74, 75, 76, 77, 78, 79, 80, 81, 82, 83, 84, 85, 86] (by decide +kernel) (by decide +kernel)
set_option maxRecDepth 20000 in
theorem gX12_works_X12_brings : GoodIn wsX12_works (wsV RX12 165 RX12 yX12_brings wsX12_brings) := goodIn_app (goodIn_of _ (by decide +kernel)) ggX12_works_X12_brings
theorem dX12_works_0 : decode cX12_works 0 = .ok (.aload_n 0, 1) := by decide +kernel
theorem dX12_works_1 : decode cX12_works 1 = .ok (.invokevirtual 159, 3) := by decide +kernel
theorem dX12_works_4 : decode cX12_works 4 = .ok (.aload_n 0, 1) := by decide +kernel
theorem dX12_works_5 : decode cX12_works 5 = .ok (.invokevirtual 162, 3) := by decide +kernel
theorem dX12_works_8 : decode cX12_works 8 = .ok (.aload_n 0, 1) := by decide +kernel
theorem dX12_works_9 : decode cX12_works 9 = .ok (.invokevirtual 145, 3) := by decide +kernel
theorem dX12_works_12 : decode cX12_works 12 = .ok (.istore_n 1, 1) := by decide +kernel
theorem dX12_works_13 : decode cX12_works 13 = .ok (.iconst 0, 1) := by decide +kernel
theorem dX12_works_14 : decode cX12_works 14 = .ok (.istore_n 2, 1) := by decide +kernel
theorem dX12_works_15 : decode cX12_works 15 = .ok (.iload_n 2, 1) := by decide +kernel
theorem dX12_works_16 : decode cX12_works 16 = .ok (.bipush 75, 2) := by decide +kernel
theorem dX12_works_18 : decode cX12_works 18 = .ok (.if_icmp .ge 41, 3) := by decide +kernel
theorem dX12_works_21 : decode cX12_works 21 = .ok (.aload_n 0, 1) := by decide +kernel
theorem dX12_works_22 : decode cX12_works 22 = .ok (.getfield 15, 3) := by decide +kernel
theorem dX12_works_25 : decode cX12_works 25 = .ok (.iload_n 2, 1) := by decide +kernel
theorem dX12_works_26 : decode cX12_works 26 = .ok (.iaload, 1) := by decide +kernel
theorem dX12_works_27 : decode cX12_works 27 = .ok (.ifCond .le 26, 3) := by decide +kernel
theorem dX12_works_30 : decode cX12_works 30 = .ok (.aload_n 0, 1) := by decide +kernel
theorem dX12_works_31 : decode cX12_works 31 = .ok (.aload_n 0, 1) := by decide +kernel
theorem dX12_works_32 : decode cX12_works 32 = .ok (.getfield 15, 3) := by decide +kernel
theorem dX12_works_35 : decode cX12_works 35 = .ok (.iload_n 2, 1) := by decide +kernel
theorem dX12_works_36 : decode cX12_works 36 = .ok (.iaload, 1) := by decide +kernel
theorem dX12_works_37 : decode cX12_works 37 = .ok (.iload_n 2, 1) := by decide +kernel
theorem dX12_works_38 : decode cX12_works 38 = .ok (.bipush 15, 2) := by decide +kernel
theorem dX12_works_40 : decode cX12_works 40 = .ok (.idiv, 1) := by decide +kernel
theorem dX12_works_41 : decode cX12_works 41 = .ok (.iload_n 2, 1) := by decide +kernel
theorem dX12_works_42 : decode cX12_works 42 = .ok (.iconst 3, 1) := by decide +kernel
theorem dX12_works_43 : decode cX12_works 43 = .ok (.idiv, 1) := by decide +kernel
theorem dX12_works_44 : decode cX12_works 44 = .ok (.iconst 5, 1) := by decide +kernel
theorem dX12_works_45 : decode cX12_works 45 = .ok (.irem, 1) := by decide +kernel
theorem dX12_works_46 : decode cX12_works 46 = .ok (.iload_n 2, 1) := by decide +kernel
theorem dX12_works_47 : decode cX12_works 47 = .ok (.iconst 3, 1) := by decide +kernel
theorem dX12_works_48 : decode cX12_works 48 = .ok (.irem, 1) := by decide +kernel
theorem dX12_works_49 : decode cX12_works 49 = .ok (.iload_n 1, 1) := by decide +kernel
theorem dX12_works_50 : decode cX12_works 50 = .ok (.invokevirtual 165, 3) := by decide +kernel
theorem dX12_works_53 : decode cX12_works 53 = .ok (.iinc 2 1, 3) := by decide +kernel
theorem dX12_works_56 : decode cX12_works 56 = .ok (.goto (-41), 3) := by decide +kernel
theorem dX12_works_59 : decode cX12_works 59 = .ok (.return_, 1) := by decide +kernel
set_option maxRecDepth 20000 in
theorem ggX12_work_X12_isIn : GoodIn wsX12_work wsX12_isIn := goodIn_r _ [5] (by decide +kernel) (by decide +kernel)
set_option maxRecDepth 20000 in
theorem gX12_work_X12_isIn : GoodIn wsX12_work (va_wsS RX12 121 yX12_isIn wsX12_isIn) := goodIn_app (goodIn_of _ (by decide +kernel)) ggX12_work_X12_isIn
set_option maxRecDepth 20000 in
theorem ggX12_work_X12_works : GoodIn wsX12_work wsX12_works := goodIn_r _ [9, 10, 11, 12, 13, 4, 14, 15, 16, 17, 18, 19, 20, 21, 22, 23, 24, 25, 26, 27, 28, 29, 30, 31, 32, 33, 34, 35, 36, 37, 38, 39, 40, 1, 41, 42, 43, 44, 45, 46, 47, 48, 56, 57, 58, 59, 60, 61, 62, 63, 64, 65, 66, 67, 68, 69, 70, 71, 72, 73, 74, 75, 76, 77, 78, 79, 80, 81, 82, 83, 84, 85, 86, 87, 88, 89, 90, 91, 92, 93, 94, 95, 96, 97, 98, 99, 100] (by decide +kernel) (by decide +kernel)
set_option maxRecDepth 20000 in
theorem gX12_work_X12_works : GoodIn wsX12_work (wsV RX12 169 RX12 yX12_works wsX12_works) := goodIn_app (goodIn_of _ (by decide +kernel)) ggX12_work_X12_works
set_option maxRecDepth 20000 in
theorem ggX12_work_X12_told : GoodIn wsX12_work wsX12_told := goodIn_r _ [51, 52, 53, 54, 4, 55] (by decide +kernel) (by decide +kernel)
set_option maxRecDepth 20000 in
theorem gX12_work_X12_told : GoodIn wsX12_work (va_wsS RX12 128 yX12_told wsX12_told) := goodIn_app (goodIn_of _ (by decide +kernel)) ggX12_work_X12_told
theorem dX12_work_0 : decode cX12_work 0 = .ok (.iload_n 1, 1) := by decide +kernel
theorem dX12_work_1 : decode cX12_work 1 = .ok (.iconst 0, 1) := by decide +kernel
theorem dX12_work_2 : decode cX12_work 2 = .ok (.bipush 24, 2) := by decide +kernel
theorem dX12_work_4 : decode cX12_work 4 = .ok (.invokestatic 121, 3) := by decide +kernel
theorem dX12_work_7 : decode cX12_work 7 = .ok (.ifCond .eq 13, 3) := by decide +kernel
theorem dX12_work_10 : decode cX12_work 10 = .ok (.iload_n 2, 1) := by decide +kernel
theorem dX12_work_11 : decode cX12_work 11 = .ok (.iconst 0, 1) := by decide +kernel
theorem dX12_work_12 : decode cX12_work 12 = .ok (.bipush 8, 2) := by decide +kernel
theorem dX12_work_14 : decode cX12_work 14 = .ok (.invokestatic 121, 3) := by decide +kernel
theorem dX12_work_17 : decode cX12_work 17 = .ok (.ifCond .ne 5, 3) := by decide +kernel
theorem dX12_work_20 : decode cX12_work 20 = .ok (.iconst (-1), 1) := by decide +kernel
theorem dX12_work_21 : decode cX12_work 21 = .ok (.ireturn, 1) := by decide +kernel
theorem dX12_work_22 : decode cX12_work 22 = .ok (.aload_n 0, 1) := by decide +kernel
theorem dX12_work_23 : decode cX12_work 23 = .ok (.invokevirtual 169, 3) := by decide +kernel
theorem dX12_work_26 : decode cX12_work 26 = .ok (.aload_n 0, 1) := by decide +kernel
theorem dX12_work_27 : decode cX12_work 27 = .ok (.getfield 30, 3) := by decide +kernel
theorem dX12_work_30 : decode cX12_work 30 = .ok (.bipush 9, 2) := by decide +kernel
theorem dX12_work_32 : decode cX12_work 32 = .ok (.iload_n 1, 1) := by decide +kernel
theorem dX12_work_33 : decode cX12_work 33 = .ok (.imul, 1) := by decide +kernel
theorem dX12_work_34 : decode cX12_work 34 = .ok (.iload_n 2, 1) := by decide +kernel
theorem dX12_work_35 : decode cX12_work 35 = .ok (.iadd, 1) := by decide +kernel
theorem dX12_work_36 : decode cX12_work 36 = .ok (.iaload, 1) := by decide +kernel
