theorem dX0_init_0 : decode cX0_init 0 = .ok (.aload_n 0, 1) := by decide +kernel
theorem dX0_init_1 : decode cX0_init 1 = .ok (.invokespecial 3, 3) := by decide +kernel
theorem dX0_init_4 : decode cX0_init 4 = .ok (.aload_n 0, 1) := by decide +kernel
theorem dX0_init_5 : decode cX0_init 5 = .ok (.aload_n 1, 1) := by decide +kernel
theorem dX0_init_6 : decode cX0_init 6 = .ok (.putfield 9, 3) := by decide +kernel
theorem dX0_init_9 : decode cX0_init 9 = .ok (.aload_n 1, 1) := by decide +kernel
theorem dX0_init_10 : decode cX0_init 10 = .ok (.getfield 15, 3) := by decide +kernel
theorem dX0_init_13 : decode cX0_init 13 = .ok (.iconst 1, 1) := by decide +kernel
theorem dX0_init_14 : decode cX0_init 14 = .ok (.iadd, 1) := by decide +kernel
theorem dX0_init_15 : decode cX0_init 15 = .ok (.istore_n 2, 1) := by decide +kernel
theorem dX0_init_16 : decode cX0_init 16 = .ok (.aload_n 0, 1) := by decide +kernel
theorem dX0_init_17 : decode cX0_init 17 = .ok (.iload_n 2, 1) := by decide +kernel
theorem dX0_init_18 : decode cX0_init 18 = .ok (.newarray .long, 2) := by decide +kernel
theorem dX0_init_20 : decode cX0_init 20 = .ok (.putfield 21, 3) := by decide +kernel
theorem dX0_init_23 : decode cX0_init 23 = .ok (.aload_n 0, 1) := by decide +kernel
theorem dX0_init_24 : decode cX0_init 24 = .ok (.iload_n 2, 1) := by decide +kernel
theorem dX0_init_25 : decode cX0_init 25 = .ok (.newarray .long, 2) := by decide +kernel
theorem dX0_init_27 : decode cX0_init 27 = .ok (.putfield 25, 3) := by decide +kernel
theorem dX0_init_30 : decode cX0_init 30 = .ok (.aload_n 0, 1) := by decide +kernel
theorem dX0_init_31 : decode cX0_init 31 = .ok (.iload_n 2, 1) := by decide +kernel
theorem dX0_init_32 : decode cX0_init 32 = .ok (.newarray .long, 2) := by decide +kernel
theorem dX0_init_34 : decode cX0_init 34 = .ok (.putfield 28, 3) := by decide +kernel
theorem dX0_init_37 : decode cX0_init 37 = .ok (.aload_n 0, 1) := by decide +kernel
theorem dX0_init_38 : decode cX0_init 38 = .ok (.iload_n 2, 1) := by decide +kernel
theorem dX0_init_39 : decode cX0_init 39 = .ok (.newarray .int, 2) := by decide +kernel
theorem dX0_init_41 : decode cX0_init 41 = .ok (.putfield 31, 3) := by decide +kernel
theorem dX0_init_44 : decode cX0_init 44 = .ok (.aload_n 0, 1) := by decide +kernel
theorem dX0_init_45 : decode cX0_init 45 = .ok (.iload_n 2, 1) := by decide +kernel
theorem dX0_init_46 : decode cX0_init 46 = .ok (.newarray .int, 2) := by decide +kernel
theorem dX0_init_48 : decode cX0_init 48 = .ok (.putfield 35, 3) := by decide +kernel
theorem dX0_init_51 : decode cX0_init 51 = .ok (.aload_n 0, 1) := by decide +kernel
theorem dX0_init_52 : decode cX0_init 52 = .ok (.iload_n 2, 1) := by decide +kernel
theorem dX0_init_53 : decode cX0_init 53 = .ok (.newarray .boolean, 2) := by decide +kernel
theorem dX0_init_55 : decode cX0_init 55 = .ok (.putfield 38, 3) := by decide +kernel
theorem dX0_init_58 : decode cX0_init 58 = .ok (.return_, 1) := by decide +kernel
set_option maxRecDepth 20000 in
theorem ggX0_leastSum_J7_fill_d0a16 : GoodIn wsX0_leastSum wsJ7_fill_d0a16 := goodIn_r _ [8] (by decide +kernel) (by decide +kernel)
set_option maxRecDepth 20000 in
theorem gX0_leastSum_J7_fill_d0a16 : GoodIn wsX0_leastSum (va_wsS RX0 42 yJ7_fill_d0a16 wsJ7_fill_d0a16) := goodIn_app (goodIn_of _ (by decide +kernel)) ggX0_leastSum_J7_fill_d0a16
set_option maxRecDepth 20000 in
theorem ggX0_leastSum_J7_fill_53178 : GoodIn wsX0_leastSum wsJ7_fill_53178 := goodIn_r _ [11] (by decide +kernel) (by decide +kernel)
set_option maxRecDepth 20000 in
theorem gX0_leastSum_J7_fill_53178 : GoodIn wsX0_leastSum (va_wsS RX0 48 yJ7_fill_53178 wsJ7_fill_53178) := goodIn_app (goodIn_of _ (by decide +kernel)) ggX0_leastSum_J7_fill_53178
set_option maxRecDepth 20000 in
theorem ggX0_leastSum_X0_findFreeColumn : GoodIn wsX0_leastSum wsX0_findFreeColumn := goodIn_r _ [16, 4, 17, 18, 19, 20, 3, 21, 22, 23, 15, 24, 1, 2, 25, 26, 27, 28, 29, 30, 31, 32, 33, 34, 35, 36, 37, 47, 48, 49, 50, 51, 52, 53, 54, 55, 56] (by decide +kernel) (by decide +kernel)
set_option maxRecDepth 20000 in
theorem gX0_leastSum_X0_findFreeColumn : GoodIn wsX0_leastSum (wsV RX0 51 RX0 yX0_findFreeColumn wsX0_findFreeColumn) := goodIn_app (goodIn_of _ (by decide +kernel)) ggX0_leastSum_X0_findFreeColumn
set_option maxRecDepth 20000 in
theorem ggX0_leastSum_X0_changeAlong : GoodIn wsX0_leastSum wsX0_changeAlong := goodIn_r _ [41, 4, 19, 3, 47, 48, 49, 50, 51, 52, 53, 54, 55, 56] (by decide +kernel) (by decide +kernel)
set_option maxRecDepth 20000 in
theorem gX0_leastSum_X0_changeAlong : GoodIn wsX0_leastSum (wsV RX0 55 RX0 yX0_changeAlong wsX0_changeAlong) := goodIn_app (goodIn_of _ (by decide +kernel)) ggX0_leastSum_X0_changeAlong
set_option maxRecDepth 20000 in
theorem ggX0_leastSum_X0_sumOfChosen : GoodIn wsX0_leastSum wsX0_sumOfChosen := goodIn_r _ [45, 4, 3, 29, 46, 25, 26, 27, 15, 28, 47, 48, 49, 50, 51, 52, 53, 54, 55, 56] (by decide +kernel) (by decide +kernel)
set_option maxRecDepth 20000 in
theorem gX0_leastSum_X0_sumOfChosen : GoodIn wsX0_leastSum (wsV RX0 59 RX0 yX0_sumOfChosen wsX0_sumOfChosen) := goodIn_app (goodIn_of _ (by decide +kernel)) ggX0_leastSum_X0_sumOfChosen
theorem dX0_leastSum_0 : decode cX0_leastSum 0 = .ok (.aload_n 0, 1) := by decide +kernel
theorem dX0_leastSum_1 : decode cX0_leastSum 1 = .ok (.getfield 21, 3) := by decide +kernel
theorem dX0_leastSum_4 : decode cX0_leastSum 4 = .ok (.lconst 0, 1) := by decide +kernel
theorem dX0_leastSum_5 : decode cX0_leastSum 5 = .ok (.invokestatic 42, 3) := by decide +kernel
theorem dX0_leastSum_8 : decode cX0_leastSum 8 = .ok (.aload_n 0, 1) := by decide +kernel
theorem dX0_leastSum_9 : decode cX0_leastSum 9 = .ok (.getfield 25, 3) := by decide +kernel
theorem dX0_leastSum_12 : decode cX0_leastSum 12 = .ok (.lconst 0, 1) := by decide +kernel
theorem dX0_leastSum_13 : decode cX0_leastSum 13 = .ok (.invokestatic 42, 3) := by decide +kernel
theorem dX0_leastSum_16 : decode cX0_leastSum 16 = .ok (.aload_n 0, 1) := by decide +kernel
theorem dX0_leastSum_17 : decode cX0_leastSum 17 = .ok (.getfield 31, 3) := by decide +kernel
theorem dX0_leastSum_20 : decode cX0_leastSum 20 = .ok (.iconst 0, 1) := by decide +kernel
theorem dX0_leastSum_21 : decode cX0_leastSum 21 = .ok (.invokestatic 48, 3) := by decide +kernel
theorem dX0_leastSum_24 : decode cX0_leastSum 24 = .ok (.iconst 1, 1) := by decide +kernel
theorem dX0_leastSum_25 : decode cX0_leastSum 25 = .ok (.istore_n 1, 1) := by decide +kernel
theorem dX0_leastSum_26 : decode cX0_leastSum 26 = .ok (.iload_n 1, 1) := by decide +kernel
theorem dX0_leastSum_27 : decode cX0_leastSum 27 = .ok (.aload_n 0, 1) := by decide +kernel
theorem dX0_leastSum_28 : decode cX0_leastSum 28 = .ok (.getfield 9, 3) := by decide +kernel
theorem dX0_leastSum_31 : decode cX0_leastSum 31 = .ok (.getfield 15, 3) := by decide +kernel
theorem dX0_leastSum_34 : decode cX0_leastSum 34 = .ok (.if_icmp .gt 24, 3) := by decide +kernel
theorem dX0_leastSum_37 : decode cX0_leastSum 37 = .ok (.aload_n 0, 1) := by decide +kernel
theorem dX0_leastSum_38 : decode cX0_leastSum 38 = .ok (.getfield 31, 3) := by decide +kernel
theorem dX0_leastSum_41 : decode cX0_leastSum 41 = .ok (.iconst 0, 1) := by decide +kernel
theorem dX0_leastSum_42 : decode cX0_leastSum 42 = .ok (.iload_n 1, 1) := by decide +kernel
theorem dX0_leastSum_43 : decode cX0_leastSum 43 = .ok (.iastore, 1) := by decide +kernel
theorem dX0_leastSum_44 : decode cX0_leastSum 44 = .ok (.aload_n 0, 1) := by decide +kernel
theorem dX0_leastSum_45 : decode cX0_leastSum 45 = .ok (.aload_n 0, 1) := by decide +kernel
theorem dX0_leastSum_46 : decode cX0_leastSum 46 = .ok (.invokevirtual 51, 3) := by decide +kernel
theorem dX0_leastSum_49 : decode cX0_leastSum 49 = .ok (.invokevirtual 55, 3) := by decide +kernel
theorem dX0_leastSum_52 : decode cX0_leastSum 52 = .ok (.iinc 1 1, 3) := by decide +kernel
theorem dX0_leastSum_55 : decode cX0_leastSum 55 = .ok (.goto (-29), 3) := by decide +kernel
theorem dX0_leastSum_58 : decode cX0_leastSum 58 = .ok (.aload_n 0, 1) := by decide +kernel
theorem dX0_leastSum_59 : decode cX0_leastSum 59 = .ok (.invokevirtual 59, 3) := by decide +kernel
theorem dX0_leastSum_62 : decode cX0_leastSum 62 = .ok (.lreturn, 1) := by decide +kernel
set_option maxRecDepth 20000 in
theorem ggX0_findFreeColumn_X0_lowerSlackFrom : GoodIn wsX0_findFreeColumn wsX0_lowerSlackFrom := goodIn_r _ [11, 6, 1, 12, 13, 5, 2, 4, 14, 15, 16, 10, 17, 18, 27, 28, 29, 30, 31, 32, 33, 34, 35, 36] (by decide +kernel) (by decide +kernel)
set_option maxRecDepth 20000 in
theorem gX0_findFreeColumn_X0_lowerSlackFrom : GoodIn wsX0_findFreeColumn (wsV RX0 65 RX0 yX0_lowerSlackFrom wsX0_lowerSlackFrom) := goodIn_app (goodIn_of _ (by decide +kernel)) ggX0_findFreeColumn_X0_lowerSlackFrom
set_option maxRecDepth 20000 in
theorem ggX0_findFreeColumn_X0_nearestColumn : GoodIn wsX0_findFreeColumn wsX0_nearestColumn := goodIn_r _ [22, 1, 5, 2, 27, 28, 29, 30, 31, 32, 33, 34, 35, 36] (by decide +kernel) (by decide +kernel)
set_option maxRecDepth 20000 in
theorem gX0_findFreeColumn_X0_nearestColumn : GoodIn wsX0_findFreeColumn (wsV RX0 68 RX0 yX0_nearestColumn wsX0_nearestColumn) := goodIn_app (goodIn_of _ (by decide +kernel)) ggX0_findFreeColumn_X0_nearestColumn
set_option maxRecDepth 20000 in
theorem ggX0_findFreeColumn_X0_shiftPotentials : GoodIn wsX0_findFreeColumn wsX0_shiftPotentials := goodIn_r _ [26, 1, 5, 12, 6, 13, 2, 27, 28, 29, 30, 31, 32, 33, 34, 35, 36] (by decide +kernel) (by decide +kernel)
set_option maxRecDepth 20000 in
theorem gX0_findFreeColumn_X0_shiftPotentials : GoodIn wsX0_findFreeColumn (wsV RX0 71 RX0 yX0_shiftPotentials wsX0_shiftPotentials) := goodIn_app (goodIn_of _ (by decide +kernel)) ggX0_findFreeColumn_X0_shiftPotentials
theorem dX0_findFreeColumn_0 : decode cX0_findFreeColumn 0 = .ok (.iconst 0, 1) := by decide +kernel
theorem dX0_findFreeColumn_1 : decode cX0_findFreeColumn 1 = .ok (.istore_n 1, 1) := by decide +kernel
theorem dX0_findFreeColumn_2 : decode cX0_findFreeColumn 2 = .ok (.iload_n 1, 1) := by decide +kernel
theorem dX0_findFreeColumn_3 : decode cX0_findFreeColumn 3 = .ok (.aload_n 0, 1) := by decide +kernel
theorem dX0_findFreeColumn_4 : decode cX0_findFreeColumn 4 = .ok (.getfield 9, 3) := by decide +kernel
theorem dX0_findFreeColumn_7 : decode cX0_findFreeColumn 7 = .ok (.getfield 15, 3) := by decide +kernel
theorem dX0_findFreeColumn_10 : decode cX0_findFreeColumn 10 = .ok (.if_icmp .gt 32, 3) := by decide +kernel
theorem dX0_findFreeColumn_13 : decode cX0_findFreeColumn 13 = .ok (.aload_n 0, 1) := by decide +kernel
theorem dX0_findFreeColumn_14 : decode cX0_findFreeColumn 14 = .ok (.getfield 28, 3) := by decide +kernel
theorem dX0_findFreeColumn_17 : decode cX0_findFreeColumn 17 = .ok (.iload_n 1, 1) := by decide +kernel
theorem dX0_findFreeColumn_18 : decode cX0_findFreeColumn 18 = .ok (.ldc2_w 63, 3) := by decide +kernel
theorem dX0_findFreeColumn_21 : decode cX0_findFreeColumn 21 = .ok (.lastore, 1) := by decide +kernel
theorem dX0_findFreeColumn_22 : decode cX0_findFreeColumn 22 = .ok (.aload_n 0, 1) := by decide +kernel
theorem dX0_findFreeColumn_23 : decode cX0_findFreeColumn 23 = .ok (.getfield 35, 3) := by decide +kernel
theorem dX0_findFreeColumn_26 : decode cX0_findFreeColumn 26 = .ok (.iload_n 1, 1) := by decide +kernel
theorem dX0_findFreeColumn_27 : decode cX0_findFreeColumn 27 = .ok (.iconst 0, 1) := by decide +kernel
theorem dX0_findFreeColumn_28 : decode cX0_findFreeColumn 28 = .ok (.iastore, 1) := by decide +kernel
theorem dX0_findFreeColumn_29 : decode cX0_findFreeColumn 29 = .ok (.aload_n 0, 1) := by decide +kernel
theorem dX0_findFreeColumn_30 : decode cX0_findFreeColumn 30 = .ok (.getfield 38, 3) := by decide +kernel
theorem dX0_findFreeColumn_33 : decode cX0_findFreeColumn 33 = .ok (.iload_n 1, 1) := by decide +kernel
theorem dX0_findFreeColumn_34 : decode cX0_findFreeColumn 34 = .ok (.iconst 0, 1) := by decide +kernel
theorem dX0_findFreeColumn_35 : decode cX0_findFreeColumn 35 = .ok (.bastore, 1) := by decide +kernel
theorem dX0_findFreeColumn_36 : decode cX0_findFreeColumn 36 = .ok (.iinc 1 1, 3) := by decide +kernel
theorem dX0_findFreeColumn_39 : decode cX0_findFreeColumn 39 = .ok (.goto (-37), 3) := by decide +kernel
theorem dX0_findFreeColumn_42 : decode cX0_findFreeColumn 42 = .ok (.iconst 0, 1) := by decide +kernel
theorem dX0_findFreeColumn_43 : decode cX0_findFreeColumn 43 = .ok (.istore_n 1, 1) := by decide +kernel
theorem dX0_findFreeColumn_44 : decode cX0_findFreeColumn 44 = .ok (.iconst 0, 1) := by decide +kernel
theorem dX0_findFreeColumn_45 : decode cX0_findFreeColumn 45 = .ok (.istore_n 2, 1) := by decide +kernel
theorem dX0_findFreeColumn_46 : decode cX0_findFreeColumn 46 = .ok (.iload_n 2, 1) := by decide +kernel
theorem dX0_findFreeColumn_47 : decode cX0_findFreeColumn 47 = .ok (.aload_n 0, 1) := by decide +kernel
theorem dX0_findFreeColumn_48 : decode cX0_findFreeColumn 48 = .ok (.getfield 9, 3) := by decide +kernel
theorem dX0_findFreeColumn_51 : decode cX0_findFreeColumn 51 = .ok (.getfield 15, 3) := by decide +kernel
theorem dX0_findFreeColumn_54 : decode cX0_findFreeColumn 54 = .ok (.if_icmp .gt 45, 3) := by decide +kernel
theorem dX0_findFreeColumn_57 : decode cX0_findFreeColumn 57 = .ok (.aload_n 0, 1) := by decide +kernel
theorem dX0_findFreeColumn_58 : decode cX0_findFreeColumn 58 = .ok (.getfield 31, 3) := by decide +kernel
theorem dX0_findFreeColumn_61 : decode cX0_findFreeColumn 61 = .ok (.iload_n 1, 1) := by decide +kernel
theorem dX0_findFreeColumn_62 : decode cX0_findFreeColumn 62 = .ok (.iaload, 1) := by decide +kernel
theorem dX0_findFreeColumn_63 : decode cX0_findFreeColumn 63 = .ok (.ifCond .eq 36, 3) := by decide +kernel
theorem dX0_findFreeColumn_66 : decode cX0_findFreeColumn 66 = .ok (.aload_n 0, 1) := by decide +kernel
theorem dX0_findFreeColumn_67 : decode cX0_findFreeColumn 67 = .ok (.getfield 38, 3) := by decide +kernel
theorem dX0_findFreeColumn_70 : decode cX0_findFreeColumn 70 = .ok (.iload_n 1, 1) := by decide +kernel
theorem dX0_findFreeColumn_71 : decode cX0_findFreeColumn 71 = .ok (.iconst 1, 1) := by decide +kernel
theorem dX0_findFreeColumn_72 : decode cX0_findFreeColumn 72 = .ok (.bastore, 1) := by decide +kernel
theorem dX0_findFreeColumn_73 : decode cX0_findFreeColumn 73 = .ok (.aload_n 0, 1) := by decide +kernel
theorem dX0_findFreeColumn_74 : decode cX0_findFreeColumn 74 = .ok (.iload_n 1, 1) := by decide +kernel
theorem dX0_findFreeColumn_75 : decode cX0_findFreeColumn 75 = .ok (.invokevirtual 65, 3) := by decide +kernel
theorem dX0_findFreeColumn_78 : decode cX0_findFreeColumn 78 = .ok (.aload_n 0, 1) := by decide +kernel
theorem dX0_findFreeColumn_79 : decode cX0_findFreeColumn 79 = .ok (.invokevirtual 68, 3) := by decide +kernel
theorem dX0_findFreeColumn_82 : decode cX0_findFreeColumn 82 = .ok (.istore_n 1, 1) := by decide +kernel
theorem dX0_findFreeColumn_83 : decode cX0_findFreeColumn 83 = .ok (.aload_n 0, 1) := by decide +kernel
theorem dX0_findFreeColumn_84 : decode cX0_findFreeColumn 84 = .ok (.aload_n 0, 1) := by decide +kernel
theorem dX0_findFreeColumn_85 : decode cX0_findFreeColumn 85 = .ok (.getfield 28, 3) := by decide +kernel
theorem dX0_findFreeColumn_88 : decode cX0_findFreeColumn 88 = .ok (.iload_n 1, 1) := by decide +kernel
theorem dX0_findFreeColumn_89 : decode cX0_findFreeColumn 89 = .ok (.laload, 1) := by decide +kernel
theorem dX0_findFreeColumn_90 : decode cX0_findFreeColumn 90 = .ok (.invokevirtual 71, 3) := by decide +kernel
theorem dX0_findFreeColumn_93 : decode cX0_findFreeColumn 93 = .ok (.iinc 2 1, 3) := by decide +kernel
theorem dX0_findFreeColumn_96 : decode cX0_findFreeColumn 96 = .ok (.goto (-50), 3) := by decide +kernel
theorem dX0_findFreeColumn_99 : decode cX0_findFreeColumn 99 = .ok (.iload_n 1, 1) := by decide +kernel
theorem dX0_findFreeColumn_100 : decode cX0_findFreeColumn 100 = .ok (.ireturn, 1) := by decide +kernel
set_option maxRecDepth 20000 in
theorem ggX0_lowerSlackFrom_X0_cost : GoodIn wsX0_lowerSlackFrom wsX0_cost := goodIn_r _ [12, 2, 13, 14, 15, 16, 17, 18, 19, 20, 21, 22, 23] (by decide +kernel) (by decide +kernel)
set_option maxRecDepth 20000 in
theorem gX0_lowerSlackFrom_X0_cost : GoodIn wsX0_lowerSlackFrom (wsV RX0 75 RX0 yX0_cost wsX0_cost) := goodIn_app (goodIn_of _ (by decide +kernel)) ggX0_lowerSlackFrom_X0_cost
theorem dX0_lowerSlackFrom_0 : decode cX0_lowerSlackFrom 0 = .ok (.aload_n 0, 1) := by decide +kernel
theorem dX0_lowerSlackFrom_1 : decode cX0_lowerSlackFrom 1 = .ok (.getfield 31, 3) := by decide +kernel
theorem dX0_lowerSlackFrom_4 : decode cX0_lowerSlackFrom 4 = .ok (.iload_n 1, 1) := by decide +kernel
theorem dX0_lowerSlackFrom_5 : decode cX0_lowerSlackFrom 5 = .ok (.iaload, 1) := by decide +kernel
theorem dX0_lowerSlackFrom_6 : decode cX0_lowerSlackFrom 6 = .ok (.istore_n 2, 1) := by decide +kernel
theorem dX0_lowerSlackFrom_7 : decode cX0_lowerSlackFrom 7 = .ok (.iconst 1, 1) := by decide +kernel
theorem dX0_lowerSlackFrom_8 : decode cX0_lowerSlackFrom 8 = .ok (.istore_n 3, 1) := by decide +kernel
theorem dX0_lowerSlackFrom_9 : decode cX0_lowerSlackFrom 9 = .ok (.iload_n 3, 1) := by decide +kernel
theorem dX0_lowerSlackFrom_10 : decode cX0_lowerSlackFrom 10 = .ok (.aload_n 0, 1) := by decide +kernel
theorem dX0_lowerSlackFrom_11 : decode cX0_lowerSlackFrom 11 = .ok (.getfield 9, 3) := by decide +kernel
theorem dX0_lowerSlackFrom_14 : decode cX0_lowerSlackFrom 14 = .ok (.getfield 15, 3) := by decide +kernel
theorem dX0_lowerSlackFrom_17 : decode cX0_lowerSlackFrom 17 = .ok (.if_icmp .gt 67, 3) := by decide +kernel
theorem dX0_lowerSlackFrom_20 : decode cX0_lowerSlackFrom 20 = .ok (.aload_n 0, 1) := by decide +kernel
theorem dX0_lowerSlackFrom_21 : decode cX0_lowerSlackFrom 21 = .ok (.iload_n 2, 1) := by decide +kernel
theorem dX0_lowerSlackFrom_22 : decode cX0_lowerSlackFrom 22 = .ok (.iload_n 3, 1) := by decide +kernel
theorem dX0_lowerSlackFrom_23 : decode cX0_lowerSlackFrom 23 = .ok (.invokevirtual 75, 3) := by decide +kernel
theorem dX0_lowerSlackFrom_26 : decode cX0_lowerSlackFrom 26 = .ok (.aload_n 0, 1) := by decide +kernel
theorem dX0_lowerSlackFrom_27 : decode cX0_lowerSlackFrom 27 = .ok (.getfield 21, 3) := by decide +kernel
theorem dX0_lowerSlackFrom_30 : decode cX0_lowerSlackFrom 30 = .ok (.iload_n 2, 1) := by decide +kernel
theorem dX0_lowerSlackFrom_31 : decode cX0_lowerSlackFrom 31 = .ok (.laload, 1) := by decide +kernel
theorem dX0_lowerSlackFrom_32 : decode cX0_lowerSlackFrom 32 = .ok (.lsub, 1) := by decide +kernel
theorem dX0_lowerSlackFrom_33 : decode cX0_lowerSlackFrom 33 = .ok (.aload_n 0, 1) := by decide +kernel
theorem dX0_lowerSlackFrom_34 : decode cX0_lowerSlackFrom 34 = .ok (.getfield 25, 3) := by decide +kernel
theorem dX0_lowerSlackFrom_37 : decode cX0_lowerSlackFrom 37 = .ok (.iload_n 3, 1) := by decide +kernel
theorem dX0_lowerSlackFrom_38 : decode cX0_lowerSlackFrom 38 = .ok (.laload, 1) := by decide +kernel
theorem dX0_lowerSlackFrom_39 : decode cX0_lowerSlackFrom 39 = .ok (.lsub, 1) := by decide +kernel
theorem dX0_lowerSlackFrom_40 : decode cX0_lowerSlackFrom 40 = .ok (.lstore 4, 2) := by decide +kernel
theorem dX0_lowerSlackFrom_42 : decode cX0_lowerSlackFrom 42 = .ok (.aload_n 0, 1) := by decide +kernel
theorem dX0_lowerSlackFrom_43 : decode cX0_lowerSlackFrom 43 = .ok (.getfield 38, 3) := by decide +kernel
theorem dX0_lowerSlackFrom_46 : decode cX0_lowerSlackFrom 46 = .ok (.iload_n 3, 1) := by decide +kernel
theorem dX0_lowerSlackFrom_47 : decode cX0_lowerSlackFrom 47 = .ok (.baload, 1) := by decide +kernel
theorem dX0_lowerSlackFrom_48 : decode cX0_lowerSlackFrom 48 = .ok (.ifCond .ne 30, 3) := by decide +kernel
theorem dX0_lowerSlackFrom_51 : decode cX0_lowerSlackFrom 51 = .ok (.lload 4, 2) := by decide +kernel
theorem dX0_lowerSlackFrom_53 : decode cX0_lowerSlackFrom 53 = .ok (.aload_n 0, 1) := by decide +kernel
theorem dX0_lowerSlackFrom_54 : decode cX0_lowerSlackFrom 54 = .ok (.getfield 28, 3) := by decide +kernel
theorem dX0_lowerSlackFrom_57 : decode cX0_lowerSlackFrom 57 = .ok (.iload_n 3, 1) := by decide +kernel
theorem dX0_lowerSlackFrom_58 : decode cX0_lowerSlackFrom 58 = .ok (.laload, 1) := by decide +kernel
theorem dX0_lowerSlackFrom_59 : decode cX0_lowerSlackFrom 59 = .ok (.lcmp, 1) := by decide +kernel
theorem dX0_lowerSlackFrom_60 : decode cX0_lowerSlackFrom 60 = .ok (.ifCond .ge 18, 3) := by decide +kernel
theorem dX0_lowerSlackFrom_63 : decode cX0_lowerSlackFrom 63 = .ok (.aload_n 0, 1) := by decide +kernel
theorem dX0_lowerSlackFrom_64 : decode cX0_lowerSlackFrom 64 = .ok (.getfield 28, 3) := by decide +kernel
theorem dX0_lowerSlackFrom_67 : decode cX0_lowerSlackFrom 67 = .ok (.iload_n 3, 1) := by decide +kernel
theorem dX0_lowerSlackFrom_68 : decode cX0_lowerSlackFrom 68 = .ok (.lload 4, 2) := by decide +kernel
theorem dX0_lowerSlackFrom_70 : decode cX0_lowerSlackFrom 70 = .ok (.lastore, 1) := by decide +kernel
theorem dX0_lowerSlackFrom_71 : decode cX0_lowerSlackFrom 71 = .ok (.aload_n 0, 1) := by decide +kernel
theorem dX0_lowerSlackFrom_72 : decode cX0_lowerSlackFrom 72 = .ok (.getfield 35, 3) := by decide +kernel
theorem dX0_lowerSlackFrom_75 : decode cX0_lowerSlackFrom 75 = .ok (.iload_n 3, 1) := by decide +kernel
theorem dX0_lowerSlackFrom_76 : decode cX0_lowerSlackFrom 76 = .ok (.iload_n 1, 1) := by decide +kernel
theorem dX0_lowerSlackFrom_77 : decode cX0_lowerSlackFrom 77 = .ok (.iastore, 1) := by decide +kernel
theorem dX0_lowerSlackFrom_78 : decode cX0_lowerSlackFrom 78 = .ok (.iinc 3 1, 3) := by decide +kernel
theorem dX0_lowerSlackFrom_81 : decode cX0_lowerSlackFrom 81 = .ok (.goto (-72), 3) := by decide +kernel
theorem dX0_lowerSlackFrom_84 : decode cX0_lowerSlackFrom 84 = .ok (.return_, 1) := by decide +kernel
theorem dX0_nearestColumn_0 : decode cX0_nearestColumn 0 = .ok (.iconst 0, 1) := by decide +kernel
theorem dX0_nearestColumn_1 : decode cX0_nearestColumn 1 = .ok (.istore_n 1, 1) := by decide +kernel
theorem dX0_nearestColumn_2 : decode cX0_nearestColumn 2 = .ok (.iconst 1, 1) := by decide +kernel
theorem dX0_nearestColumn_3 : decode cX0_nearestColumn 3 = .ok (.istore_n 2, 1) := by decide +kernel
theorem dX0_nearestColumn_4 : decode cX0_nearestColumn 4 = .ok (.iload_n 2, 1) := by decide +kernel
theorem dX0_nearestColumn_5 : decode cX0_nearestColumn 5 = .ok (.aload_n 0, 1) := by decide +kernel
theorem dX0_nearestColumn_6 : decode cX0_nearestColumn 6 = .ok (.getfield 9, 3) := by decide +kernel
theorem dX0_nearestColumn_9 : decode cX0_nearestColumn 9 = .ok (.getfield 15, 3) := by decide +kernel
theorem dX0_nearestColumn_12 : decode cX0_nearestColumn 12 = .ok (.if_icmp .gt 40, 3) := by decide +kernel
theorem dX0_nearestColumn_15 : decode cX0_nearestColumn 15 = .ok (.aload_n 0, 1) := by decide +kernel
theorem dX0_nearestColumn_16 : decode cX0_nearestColumn 16 = .ok (.getfield 38, 3) := by decide +kernel
theorem dX0_nearestColumn_19 : decode cX0_nearestColumn 19 = .ok (.iload_n 2, 1) := by decide +kernel
theorem dX0_nearestColumn_20 : decode cX0_nearestColumn 20 = .ok (.baload, 1) := by decide +kernel
theorem dX0_nearestColumn_21 : decode cX0_nearestColumn 21 = .ok (.ifCond .ne 25, 3) := by decide +kernel
theorem dX0_nearestColumn_24 : decode cX0_nearestColumn 24 = .ok (.iload_n 1, 1) := by decide +kernel
theorem dX0_nearestColumn_25 : decode cX0_nearestColumn 25 = .ok (.ifCond .eq 19, 3) := by decide +kernel
theorem dX0_nearestColumn_28 : decode cX0_nearestColumn 28 = .ok (.aload_n 0, 1) := by decide +kernel
theorem dX0_nearestColumn_29 : decode cX0_nearestColumn 29 = .ok (.getfield 28, 3) := by decide +kernel
theorem dX0_nearestColumn_32 : decode cX0_nearestColumn 32 = .ok (.iload_n 2, 1) := by decide +kernel
theorem dX0_nearestColumn_33 : decode cX0_nearestColumn 33 = .ok (.laload, 1) := by decide +kernel
theorem dX0_nearestColumn_34 : decode cX0_nearestColumn 34 = .ok (.aload_n 0, 1) := by decide +kernel
theorem dX0_nearestColumn_35 : decode cX0_nearestColumn 35 = .ok (.getfield 28, 3) := by decide +kernel
theorem dX0_nearestColumn_38 : decode cX0_nearestColumn 38 = .ok (.iload_n 1, 1) := by decide +kernel
theorem dX0_nearestColumn_39 : decode cX0_nearestColumn 39 = .ok (.laload, 1) := by decide +kernel
theorem dX0_nearestColumn_40 : decode cX0_nearestColumn 40 = .ok (.lcmp, 1) := by decide +kernel
theorem dX0_nearestColumn_41 : decode cX0_nearestColumn 41 = .ok (.ifCond .ge 5, 3) := by decide +kernel
theorem dX0_nearestColumn_44 : decode cX0_nearestColumn 44 = .ok (.iload_n 2, 1) := by decide +kernel
theorem dX0_nearestColumn_45 : decode cX0_nearestColumn 45 = .ok (.istore_n 1, 1) := by decide +kernel
theorem dX0_nearestColumn_46 : decode cX0_nearestColumn 46 = .ok (.iinc 2 1, 3) := by decide +kernel
theorem dX0_nearestColumn_49 : decode cX0_nearestColumn 49 = .ok (.goto (-45), 3) := by decide +kernel
theorem dX0_nearestColumn_52 : decode cX0_nearestColumn 52 = .ok (.iload_n 1, 1) := by decide +kernel
theorem dX0_nearestColumn_53 : decode cX0_nearestColumn 53 = .ok (.ireturn, 1) := by decide +kernel
theorem dX0_shiftPotentials_0 : decode cX0_shiftPotentials 0 = .ok (.iconst 0, 1) := by decide +kernel
theorem dX0_shiftPotentials_1 : decode cX0_shiftPotentials 1 = .ok (.istore_n 3, 1) := by decide +kernel
theorem dX0_shiftPotentials_2 : decode cX0_shiftPotentials 2 = .ok (.iload_n 3, 1) := by decide +kernel
theorem dX0_shiftPotentials_3 : decode cX0_shiftPotentials 3 = .ok (.aload_n 0, 1) := by decide +kernel
theorem dX0_shiftPotentials_4 : decode cX0_shiftPotentials 4 = .ok (.getfield 9, 3) := by decide +kernel
theorem dX0_shiftPotentials_7 : decode cX0_shiftPotentials 7 = .ok (.getfield 15, 3) := by decide +kernel
theorem dX0_shiftPotentials_10 : decode cX0_shiftPotentials 10 = .ok (.if_icmp .gt 56, 3) := by decide +kernel
theorem dX0_shiftPotentials_13 : decode cX0_shiftPotentials 13 = .ok (.aload_n 0, 1) := by decide +kernel
theorem dX0_shiftPotentials_14 : decode cX0_shiftPotentials 14 = .ok (.getfield 38, 3) := by decide +kernel
theorem dX0_shiftPotentials_17 : decode cX0_shiftPotentials 17 = .ok (.iload_n 3, 1) := by decide +kernel
theorem dX0_shiftPotentials_18 : decode cX0_shiftPotentials 18 = .ok (.baload, 1) := by decide +kernel
theorem dX0_shiftPotentials_19 : decode cX0_shiftPotentials 19 = .ok (.ifCond .eq 31, 3) := by decide +kernel
theorem dX0_shiftPotentials_22 : decode cX0_shiftPotentials 22 = .ok (.aload_n 0, 1) := by decide +kernel
theorem dX0_shiftPotentials_23 : decode cX0_shiftPotentials 23 = .ok (.getfield 21, 3) := by decide +kernel
theorem dX0_shiftPotentials_26 : decode cX0_shiftPotentials 26 = .ok (.aload_n 0, 1) := by decide +kernel
theorem dX0_shiftPotentials_27 : decode cX0_shiftPotentials 27 = .ok (.getfield 31, 3) := by decide +kernel
theorem dX0_shiftPotentials_30 : decode cX0_shiftPotentials 30 = .ok (.iload_n 3, 1) := by decide +kernel
theorem dX0_shiftPotentials_31 : decode cX0_shiftPotentials 31 = .ok (.iaload, 1) := by decide +kernel
theorem dX0_shiftPotentials_32 : decode cX0_shiftPotentials 32 = .ok (.dup2, 1) := by decide +kernel
theorem dX0_shiftPotentials_33 : decode cX0_shiftPotentials 33 = .ok (.laload, 1) := by decide +kernel
theorem dX0_shiftPotentials_34 : decode cX0_shiftPotentials 34 = .ok (.lload_n 1, 1) := by decide +kernel
theorem dX0_shiftPotentials_35 : decode cX0_shiftPotentials 35 = .ok (.ladd, 1) := by decide +kernel
theorem dX0_shiftPotentials_36 : decode cX0_shiftPotentials 36 = .ok (.lastore, 1) := by decide +kernel
theorem dX0_shiftPotentials_37 : decode cX0_shiftPotentials 37 = .ok (.aload_n 0, 1) := by decide +kernel
theorem dX0_shiftPotentials_38 : decode cX0_shiftPotentials 38 = .ok (.getfield 25, 3) := by decide +kernel
theorem dX0_shiftPotentials_41 : decode cX0_shiftPotentials 41 = .ok (.iload_n 3, 1) := by decide +kernel
theorem dX0_shiftPotentials_42 : decode cX0_shiftPotentials 42 = .ok (.dup2, 1) := by decide +kernel
theorem dX0_shiftPotentials_43 : decode cX0_shiftPotentials 43 = .ok (.laload, 1) := by decide +kernel
theorem dX0_shiftPotentials_44 : decode cX0_shiftPotentials 44 = .ok (.lload_n 1, 1) := by decide +kernel
theorem dX0_shiftPotentials_45 : decode cX0_shiftPotentials 45 = .ok (.lsub, 1) := by decide +kernel
theorem dX0_shiftPotentials_46 : decode cX0_shiftPotentials 46 = .ok (.lastore, 1) := by decide +kernel
theorem dX0_shiftPotentials_47 : decode cX0_shiftPotentials 47 = .ok (.goto 13, 3) := by decide +kernel
theorem dX0_shiftPotentials_50 : decode cX0_shiftPotentials 50 = .ok (.aload_n 0, 1) := by decide +kernel
theorem dX0_shiftPotentials_51 : decode cX0_shiftPotentials 51 = .ok (.getfield 28, 3) := by decide +kernel
theorem dX0_shiftPotentials_54 : decode cX0_shiftPotentials 54 = .ok (.iload_n 3, 1) := by decide +kernel
theorem dX0_shiftPotentials_55 : decode cX0_shiftPotentials 55 = .ok (.dup2, 1) := by decide +kernel
theorem dX0_shiftPotentials_56 : decode cX0_shiftPotentials 56 = .ok (.laload, 1) := by decide +kernel
theorem dX0_shiftPotentials_57 : decode cX0_shiftPotentials 57 = .ok (.lload_n 1, 1) := by decide +kernel
theorem dX0_shiftPotentials_58 : decode cX0_shiftPotentials 58 = .ok (.lsub, 1) := by decide +kernel
theorem dX0_shiftPotentials_59 : decode cX0_shiftPotentials 59 = .ok (.lastore, 1) := by decide +kernel
theorem dX0_shiftPotentials_60 : decode cX0_shiftPotentials 60 = .ok (.iinc 3 1, 3) := by decide +kernel
theorem dX0_shiftPotentials_63 : decode cX0_shiftPotentials 63 = .ok (.goto (-61), 3) := by decide +kernel
theorem dX0_shiftPotentials_66 : decode cX0_shiftPotentials 66 = .ok (.return_, 1) := by decide +kernel
theorem dX0_changeAlong_0 : decode cX0_changeAlong 0 = .ok (.iload_n 1, 1) := by decide +kernel
theorem dX0_changeAlong_1 : decode cX0_changeAlong 1 = .ok (.istore_n 2, 1) := by decide +kernel
theorem dX0_changeAlong_2 : decode cX0_changeAlong 2 = .ok (.iconst 0, 1) := by decide +kernel
theorem dX0_changeAlong_3 : decode cX0_changeAlong 3 = .ok (.istore_n 3, 1) := by decide +kernel
theorem dX0_changeAlong_4 : decode cX0_changeAlong 4 = .ok (.iload_n 3, 1) := by decide +kernel
theorem dX0_changeAlong_5 : decode cX0_changeAlong 5 = .ok (.aload_n 0, 1) := by decide +kernel
theorem dX0_changeAlong_6 : decode cX0_changeAlong 6 = .ok (.getfield 9, 3) := by decide +kernel
theorem dX0_changeAlong_9 : decode cX0_changeAlong 9 = .ok (.getfield 15, 3) := by decide +kernel
theorem dX0_changeAlong_12 : decode cX0_changeAlong 12 = .ok (.if_icmp .gt 37, 3) := by decide +kernel
theorem dX0_changeAlong_15 : decode cX0_changeAlong 15 = .ok (.iload_n 2, 1) := by decide +kernel
theorem dX0_changeAlong_16 : decode cX0_changeAlong 16 = .ok (.ifCond .eq 33, 3) := by decide +kernel
theorem dX0_changeAlong_19 : decode cX0_changeAlong 19 = .ok (.aload_n 0, 1) := by decide +kernel
theorem dX0_changeAlong_20 : decode cX0_changeAlong 20 = .ok (.getfield 35, 3) := by decide +kernel
theorem dX0_changeAlong_23 : decode cX0_changeAlong 23 = .ok (.iload_n 2, 1) := by decide +kernel
theorem dX0_changeAlong_24 : decode cX0_changeAlong 24 = .ok (.iaload, 1) := by decide +kernel
theorem dX0_changeAlong_25 : decode cX0_changeAlong 25 = .ok (.istore 4, 2) := by decide +kernel
theorem dX0_changeAlong_27 : decode cX0_changeAlong 27 = .ok (.aload_n 0, 1) := by decide +kernel
theorem dX0_changeAlong_28 : decode cX0_changeAlong 28 = .ok (.getfield 31, 3) := by decide +kernel
theorem dX0_changeAlong_31 : decode cX0_changeAlong 31 = .ok (.iload_n 2, 1) := by decide +kernel
theorem dX0_changeAlong_32 : decode cX0_changeAlong 32 = .ok (.aload_n 0, 1) := by decide +kernel
theorem dX0_changeAlong_33 : decode cX0_changeAlong 33 = .ok (.getfield 31, 3) := by decide +kernel
theorem dX0_changeAlong_36 : decode cX0_changeAlong 36 = .ok (.iload 4, 2) := by decide +kernel
theorem dX0_changeAlong_38 : decode cX0_changeAlong 38 = .ok (.iaload, 1) := by decide +kernel
theorem dX0_changeAlong_39 : decode cX0_changeAlong 39 = .ok (.iastore, 1) := by decide +kernel
theorem dX0_changeAlong_40 : decode cX0_changeAlong 40 = .ok (.iload 4, 2) := by decide +kernel
theorem dX0_changeAlong_42 : decode cX0_changeAlong 42 = .ok (.istore_n 2, 1) := by decide +kernel
theorem dX0_changeAlong_43 : decode cX0_changeAlong 43 = .ok (.iinc 3 1, 3) := by decide +kernel
theorem dX0_changeAlong_46 : decode cX0_changeAlong 46 = .ok (.goto (-42), 3) := by decide +kernel
theorem dX0_changeAlong_49 : decode cX0_changeAlong 49 = .ok (.return_, 1) := by decide +kernel
set_option maxRecDepth 20000 in
theorem ggX0_sumOfChosen_X0_cost : GoodIn wsX0_sumOfChosen wsX0_cost := goodIn_r _ [9, 1, 3, 10, 11, 12, 13, 14, 15, 16, 17, 18, 19] (by decide +kernel) (by decide +kernel)
set_option maxRecDepth 20000 in
theorem gX0_sumOfChosen_X0_cost : GoodIn wsX0_sumOfChosen (wsV RX0 75 RX0 yX0_cost wsX0_cost) := goodIn_app (goodIn_of _ (by decide +kernel)) ggX0_sumOfChosen_X0_cost
theorem dX0_sumOfChosen_0 : decode cX0_sumOfChosen 0 = .ok (.lconst 0, 1) := by decide +kernel
theorem dX0_sumOfChosen_1 : decode cX0_sumOfChosen 1 = .ok (.lstore_n 1, 1) := by decide +kernel
theorem dX0_sumOfChosen_2 : decode cX0_sumOfChosen 2 = .ok (.iconst 1, 1) := by decide +kernel
theorem dX0_sumOfChosen_3 : decode cX0_sumOfChosen 3 = .ok (.istore_n 3, 1) := by decide +kernel
theorem dX0_sumOfChosen_4 : decode cX0_sumOfChosen 4 = .ok (.iload_n 3, 1) := by decide +kernel
theorem dX0_sumOfChosen_5 : decode cX0_sumOfChosen 5 = .ok (.aload_n 0, 1) := by decide +kernel
theorem dX0_sumOfChosen_6 : decode cX0_sumOfChosen 6 = .ok (.getfield 9, 3) := by decide +kernel
theorem dX0_sumOfChosen_9 : decode cX0_sumOfChosen 9 = .ok (.getfield 15, 3) := by decide +kernel
theorem dX0_sumOfChosen_12 : decode cX0_sumOfChosen 12 = .ok (.if_icmp .gt 23, 3) := by decide +kernel
theorem dX0_sumOfChosen_15 : decode cX0_sumOfChosen 15 = .ok (.lload_n 1, 1) := by decide +kernel
theorem dX0_sumOfChosen_16 : decode cX0_sumOfChosen 16 = .ok (.aload_n 0, 1) := by decide +kernel
theorem dX0_sumOfChosen_17 : decode cX0_sumOfChosen 17 = .ok (.aload_n 0, 1) := by decide +kernel
theorem dX0_sumOfChosen_18 : decode cX0_sumOfChosen 18 = .ok (.getfield 31, 3) := by decide +kernel
theorem dX0_sumOfChosen_21 : decode cX0_sumOfChosen 21 = .ok (.iload_n 3, 1) := by decide +kernel
theorem dX0_sumOfChosen_22 : decode cX0_sumOfChosen 22 = .ok (.iaload, 1) := by decide +kernel
theorem dX0_sumOfChosen_23 : decode cX0_sumOfChosen 23 = .ok (.iload_n 3, 1) := by decide +kernel
theorem dX0_sumOfChosen_24 : decode cX0_sumOfChosen 24 = .ok (.invokevirtual 75, 3) := by decide +kernel
theorem dX0_sumOfChosen_27 : decode cX0_sumOfChosen 27 = .ok (.ladd, 1) := by decide +kernel
theorem dX0_sumOfChosen_28 : decode cX0_sumOfChosen 28 = .ok (.lstore_n 1, 1) := by decide +kernel
theorem dX0_sumOfChosen_29 : decode cX0_sumOfChosen 29 = .ok (.iinc 3 1, 3) := by decide +kernel
theorem dX0_sumOfChosen_32 : decode cX0_sumOfChosen 32 = .ok (.goto (-28), 3) := by decide +kernel
theorem dX0_sumOfChosen_35 : decode cX0_sumOfChosen 35 = .ok (.lload_n 1, 1) := by decide +kernel
theorem dX0_sumOfChosen_36 : decode cX0_sumOfChosen 36 = .ok (.ldc2_w 79, 3) := by decide +kernel
theorem dX0_sumOfChosen_39 : decode cX0_sumOfChosen 39 = .ok (.lcmp, 1) := by decide +kernel
theorem dX0_sumOfChosen_40 : decode cX0_sumOfChosen 40 = .ok (.ifCond .lt 9, 3) := by decide +kernel
theorem dX0_sumOfChosen_43 : decode cX0_sumOfChosen 43 = .ok (.ldc2_w 81, 3) := by decide +kernel
theorem dX0_sumOfChosen_46 : decode cX0_sumOfChosen 46 = .ok (.goto 4, 3) := by decide +kernel
theorem dX0_sumOfChosen_49 : decode cX0_sumOfChosen 49 = .ok (.lload_n 1, 1) := by decide +kernel
theorem dX0_sumOfChosen_50 : decode cX0_sumOfChosen 50 = .ok (.lreturn, 1) := by decide +kernel
theorem dX0_cost_0 : decode cX0_cost 0 = .ok (.iload_n 1, 1) := by decide +kernel
theorem dX0_cost_1 : decode cX0_cost 1 = .ok (.iconst 1, 1) := by decide +kernel
theorem dX0_cost_2 : decode cX0_cost 2 = .ok (.if_icmp .lt 30, 3) := by decide +kernel
theorem dX0_cost_5 : decode cX0_cost 5 = .ok (.iload_n 1, 1) := by decide +kernel
theorem dX0_cost_6 : decode cX0_cost 6 = .ok (.aload_n 0, 1) := by decide +kernel
theorem dX0_cost_7 : decode cX0_cost 7 = .ok (.getfield 9, 3) := by decide +kernel
theorem dX0_cost_10 : decode cX0_cost 10 = .ok (.getfield 15, 3) := by decide +kernel
theorem dX0_cost_13 : decode cX0_cost 13 = .ok (.if_icmp .gt 19, 3) := by decide +kernel
theorem dX0_cost_16 : decode cX0_cost 16 = .ok (.iload_n 2, 1) := by decide +kernel
theorem dX0_cost_17 : decode cX0_cost 17 = .ok (.iconst 1, 1) := by decide +kernel
theorem dX0_cost_18 : decode cX0_cost 18 = .ok (.if_icmp .lt 14, 3) := by decide +kernel
theorem dX0_cost_21 : decode cX0_cost 21 = .ok (.iload_n 2, 1) := by decide +kernel
theorem dX0_cost_22 : decode cX0_cost 22 = .ok (.aload_n 0, 1) := by decide +kernel
theorem dX0_cost_23 : decode cX0_cost 23 = .ok (.getfield 9, 3) := by decide +kernel
theorem dX0_cost_26 : decode cX0_cost 26 = .ok (.getfield 15, 3) := by decide +kernel
theorem dX0_cost_29 : decode cX0_cost 29 = .ok (.if_icmp .le 7, 3) := by decide +kernel
theorem dX0_cost_32 : decode cX0_cost 32 = .ok (.ldc2_w 79, 3) := by decide +kernel
theorem dX0_cost_35 : decode cX0_cost 35 = .ok (.lreturn, 1) := by decide +kernel
theorem dX0_cost_36 : decode cX0_cost 36 = .ok (.aload_n 0, 1) := by decide +kernel
theorem dX0_cost_37 : decode cX0_cost 37 = .ok (.getfield 9, 3) := by decide +kernel
theorem dX0_cost_40 : decode cX0_cost 40 = .ok (.getfield 83, 3) := by decide +kernel
theorem dX0_cost_43 : decode cX0_cost 43 = .ok (.iload_n 1, 1) := by decide +kernel
theorem dX0_cost_44 : decode cX0_cost 44 = .ok (.iconst 1, 1) := by decide +kernel
theorem dX0_cost_45 : decode cX0_cost 45 = .ok (.isub, 1) := by decide +kernel
theorem dX0_cost_46 : decode cX0_cost 46 = .ok (.aaload, 1) := by decide +kernel
theorem dX0_cost_47 : decode cX0_cost 47 = .ok (.iload_n 2, 1) := by decide +kernel
theorem dX0_cost_48 : decode cX0_cost 48 = .ok (.iconst 1, 1) := by decide +kernel
theorem dX0_cost_49 : decode cX0_cost 49 = .ok (.isub, 1) := by decide +kernel
theorem dX0_cost_50 : decode cX0_cost 50 = .ok (.iaload, 1) := by decide +kernel
theorem dX0_cost_51 : decode cX0_cost 51 = .ok (.istore_n 3, 1) := by decide +kernel
theorem dX0_cost_52 : decode cX0_cost 52 = .ok (.iload_n 3, 1) := by decide +kernel
theorem dX0_cost_53 : decode cX0_cost 53 = .ok (.iconst (-1), 1) := by decide +kernel
theorem dX0_cost_54 : decode cX0_cost 54 = .ok (.if_icmp .ne 9, 3) := by decide +kernel
theorem dX0_cost_57 : decode cX0_cost 57 = .ok (.ldc2_w 79, 3) := by decide +kernel
theorem dX0_cost_60 : decode cX0_cost 60 = .ok (.goto 5, 3) := by decide +kernel
theorem dX0_cost_63 : decode cX0_cost 63 = .ok (.iload_n 3, 1) := by decide +kernel
theorem dX0_cost_64 : decode cX0_cost 64 = .ok (.i2l, 1) := by decide +kernel
theorem dX0_cost_65 : decode cX0_cost 65 = .ok (.lreturn, 1) := by decide +kernel
theorem dX1_init_0 : decode cX1_init 0 = .ok (.aload_n 0, 1) := by decide +kernel
theorem dX1_init_1 : decode cX1_init 1 = .ok (.invokespecial 3, 3) := by decide +kernel
theorem dX1_init_4 : decode cX1_init 4 = .ok (.aload_n 0, 1) := by decide +kernel
theorem dX1_init_5 : decode cX1_init 5 = .ok (.aload_n 1, 1) := by decide +kernel
theorem dX1_init_6 : decode cX1_init 6 = .ok (.putfield 9, 3) := by decide +kernel
theorem dX1_init_9 : decode cX1_init 9 = .ok (.aload_n 0, 1) := by decide +kernel
theorem dX1_init_10 : decode cX1_init 10 = .ok (.aload_n 1, 1) := by decide +kernel
theorem dX1_init_11 : decode cX1_init 11 = .ok (.getfield 15, 3) := by decide +kernel
theorem dX1_init_14 : decode cX1_init 14 = .ok (.aload_n 1, 1) := by decide +kernel
theorem dX1_init_15 : decode cX1_init 15 = .ok (.getfield 15, 3) := by decide +kernel
theorem dX1_init_18 : decode cX1_init 18 = .ok (.multianewarray 21 2, 4) := by decide +kernel
theorem dX1_init_22 : decode cX1_init 22 = .ok (.putfield 23, 3) := by decide +kernel
theorem dX1_init_25 : decode cX1_init 25 = .ok (.aload_n 0, 1) := by decide +kernel
theorem dX1_init_26 : decode cX1_init 26 = .ok (.aload_n 1, 1) := by decide +kernel
theorem dX1_init_27 : decode cX1_init 27 = .ok (.getfield 15, 3) := by decide +kernel
theorem dX1_init_30 : decode cX1_init 30 = .ok (.newarray .int, 2) := by decide +kernel
theorem dX1_init_32 : decode cX1_init 32 = .ok (.putfield 26, 3) := by decide +kernel
theorem dX1_init_35 : decode cX1_init 35 = .ok (.aload_n 0, 1) := by decide +kernel
theorem dX1_init_36 : decode cX1_init 36 = .ok (.aload_n 1, 1) := by decide +kernel
theorem dX1_init_37 : decode cX1_init 37 = .ok (.getfield 15, 3) := by decide +kernel
theorem dX1_init_40 : decode cX1_init 40 = .ok (.newarray .int, 2) := by decide +kernel
theorem dX1_init_42 : decode cX1_init 42 = .ok (.putfield 30, 3) := by decide +kernel
theorem dX1_init_45 : decode cX1_init 45 = .ok (.return_, 1) := by decide +kernel
set_option maxRecDepth 20000 in
theorem ggX1_width_X1_findChain : GoodIn wsX1_width wsX1_findChain := goodIn_r _ [12, 13, 14, 1, 2, 15, 16, 17, 18, 27, 28, 29, 30, 31, 32, 33] (by decide +kernel) (by decide +kernel)
set_option maxRecDepth 20000 in
theorem gX1_width_X1_findChain : GoodIn wsX1_width (wsV RX1 43 RX1 yX1_findChain wsX1_findChain) := goodIn_app (goodIn_of _ (by decide +kernel)) ggX1_width_X1_findChain
set_option maxRecDepth 20000 in
theorem ggX1_width_X1_fillChain : GoodIn wsX1_width wsX1_fillChain := goodIn_r _ [22, 23, 1, 2, 13, 24, 25, 5, 26, 27, 28, 29, 30, 31, 32, 33] (by decide +kernel) (by decide +kernel)
set_option maxRecDepth 20000 in
theorem gX1_width_X1_fillChain : GoodIn wsX1_width (wsV RX1 47 RX1 yX1_fillChain wsX1_fillChain) := goodIn_app (goodIn_of _ (by decide +kernel)) ggX1_width_X1_fillChain
theorem dX1_width_0 : decode cX1_width 0 = .ok (.iconst 0, 1) := by decide +kernel
theorem dX1_width_1 : decode cX1_width 1 = .ok (.istore_n 3, 1) := by decide +kernel
theorem dX1_width_2 : decode cX1_width 2 = .ok (.iload_n 3, 1) := by decide +kernel
theorem dX1_width_3 : decode cX1_width 3 = .ok (.aload_n 0, 1) := by decide +kernel
theorem dX1_width_4 : decode cX1_width 4 = .ok (.getfield 9, 3) := by decide +kernel
theorem dX1_width_7 : decode cX1_width 7 = .ok (.getfield 15, 3) := by decide +kernel
theorem dX1_width_10 : decode cX1_width 10 = .ok (.if_icmp .ge 55, 3) := by decide +kernel
theorem dX1_width_13 : decode cX1_width 13 = .ok (.iconst 0, 1) := by decide +kernel
theorem dX1_width_14 : decode cX1_width 14 = .ok (.istore 4, 2) := by decide +kernel
theorem dX1_width_16 : decode cX1_width 16 = .ok (.iload 4, 2) := by decide +kernel
theorem dX1_width_18 : decode cX1_width 18 = .ok (.aload_n 0, 1) := by decide +kernel
theorem dX1_width_19 : decode cX1_width 19 = .ok (.getfield 9, 3) := by decide +kernel
theorem dX1_width_22 : decode cX1_width 22 = .ok (.getfield 15, 3) := by decide +kernel
theorem dX1_width_25 : decode cX1_width 25 = .ok (.if_icmp .ge 34, 3) := by decide +kernel
theorem dX1_width_28 : decode cX1_width 28 = .ok (.aload_n 0, 1) := by decide +kernel
theorem dX1_width_29 : decode cX1_width 29 = .ok (.getfield 23, 3) := by decide +kernel
theorem dX1_width_32 : decode cX1_width 32 = .ok (.iload_n 3, 1) := by decide +kernel
theorem dX1_width_33 : decode cX1_width 33 = .ok (.aaload, 1) := by decide +kernel
theorem dX1_width_34 : decode cX1_width 34 = .ok (.iload 4, 2) := by decide +kernel
theorem dX1_width_36 : decode cX1_width 36 = .ok (.iconst 0, 1) := by decide +kernel
theorem dX1_width_37 : decode cX1_width 37 = .ok (.aload_n 0, 1) := by decide +kernel
theorem dX1_width_38 : decode cX1_width 38 = .ok (.getfield 9, 3) := by decide +kernel
theorem dX1_width_41 : decode cX1_width 41 = .ok (.getfield 33, 3) := by decide +kernel
theorem dX1_width_44 : decode cX1_width 44 = .ok (.iload_n 3, 1) := by decide +kernel
theorem dX1_width_45 : decode cX1_width 45 = .ok (.aaload, 1) := by decide +kernel
theorem dX1_width_46 : decode cX1_width 46 = .ok (.iload 4, 2) := by decide +kernel
theorem dX1_width_48 : decode cX1_width 48 = .ok (.iaload, 1) := by decide +kernel
theorem dX1_width_49 : decode cX1_width 49 = .ok (.invokestatic 36, 3) := by decide +kernel
theorem dX1_width_52 : decode cX1_width 52 = .ok (.iastore, 1) := by decide +kernel
theorem dX1_width_53 : decode cX1_width 53 = .ok (.iinc 4 1, 3) := by decide +kernel
theorem dX1_width_56 : decode cX1_width 56 = .ok (.goto (-40), 3) := by decide +kernel
theorem dX1_width_59 : decode cX1_width 59 = .ok (.iinc 3 1, 3) := by decide +kernel
theorem dX1_width_62 : decode cX1_width 62 = .ok (.goto (-60), 3) := by decide +kernel
theorem dX1_width_65 : decode cX1_width 65 = .ok (.lconst 0, 1) := by decide +kernel
theorem dX1_width_66 : decode cX1_width 66 = .ok (.lstore_n 3, 1) := by decide +kernel
theorem dX1_width_67 : decode cX1_width 67 = .ok (.iconst 0, 1) := by decide +kernel
theorem dX1_width_68 : decode cX1_width 68 = .ok (.istore 5, 2) := by decide +kernel
theorem dX1_width_70 : decode cX1_width 70 = .ok (.iload 5, 2) := by decide +kernel
theorem dX1_width_72 : decode cX1_width 72 = .ok (.ldc 42, 2) := by decide +kernel
theorem dX1_width_74 : decode cX1_width 74 = .ok (.if_icmp .ge 28, 3) := by decide +kernel
theorem dX1_width_77 : decode cX1_width 77 = .ok (.aload_n 0, 1) := by decide +kernel
theorem dX1_width_78 : decode cX1_width 78 = .ok (.iload_n 1, 1) := by decide +kernel
theorem dX1_width_79 : decode cX1_width 79 = .ok (.iload_n 2, 1) := by decide +kernel
theorem dX1_width_80 : decode cX1_width 80 = .ok (.invokevirtual 43, 3) := by decide +kernel
theorem dX1_width_83 : decode cX1_width 83 = .ok (.ifCond .eq 19, 3) := by decide +kernel
theorem dX1_width_86 : decode cX1_width 86 = .ok (.lload_n 3, 1) := by decide +kernel
theorem dX1_width_87 : decode cX1_width 87 = .ok (.aload_n 0, 1) := by decide +kernel
theorem dX1_width_88 : decode cX1_width 88 = .ok (.iload_n 1, 1) := by decide +kernel
theorem dX1_width_89 : decode cX1_width 89 = .ok (.iload_n 2, 1) := by decide +kernel
theorem dX1_width_90 : decode cX1_width 90 = .ok (.invokevirtual 47, 3) := by decide +kernel
theorem dX1_width_93 : decode cX1_width 93 = .ok (.i2l, 1) := by decide +kernel
theorem dX1_width_94 : decode cX1_width 94 = .ok (.ladd, 1) := by decide +kernel
theorem dX1_width_95 : decode cX1_width 95 = .ok (.lstore_n 3, 1) := by decide +kernel
theorem dX1_width_96 : decode cX1_width 96 = .ok (.iinc 5 1, 3) := by decide +kernel
theorem dX1_width_99 : decode cX1_width 99 = .ok (.goto (-29), 3) := by decide +kernel
theorem dX1_width_102 : decode cX1_width 102 = .ok (.lload_n 3, 1) := by decide +kernel
theorem dX1_width_103 : decode cX1_width 103 = .ok (.lreturn, 1) := by decide +kernel
set_option maxRecDepth 20000 in
theorem ggX1_findChain_J7_fill_53178 : GoodIn wsX1_findChain wsJ7_fill_53178 := goodIn_r _ [8] (by decide +kernel) (by decide +kernel)
set_option maxRecDepth 20000 in
theorem gX1_findChain_J7_fill_53178 : GoodIn wsX1_findChain (va_wsS RX1 50 yJ7_fill_53178 wsJ7_fill_53178) := goodIn_app (goodIn_of _ (by decide +kernel)) ggX1_findChain_J7_fill_53178
theorem dX1_findChain_0 : decode cX1_findChain 0 = .ok (.aload_n 0, 1) := by decide +kernel
theorem dX1_findChain_1 : decode cX1_findChain 1 = .ok (.getfield 30, 3) := by decide +kernel
theorem dX1_findChain_4 : decode cX1_findChain 4 = .ok (.iconst (-1), 1) := by decide +kernel
theorem dX1_findChain_5 : decode cX1_findChain 5 = .ok (.invokestatic 50, 3) := by decide +kernel
theorem dX1_findChain_8 : decode cX1_findChain 8 = .ok (.aload_n 0, 1) := by decide +kernel
theorem dX1_findChain_9 : decode cX1_findChain 9 = .ok (.getfield 30, 3) := by decide +kernel
theorem dX1_findChain_12 : decode cX1_findChain 12 = .ok (.iload_n 1, 1) := by decide +kernel
theorem dX1_findChain_13 : decode cX1_findChain 13 = .ok (.iload_n 1, 1) := by decide +kernel
theorem dX1_findChain_14 : decode cX1_findChain 14 = .ok (.iastore, 1) := by decide +kernel
theorem dX1_findChain_15 : decode cX1_findChain 15 = .ok (.aload_n 0, 1) := by decide +kernel
theorem dX1_findChain_16 : decode cX1_findChain 16 = .ok (.getfield 26, 3) := by decide +kernel
theorem dX1_findChain_19 : decode cX1_findChain 19 = .ok (.iconst 0, 1) := by decide +kernel
theorem dX1_findChain_20 : decode cX1_findChain 20 = .ok (.iload_n 1, 1) := by decide +kernel
theorem dX1_findChain_21 : decode cX1_findChain 21 = .ok (.iastore, 1) := by decide +kernel
theorem dX1_findChain_22 : decode cX1_findChain 22 = .ok (.iconst 1, 1) := by decide +kernel
theorem dX1_findChain_23 : decode cX1_findChain 23 = .ok (.istore_n 3, 1) := by decide +kernel
theorem dX1_findChain_24 : decode cX1_findChain 24 = .ok (.iconst 0, 1) := by decide +kernel
theorem dX1_findChain_25 : decode cX1_findChain 25 = .ok (.istore 4, 2) := by decide +kernel
theorem dX1_findChain_27 : decode cX1_findChain 27 = .ok (.iload 4, 2) := by decide +kernel
theorem dX1_findChain_29 : decode cX1_findChain 29 = .ok (.iload_n 3, 1) := by decide +kernel
theorem dX1_findChain_30 : decode cX1_findChain 30 = .ok (.if_icmp .ge 94, 3) := by decide +kernel
theorem dX1_findChain_33 : decode cX1_findChain 33 = .ok (.aload_n 0, 1) := by decide +kernel
theorem dX1_findChain_34 : decode cX1_findChain 34 = .ok (.getfield 26, 3) := by decide +kernel
theorem dX1_findChain_37 : decode cX1_findChain 37 = .ok (.iload 4, 2) := by decide +kernel
theorem dX1_findChain_39 : decode cX1_findChain 39 = .ok (.iaload, 1) := by decide +kernel
theorem dX1_findChain_40 : decode cX1_findChain 40 = .ok (.istore 5, 2) := by decide +kernel
theorem dX1_findChain_42 : decode cX1_findChain 42 = .ok (.iconst 0, 1) := by decide +kernel
theorem dX1_findChain_43 : decode cX1_findChain 43 = .ok (.istore 6, 2) := by decide +kernel
theorem dX1_findChain_45 : decode cX1_findChain 45 = .ok (.iload 6, 2) := by decide +kernel
theorem dX1_findChain_47 : decode cX1_findChain 47 = .ok (.aload_n 0, 1) := by decide +kernel
theorem dX1_findChain_48 : decode cX1_findChain 48 = .ok (.getfield 9, 3) := by decide +kernel
theorem dX1_findChain_51 : decode cX1_findChain 51 = .ok (.getfield 15, 3) := by decide +kernel
theorem dX1_findChain_54 : decode cX1_findChain 54 = .ok (.if_icmp .ge 64, 3) := by decide +kernel
theorem dX1_findChain_57 : decode cX1_findChain 57 = .ok (.aload_n 0, 1) := by decide +kernel
theorem dX1_findChain_58 : decode cX1_findChain 58 = .ok (.getfield 30, 3) := by decide +kernel
theorem dX1_findChain_61 : decode cX1_findChain 61 = .ok (.iload 6, 2) := by decide +kernel
theorem dX1_findChain_63 : decode cX1_findChain 63 = .ok (.iaload, 1) := by decide +kernel
theorem dX1_findChain_64 : decode cX1_findChain 64 = .ok (.iconst (-1), 1) := by decide +kernel
theorem dX1_findChain_65 : decode cX1_findChain 65 = .ok (.if_icmp .ne 47, 3) := by decide +kernel
theorem dX1_findChain_68 : decode cX1_findChain 68 = .ok (.aload_n 0, 1) := by decide +kernel
theorem dX1_findChain_69 : decode cX1_findChain 69 = .ok (.getfield 23, 3) := by decide +kernel
theorem dX1_findChain_72 : decode cX1_findChain 72 = .ok (.iload 5, 2) := by decide +kernel
theorem dX1_findChain_74 : decode cX1_findChain 74 = .ok (.aaload, 1) := by decide +kernel
theorem dX1_findChain_75 : decode cX1_findChain 75 = .ok (.iload 6, 2) := by decide +kernel
theorem dX1_findChain_77 : decode cX1_findChain 77 = .ok (.iaload, 1) := by decide +kernel
theorem dX1_findChain_78 : decode cX1_findChain 78 = .ok (.ifCond .le 34, 3) := by decide +kernel
theorem dX1_findChain_81 : decode cX1_findChain 81 = .ok (.iload_n 3, 1) := by decide +kernel
theorem dX1_findChain_82 : decode cX1_findChain 82 = .ok (.aload_n 0, 1) := by decide +kernel
theorem dX1_findChain_83 : decode cX1_findChain 83 = .ok (.getfield 9, 3) := by decide +kernel
theorem dX1_findChain_86 : decode cX1_findChain 86 = .ok (.getfield 15, 3) := by decide +kernel
theorem dX1_findChain_89 : decode cX1_findChain 89 = .ok (.if_icmp .ge 23, 3) := by decide +kernel
theorem dX1_findChain_92 : decode cX1_findChain 92 = .ok (.aload_n 0, 1) := by decide +kernel
theorem dX1_findChain_93 : decode cX1_findChain 93 = .ok (.getfield 30, 3) := by decide +kernel
theorem dX1_findChain_96 : decode cX1_findChain 96 = .ok (.iload 6, 2) := by decide +kernel
theorem dX1_findChain_98 : decode cX1_findChain 98 = .ok (.iload 5, 2) := by decide +kernel
theorem dX1_findChain_100 : decode cX1_findChain 100 = .ok (.iastore, 1) := by decide +kernel
theorem dX1_findChain_101 : decode cX1_findChain 101 = .ok (.aload_n 0, 1) := by decide +kernel
theorem dX1_findChain_102 : decode cX1_findChain 102 = .ok (.getfield 26, 3) := by decide +kernel
theorem dX1_findChain_105 : decode cX1_findChain 105 = .ok (.iload_n 3, 1) := by decide +kernel
theorem dX1_findChain_106 : decode cX1_findChain 106 = .ok (.iload 6, 2) := by decide +kernel
theorem dX1_findChain_108 : decode cX1_findChain 108 = .ok (.iastore, 1) := by decide +kernel
theorem dX1_findChain_109 : decode cX1_findChain 109 = .ok (.iinc 3 1, 3) := by decide +kernel
theorem dX1_findChain_112 : decode cX1_findChain 112 = .ok (.iinc 6 1, 3) := by decide +kernel
theorem dX1_findChain_115 : decode cX1_findChain 115 = .ok (.goto (-70), 3) := by decide +kernel
theorem dX1_findChain_118 : decode cX1_findChain 118 = .ok (.iinc 4 1, 3) := by decide +kernel
theorem dX1_findChain_121 : decode cX1_findChain 121 = .ok (.goto (-94), 3) := by decide +kernel
theorem dX1_findChain_124 : decode cX1_findChain 124 = .ok (.aload_n 0, 1) := by decide +kernel
theorem dX1_findChain_125 : decode cX1_findChain 125 = .ok (.getfield 30, 3) := by decide +kernel
theorem dX1_findChain_128 : decode cX1_findChain 128 = .ok (.iload_n 2, 1) := by decide +kernel
theorem dX1_findChain_129 : decode cX1_findChain 129 = .ok (.iaload, 1) := by decide +kernel
theorem dX1_findChain_130 : decode cX1_findChain 130 = .ok (.iconst (-1), 1) := by decide +kernel
theorem dX1_findChain_131 : decode cX1_findChain 131 = .ok (.if_icmp .eq 7, 3) := by decide +kernel
theorem dX1_findChain_134 : decode cX1_findChain 134 = .ok (.iconst 1, 1) := by decide +kernel
theorem dX1_findChain_135 : decode cX1_findChain 135 = .ok (.goto 4, 3) := by decide +kernel
theorem dX1_findChain_138 : decode cX1_findChain 138 = .ok (.iconst 0, 1) := by decide +kernel
theorem dX1_findChain_139 : decode cX1_findChain 139 = .ok (.ireturn, 1) := by decide +kernel
theorem dX1_fillChain_0 : decode cX1_fillChain 0 = .ok (.ldc 58, 2) := by decide +kernel
theorem dX1_fillChain_2 : decode cX1_fillChain 2 = .ok (.istore_n 3, 1) := by decide +kernel
theorem dX1_fillChain_3 : decode cX1_fillChain 3 = .ok (.iload_n 2, 1) := by decide +kernel
theorem dX1_fillChain_4 : decode cX1_fillChain 4 = .ok (.istore 4, 2) := by decide +kernel
theorem dX1_fillChain_6 : decode cX1_fillChain 6 = .ok (.iconst 0, 1) := by decide +kernel
theorem dX1_fillChain_7 : decode cX1_fillChain 7 = .ok (.istore 5, 2) := by decide +kernel
theorem dX1_fillChain_9 : decode cX1_fillChain 9 = .ok (.iload 5, 2) := by decide +kernel
theorem dX1_fillChain_11 : decode cX1_fillChain 11 = .ok (.aload_n 0, 1) := by decide +kernel
theorem dX1_fillChain_12 : decode cX1_fillChain 12 = .ok (.getfield 9, 3) := by decide +kernel
theorem dX1_fillChain_15 : decode cX1_fillChain 15 = .ok (.getfield 15, 3) := by decide +kernel
theorem dX1_fillChain_18 : decode cX1_fillChain 18 = .ok (.if_icmp .ge 44, 3) := by decide +kernel
theorem dX1_fillChain_21 : decode cX1_fillChain 21 = .ok (.iload 4, 2) := by decide +kernel
theorem dX1_fillChain_23 : decode cX1_fillChain 23 = .ok (.iload_n 1, 1) := by decide +kernel
theorem dX1_fillChain_24 : decode cX1_fillChain 24 = .ok (.if_icmp .eq 38, 3) := by decide +kernel
theorem dX1_fillChain_27 : decode cX1_fillChain 27 = .ok (.iload_n 3, 1) := by decide +kernel
theorem dX1_fillChain_28 : decode cX1_fillChain 28 = .ok (.aload_n 0, 1) := by decide +kernel
theorem dX1_fillChain_29 : decode cX1_fillChain 29 = .ok (.getfield 23, 3) := by decide +kernel
theorem dX1_fillChain_32 : decode cX1_fillChain 32 = .ok (.aload_n 0, 1) := by decide +kernel
theorem dX1_fillChain_33 : decode cX1_fillChain 33 = .ok (.getfield 30, 3) := by decide +kernel
theorem dX1_fillChain_36 : decode cX1_fillChain 36 = .ok (.iload 4, 2) := by decide +kernel
theorem dX1_fillChain_38 : decode cX1_fillChain 38 = .ok (.iaload, 1) := by decide +kernel
theorem dX1_fillChain_39 : decode cX1_fillChain 39 = .ok (.aaload, 1) := by decide +kernel
theorem dX1_fillChain_40 : decode cX1_fillChain 40 = .ok (.iload 4, 2) := by decide +kernel
theorem dX1_fillChain_42 : decode cX1_fillChain 42 = .ok (.iaload, 1) := by decide +kernel
theorem dX1_fillChain_43 : decode cX1_fillChain 43 = .ok (.invokestatic 59, 3) := by decide +kernel
theorem dX1_fillChain_46 : decode cX1_fillChain 46 = .ok (.istore_n 3, 1) := by decide +kernel
theorem dX1_fillChain_47 : decode cX1_fillChain 47 = .ok (.aload_n 0, 1) := by decide +kernel
theorem dX1_fillChain_48 : decode cX1_fillChain 48 = .ok (.getfield 30, 3) := by decide +kernel
theorem dX1_fillChain_51 : decode cX1_fillChain 51 = .ok (.iload 4, 2) := by decide +kernel
theorem dX1_fillChain_53 : decode cX1_fillChain 53 = .ok (.iaload, 1) := by decide +kernel
theorem dX1_fillChain_54 : decode cX1_fillChain 54 = .ok (.istore 4, 2) := by decide +kernel
theorem dX1_fillChain_56 : decode cX1_fillChain 56 = .ok (.iinc 5 1, 3) := by decide +kernel
theorem dX1_fillChain_59 : decode cX1_fillChain 59 = .ok (.goto (-50), 3) := by decide +kernel
theorem dX1_fillChain_62 : decode cX1_fillChain 62 = .ok (.iload_n 2, 1) := by decide +kernel
theorem dX1_fillChain_63 : decode cX1_fillChain 63 = .ok (.istore 4, 2) := by decide +kernel
theorem dX1_fillChain_65 : decode cX1_fillChain 65 = .ok (.iconst 0, 1) := by decide +kernel
theorem dX1_fillChain_66 : decode cX1_fillChain 66 = .ok (.istore 5, 2) := by decide +kernel
theorem dX1_fillChain_68 : decode cX1_fillChain 68 = .ok (.iload 5, 2) := by decide +kernel
theorem dX1_fillChain_70 : decode cX1_fillChain 70 = .ok (.aload_n 0, 1) := by decide +kernel
theorem dX1_fillChain_71 : decode cX1_fillChain 71 = .ok (.getfield 9, 3) := by decide +kernel
theorem dX1_fillChain_74 : decode cX1_fillChain 74 = .ok (.getfield 15, 3) := by decide +kernel
theorem dX1_fillChain_77 : decode cX1_fillChain 77 = .ok (.if_icmp .ge 62, 3) := by decide +kernel
theorem dX1_fillChain_80 : decode cX1_fillChain 80 = .ok (.iload 4, 2) := by decide +kernel
theorem dX1_fillChain_82 : decode cX1_fillChain 82 = .ok (.iload_n 1, 1) := by decide +kernel
theorem dX1_fillChain_83 : decode cX1_fillChain 83 = .ok (.if_icmp .eq 56, 3) := by decide +kernel
theorem dX1_fillChain_86 : decode cX1_fillChain 86 = .ok (.aload_n 0, 1) := by decide +kernel
theorem dX1_fillChain_87 : decode cX1_fillChain 87 = .ok (.getfield 23, 3) := by decide +kernel
theorem dX1_fillChain_90 : decode cX1_fillChain 90 = .ok (.aload_n 0, 1) := by decide +kernel
theorem dX1_fillChain_91 : decode cX1_fillChain 91 = .ok (.getfield 30, 3) := by decide +kernel
theorem dX1_fillChain_94 : decode cX1_fillChain 94 = .ok (.iload 4, 2) := by decide +kernel
theorem dX1_fillChain_96 : decode cX1_fillChain 96 = .ok (.iaload, 1) := by decide +kernel
theorem dX1_fillChain_97 : decode cX1_fillChain 97 = .ok (.aaload, 1) := by decide +kernel
theorem dX1_fillChain_98 : decode cX1_fillChain 98 = .ok (.iload 4, 2) := by decide +kernel
theorem dX1_fillChain_100 : decode cX1_fillChain 100 = .ok (.dup2, 1) := by decide +kernel
theorem dX1_fillChain_101 : decode cX1_fillChain 101 = .ok (.iaload, 1) := by decide +kernel
theorem dX1_fillChain_102 : decode cX1_fillChain 102 = .ok (.iload_n 3, 1) := by decide +kernel
theorem dX1_fillChain_103 : decode cX1_fillChain 103 = .ok (.isub, 1) := by decide +kernel
theorem dX1_fillChain_104 : decode cX1_fillChain 104 = .ok (.iastore, 1) := by decide +kernel
theorem dX1_fillChain_105 : decode cX1_fillChain 105 = .ok (.aload_n 0, 1) := by decide +kernel
theorem dX1_fillChain_106 : decode cX1_fillChain 106 = .ok (.getfield 23, 3) := by decide +kernel
theorem dX1_fillChain_109 : decode cX1_fillChain 109 = .ok (.iload 4, 2) := by decide +kernel
theorem dX1_fillChain_111 : decode cX1_fillChain 111 = .ok (.aaload, 1) := by decide +kernel
theorem dX1_fillChain_112 : decode cX1_fillChain 112 = .ok (.aload_n 0, 1) := by decide +kernel
theorem dX1_fillChain_113 : decode cX1_fillChain 113 = .ok (.getfield 30, 3) := by decide +kernel
theorem dX1_fillChain_116 : decode cX1_fillChain 116 = .ok (.iload 4, 2) := by decide +kernel
theorem dX1_fillChain_118 : decode cX1_fillChain 118 = .ok (.iaload, 1) := by decide +kernel
theorem dX1_fillChain_119 : decode cX1_fillChain 119 = .ok (.dup2, 1) := by decide +kernel
theorem dX1_fillChain_120 : decode cX1_fillChain 120 = .ok (.iaload, 1) := by decide +kernel
theorem dX1_fillChain_121 : decode cX1_fillChain 121 = .ok (.iload_n 3, 1) := by decide +kernel
theorem dX1_fillChain_122 : decode cX1_fillChain 122 = .ok (.iadd, 1) := by decide +kernel
theorem dX1_fillChain_123 : decode cX1_fillChain 123 = .ok (.iastore, 1) := by decide +kernel
theorem dX1_fillChain_124 : decode cX1_fillChain 124 = .ok (.aload_n 0, 1) := by decide +kernel
theorem dX1_fillChain_125 : decode cX1_fillChain 125 = .ok (.getfield 30, 3) := by decide +kernel
theorem dX1_fillChain_128 : decode cX1_fillChain 128 = .ok (.iload 4, 2) := by decide +kernel
theorem dX1_fillChain_130 : decode cX1_fillChain 130 = .ok (.iaload, 1) := by decide +kernel
theorem dX1_fillChain_131 : decode cX1_fillChain 131 = .ok (.istore 4, 2) := by decide +kernel
theorem dX1_fillChain_133 : decode cX1_fillChain 133 = .ok (.iinc 5 1, 3) := by decide +kernel
theorem dX1_fillChain_136 : decode cX1_fillChain 136 = .ok (.goto (-68), 3) := by decide +kernel
theorem dX1_fillChain_139 : decode cX1_fillChain 139 = .ok (.iload_n 3, 1) := by decide +kernel
theorem dX1_fillChain_140 : decode cX1_fillChain 140 = .ok (.ireturn, 1) := by decide +kernel
theorem dX2_init_0 : decode cX2_init 0 = .ok (.aload_n 0, 1) := by decide +kernel
theorem dX2_init_1 : decode cX2_init 1 = .ok (.invokespecial 3, 3) := by decide +kernel
theorem dX2_init_4 : decode cX2_init 4 = .ok (.aload_n 0, 1) := by decide +kernel
theorem dX2_init_5 : decode cX2_init 5 = .ok (.aload_n 1, 1) := by decide +kernel
theorem dX2_init_6 : decode cX2_init 6 = .ok (.putfield 9, 3) := by decide +kernel
theorem dX2_init_9 : decode cX2_init 9 = .ok (.aload_n 0, 1) := by decide +kernel
theorem dX2_init_10 : decode cX2_init 10 = .ok (.aload_n 1, 1) := by decide +kernel
theorem dX2_init_11 : decode cX2_init 11 = .ok (.getfield 15, 3) := by decide +kernel
theorem dX2_init_14 : decode cX2_init 14 = .ok (.newarray .int, 2) := by decide +kernel
theorem dX2_init_16 : decode cX2_init 16 = .ok (.putfield 21, 3) := by decide +kernel
theorem dX2_init_19 : decode cX2_init 19 = .ok (.aload_n 0, 1) := by decide +kernel
theorem dX2_init_20 : decode cX2_init 20 = .ok (.aload_n 1, 1) := by decide +kernel
theorem dX2_init_21 : decode cX2_init 21 = .ok (.getfield 15, 3) := by decide +kernel
theorem dX2_init_24 : decode cX2_init 24 = .ok (.newarray .int, 2) := by decide +kernel
theorem dX2_init_26 : decode cX2_init 26 = .ok (.putfield 25, 3) := by decide +kernel
theorem dX2_init_29 : decode cX2_init 29 = .ok (.aload_n 0, 1) := by decide +kernel
theorem dX2_init_30 : decode cX2_init 30 = .ok (.aload_n 1, 1) := by decide +kernel
theorem dX2_init_31 : decode cX2_init 31 = .ok (.getfield 15, 3) := by decide +kernel
theorem dX2_init_34 : decode cX2_init 34 = .ok (.newarray .int, 2) := by decide +kernel
theorem dX2_init_36 : decode cX2_init 36 = .ok (.putfield 28, 3) := by decide +kernel
theorem dX2_init_39 : decode cX2_init 39 = .ok (.aload_n 0, 1) := by decide +kernel
theorem dX2_init_40 : decode cX2_init 40 = .ok (.lconst 0, 1) := by decide +kernel
theorem dX2_init_41 : decode cX2_init 41 = .ok (.putfield 31, 3) := by decide +kernel
theorem dX2_init_44 : decode cX2_init 44 = .ok (.aload_n 0, 1) := by decide +kernel
theorem dX2_init_45 : decode cX2_init 45 = .ok (.iconst 0, 1) := by decide +kernel
theorem dX2_init_46 : decode cX2_init 46 = .ok (.putfield 35, 3) := by decide +kernel
theorem dX2_init_49 : decode cX2_init 49 = .ok (.return_, 1) := by decide +kernel
set_option maxRecDepth 20000 in
theorem ggX2_bound_J7_fill_53178 : GoodIn wsX2_bound wsJ7_fill_53178 := goodIn_r _ [9] (by decide +kernel) (by decide +kernel)
set_option maxRecDepth 20000 in
theorem gX2_bound_J7_fill_53178 : GoodIn wsX2_bound (va_wsS RX2 38 yJ7_fill_53178 wsJ7_fill_53178) := goodIn_app (goodIn_of _ (by decide +kernel)) ggX2_bound_J7_fill_53178
set_option maxRecDepth 20000 in
theorem ggX2_bound_X2_makeTree : GoodIn wsX2_bound wsX2_makeTree := goodIn_r _ [14, 4, 15, 16, 17, 5, 1, 18, 19, 20, 13, 21, 22, 23, 24, 25, 26, 27, 28, 29, 30, 31, 32, 33, 34, 35, 36, 37, 45, 46, 47, 48, 49, 50, 51, 52, 53] (by decide +kernel) (by decide +kernel)
set_option maxRecDepth 20000 in
theorem gX2_bound_X2_makeTree : GoodIn wsX2_bound (wsV RX2 44 RX2 yX2_makeTree wsX2_makeTree) := goodIn_app (goodIn_of _ (by decide +kernel)) ggX2_bound_X2_makeTree
set_option maxRecDepth 20000 in
theorem ggX2_bound_X2_stepOf : GoodIn wsX2_bound wsX2_stepOf := goodIn_r _ [40] (by decide +kernel) (by decide +kernel)
set_option maxRecDepth 20000 in
theorem gX2_bound_X2_stepOf : GoodIn wsX2_bound (va_wsS RX2 50 yX2_stepOf wsX2_stepOf) := goodIn_app (goodIn_of _ (by decide +kernel)) ggX2_bound_X2_stepOf
set_option maxRecDepth 20000 in
theorem ggX2_bound_X2_moveWeights : GoodIn wsX2_bound wsX2_moveWeights := goodIn_r _ [44, 15, 1, 16, 45, 46, 47, 48, 49, 50, 51, 52, 53] (by decide +kernel) (by decide +kernel)
set_option maxRecDepth 20000 in
theorem gX2_bound_X2_moveWeights : GoodIn wsX2_bound (wsV RX2 54 RX2 yX2_moveWeights wsX2_moveWeights) := goodIn_app (goodIn_of _ (by decide +kernel)) ggX2_bound_X2_moveWeights
theorem dX2_bound_0 : decode cX2_bound 0 = .ok (.aload_n 0, 1) := by decide +kernel
theorem dX2_bound_1 : decode cX2_bound 1 = .ok (.getfield 21, 3) := by decide +kernel
theorem dX2_bound_4 : decode cX2_bound 4 = .ok (.iconst 0, 1) := by decide +kernel
theorem dX2_bound_5 : decode cX2_bound 5 = .ok (.invokestatic 38, 3) := by decide +kernel
theorem dX2_bound_8 : decode cX2_bound 8 = .ok (.aload_n 0, 1) := by decide +kernel
theorem dX2_bound_9 : decode cX2_bound 9 = .ok (.iconst 0, 1) := by decide +kernel
theorem dX2_bound_10 : decode cX2_bound 10 = .ok (.putfield 35, 3) := by decide +kernel
theorem dX2_bound_13 : decode cX2_bound 13 = .ok (.lconst 0, 1) := by decide +kernel
theorem dX2_bound_14 : decode cX2_bound 14 = .ok (.lstore_n 2, 1) := by decide +kernel
theorem dX2_bound_15 : decode cX2_bound 15 = .ok (.iconst 1, 1) := by decide +kernel
theorem dX2_bound_16 : decode cX2_bound 16 = .ok (.istore 4, 2) := by decide +kernel
theorem dX2_bound_18 : decode cX2_bound 18 = .ok (.iload 4, 2) := by decide +kernel
theorem dX2_bound_20 : decode cX2_bound 20 = .ok (.iload_n 1, 1) := by decide +kernel
theorem dX2_bound_21 : decode cX2_bound 21 = .ok (.if_icmp .gt 56, 3) := by decide +kernel
theorem dX2_bound_24 : decode cX2_bound 24 = .ok (.aload_n 0, 1) := by decide +kernel
theorem dX2_bound_25 : decode cX2_bound 25 = .ok (.invokevirtual 44, 3) := by decide +kernel
theorem dX2_bound_28 : decode cX2_bound 28 = .ok (.ifCond .ne 7, 3) := by decide +kernel
theorem dX2_bound_31 : decode cX2_bound 31 = .ok (.ldc2_w 48, 3) := by decide +kernel
theorem dX2_bound_34 : decode cX2_bound 34 = .ok (.lreturn, 1) := by decide +kernel
theorem dX2_bound_35 : decode cX2_bound 35 = .ok (.aload_n 0, 1) := by decide +kernel
theorem dX2_bound_36 : decode cX2_bound 36 = .ok (.getfield 35, 3) := by decide +kernel
theorem dX2_bound_39 : decode cX2_bound 39 = .ok (.ifCond .eq 12, 3) := by decide +kernel
theorem dX2_bound_42 : decode cX2_bound 42 = .ok (.aload_n 0, 1) := by decide +kernel
theorem dX2_bound_43 : decode cX2_bound 43 = .ok (.getfield 31, 3) := by decide +kernel
theorem dX2_bound_46 : decode cX2_bound 46 = .ok (.lload_n 2, 1) := by decide +kernel
theorem dX2_bound_47 : decode cX2_bound 47 = .ok (.lcmp, 1) := by decide +kernel
theorem dX2_bound_48 : decode cX2_bound 48 = .ok (.ifCond .le 14, 3) := by decide +kernel
theorem dX2_bound_51 : decode cX2_bound 51 = .ok (.aload_n 0, 1) := by decide +kernel
theorem dX2_bound_52 : decode cX2_bound 52 = .ok (.getfield 31, 3) := by decide +kernel
theorem dX2_bound_55 : decode cX2_bound 55 = .ok (.lstore_n 2, 1) := by decide +kernel
theorem dX2_bound_56 : decode cX2_bound 56 = .ok (.aload_n 0, 1) := by decide +kernel
theorem dX2_bound_57 : decode cX2_bound 57 = .ok (.iload 4, 2) := by decide +kernel
theorem dX2_bound_59 : decode cX2_bound 59 = .ok (.putfield 35, 3) := by decide +kernel
theorem dX2_bound_62 : decode cX2_bound 62 = .ok (.aload_n 0, 1) := by decide +kernel
theorem dX2_bound_63 : decode cX2_bound 63 = .ok (.iload 4, 2) := by decide +kernel
theorem dX2_bound_65 : decode cX2_bound 65 = .ok (.invokestatic 50, 3) := by decide +kernel
theorem dX2_bound_68 : decode cX2_bound 68 = .ok (.invokevirtual 54, 3) := by decide +kernel
theorem dX2_bound_71 : decode cX2_bound 71 = .ok (.iinc 4 1, 3) := by decide +kernel
theorem dX2_bound_74 : decode cX2_bound 74 = .ok (.goto (-56), 3) := by decide +kernel
theorem dX2_bound_77 : decode cX2_bound 77 = .ok (.lload_n 2, 1) := by decide +kernel
theorem dX2_bound_78 : decode cX2_bound 78 = .ok (.lconst 0, 1) := by decide +kernel
theorem dX2_bound_79 : decode cX2_bound 79 = .ok (.lcmp, 1) := by decide +kernel
theorem dX2_bound_80 : decode cX2_bound 80 = .ok (.ifCond .ge 7, 3) := by decide +kernel
theorem dX2_bound_83 : decode cX2_bound 83 = .ok (.lconst 0, 1) := by decide +kernel
theorem dX2_bound_84 : decode cX2_bound 84 = .ok (.goto 10, 3) := by decide +kernel
theorem dX2_bound_87 : decode cX2_bound 87 = .ok (.lload_n 2, 1) := by decide +kernel
theorem dX2_bound_88 : decode cX2_bound 88 = .ok (.lconst 1, 1) := by decide +kernel
theorem dX2_bound_89 : decode cX2_bound 89 = .ok (.ladd, 1) := by decide +kernel
theorem dX2_bound_90 : decode cX2_bound 90 = .ok (.ldc2_w 58, 3) := by decide +kernel
theorem dX2_bound_93 : decode cX2_bound 93 = .ok (.ldiv, 1) := by decide +kernel
theorem dX2_bound_94 : decode cX2_bound 94 = .ok (.lreturn, 1) := by decide +kernel
theorem dX2_stepOf_0 : decode cX2_stepOf 0 = .ok (.iload_n 0, 1) := by decide +kernel
theorem dX2_stepOf_1 : decode cX2_stepOf 1 = .ok (.iconst 1, 1) := by decide +kernel
theorem dX2_stepOf_2 : decode cX2_stepOf 2 = .ok (.isub, 1) := by decide +kernel
theorem dX2_stepOf_3 : decode cX2_stepOf 3 = .ok (.iconst 4, 1) := by decide +kernel
theorem dX2_stepOf_4 : decode cX2_stepOf 4 = .ok (.idiv, 1) := by decide +kernel
theorem dX2_stepOf_5 : decode cX2_stepOf 5 = .ok (.istore_n 1, 1) := by decide +kernel
theorem dX2_stepOf_6 : decode cX2_stepOf 6 = .ok (.iload_n 1, 1) := by decide +kernel
theorem dX2_stepOf_7 : decode cX2_stepOf 7 = .ok (.iconst 4, 1) := by decide +kernel
theorem dX2_stepOf_8 : decode cX2_stepOf 8 = .ok (.if_icmp .ge 10, 3) := by decide +kernel
theorem dX2_stepOf_11 : decode cX2_stepOf 11 = .ok (.bipush 16, 2) := by decide +kernel
theorem dX2_stepOf_13 : decode cX2_stepOf 13 = .ok (.iload_n 1, 1) := by decide +kernel
theorem dX2_stepOf_14 : decode cX2_stepOf 14 = .ok (.ishr, 1) := by decide +kernel
theorem dX2_stepOf_15 : decode cX2_stepOf 15 = .ok (.goto 4, 3) := by decide +kernel
theorem dX2_stepOf_18 : decode cX2_stepOf 18 = .ok (.iconst 1, 1) := by decide +kernel
theorem dX2_stepOf_19 : decode cX2_stepOf 19 = .ok (.ireturn, 1) := by decide +kernel
theorem dX2_moveWeights_0 : decode cX2_moveWeights 0 = .ok (.iconst 0, 1) := by decide +kernel
theorem dX2_moveWeights_1 : decode cX2_moveWeights 1 = .ok (.istore_n 2, 1) := by decide +kernel
theorem dX2_moveWeights_2 : decode cX2_moveWeights 2 = .ok (.iload_n 2, 1) := by decide +kernel
theorem dX2_moveWeights_3 : decode cX2_moveWeights 3 = .ok (.aload_n 0, 1) := by decide +kernel
theorem dX2_moveWeights_4 : decode cX2_moveWeights 4 = .ok (.getfield 9, 3) := by decide +kernel
theorem dX2_moveWeights_7 : decode cX2_moveWeights 7 = .ok (.getfield 15, 3) := by decide +kernel
theorem dX2_moveWeights_10 : decode cX2_moveWeights 10 = .ok (.if_icmp .ge 28, 3) := by decide +kernel
theorem dX2_moveWeights_13 : decode cX2_moveWeights 13 = .ok (.aload_n 0, 1) := by decide +kernel
theorem dX2_moveWeights_14 : decode cX2_moveWeights 14 = .ok (.getfield 21, 3) := by decide +kernel
theorem dX2_moveWeights_17 : decode cX2_moveWeights 17 = .ok (.iload_n 2, 1) := by decide +kernel
theorem dX2_moveWeights_18 : decode cX2_moveWeights 18 = .ok (.dup2, 1) := by decide +kernel
theorem dX2_moveWeights_19 : decode cX2_moveWeights 19 = .ok (.iaload, 1) := by decide +kernel
theorem dX2_moveWeights_20 : decode cX2_moveWeights 20 = .ok (.aload_n 0, 1) := by decide +kernel
theorem dX2_moveWeights_21 : decode cX2_moveWeights 21 = .ok (.getfield 25, 3) := by decide +kernel
theorem dX2_moveWeights_24 : decode cX2_moveWeights 24 = .ok (.iload_n 2, 1) := by decide +kernel
theorem dX2_moveWeights_25 : decode cX2_moveWeights 25 = .ok (.iaload, 1) := by decide +kernel
theorem dX2_moveWeights_26 : decode cX2_moveWeights 26 = .ok (.iconst 2, 1) := by decide +kernel
theorem dX2_moveWeights_27 : decode cX2_moveWeights 27 = .ok (.isub, 1) := by decide +kernel
theorem dX2_moveWeights_28 : decode cX2_moveWeights 28 = .ok (.iload_n 1, 1) := by decide +kernel
theorem dX2_moveWeights_29 : decode cX2_moveWeights 29 = .ok (.imul, 1) := by decide +kernel
theorem dX2_moveWeights_30 : decode cX2_moveWeights 30 = .ok (.iadd, 1) := by decide +kernel
theorem dX2_moveWeights_31 : decode cX2_moveWeights 31 = .ok (.iastore, 1) := by decide +kernel
theorem dX2_moveWeights_32 : decode cX2_moveWeights 32 = .ok (.iinc 2 1, 3) := by decide +kernel
theorem dX2_moveWeights_35 : decode cX2_moveWeights 35 = .ok (.goto (-33), 3) := by decide +kernel
theorem dX2_moveWeights_38 : decode cX2_moveWeights 38 = .ok (.return_, 1) := by decide +kernel
set_option maxRecDepth 20000 in
theorem ggX2_makeTree_X2_joinTwoPieces : GoodIn wsX2_makeTree wsX2_joinTwoPieces := goodIn_r _ [11, 2, 4, 12, 13, 14, 10, 15, 5, 6, 16, 17, 18, 19, 1, 3, 20, 21, 22, 23, 28, 29, 30, 31, 32, 33, 34, 35, 36] (by decide +kernel) (by decide +kernel)
set_option maxRecDepth 20000 in
theorem gX2_makeTree_X2_joinTwoPieces : GoodIn wsX2_makeTree (wsV RX2 60 RX2 yX2_joinTwoPieces wsX2_joinTwoPieces) := goodIn_app (goodIn_of _ (by decide +kernel)) ggX2_makeTree_X2_joinTwoPieces
set_option maxRecDepth 20000 in
theorem ggX2_makeTree_X2_cheapestFromPlace0 : GoodIn wsX2_makeTree wsX2_cheapestFromPlace0 := goodIn_r _ [27, 2, 12, 13, 14, 10, 15, 5, 6, 28, 29, 30, 31, 32, 33, 34, 35, 36] (by decide +kernel) (by decide +kernel)
set_option maxRecDepth 20000 in
theorem gX2_makeTree_X2_cheapestFromPlace0 : GoodIn wsX2_makeTree (wsV RX2 63 RX2 yX2_cheapestFromPlace0 wsX2_cheapestFromPlace0) := goodIn_app (goodIn_of _ (by decide +kernel)) ggX2_makeTree_X2_cheapestFromPlace0
set_option maxRecDepth 20000 in
theorem ggX2_makeTree_X2_take : GoodIn wsX2_makeTree wsX2_take := goodIn_r _ [19, 1, 3, 12, 13, 14, 10, 15, 5, 2, 6, 28, 29, 30, 31, 32, 33, 34, 35, 36] (by decide +kernel) (by decide +kernel)
set_option maxRecDepth 20000 in
theorem gX2_makeTree_X2_take : GoodIn wsX2_makeTree (wsV RX2 66 RX2 yX2_take wsX2_take) := goodIn_app (goodIn_of _ (by decide +kernel)) ggX2_makeTree_X2_take
theorem dX2_makeTree_0 : decode cX2_makeTree 0 = .ok (.aload_n 0, 1) := by decide +kernel
theorem dX2_makeTree_1 : decode cX2_makeTree 1 = .ok (.lconst 0, 1) := by decide +kernel
theorem dX2_makeTree_2 : decode cX2_makeTree 2 = .ok (.putfield 31, 3) := by decide +kernel
theorem dX2_makeTree_5 : decode cX2_makeTree 5 = .ok (.iconst 0, 1) := by decide +kernel
theorem dX2_makeTree_6 : decode cX2_makeTree 6 = .ok (.istore_n 1, 1) := by decide +kernel
theorem dX2_makeTree_7 : decode cX2_makeTree 7 = .ok (.iload_n 1, 1) := by decide +kernel
theorem dX2_makeTree_8 : decode cX2_makeTree 8 = .ok (.aload_n 0, 1) := by decide +kernel
theorem dX2_makeTree_9 : decode cX2_makeTree 9 = .ok (.getfield 9, 3) := by decide +kernel
theorem dX2_makeTree_12 : decode cX2_makeTree 12 = .ok (.getfield 15, 3) := by decide +kernel
theorem dX2_makeTree_15 : decode cX2_makeTree 15 = .ok (.if_icmp .ge 43, 3) := by decide +kernel
theorem dX2_makeTree_18 : decode cX2_makeTree 18 = .ok (.aload_n 0, 1) := by decide +kernel
theorem dX2_makeTree_19 : decode cX2_makeTree 19 = .ok (.getfield 25, 3) := by decide +kernel
theorem dX2_makeTree_22 : decode cX2_makeTree 22 = .ok (.iload_n 1, 1) := by decide +kernel
theorem dX2_makeTree_23 : decode cX2_makeTree 23 = .ok (.iconst 0, 1) := by decide +kernel
theorem dX2_makeTree_24 : decode cX2_makeTree 24 = .ok (.iastore, 1) := by decide +kernel
theorem dX2_makeTree_25 : decode cX2_makeTree 25 = .ok (.aload_n 0, 1) := by decide +kernel
theorem dX2_makeTree_26 : decode cX2_makeTree 26 = .ok (.getfield 28, 3) := by decide +kernel
theorem dX2_makeTree_29 : decode cX2_makeTree 29 = .ok (.iload_n 1, 1) := by decide +kernel
theorem dX2_makeTree_30 : decode cX2_makeTree 30 = .ok (.iload_n 1, 1) := by decide +kernel
theorem dX2_makeTree_31 : decode cX2_makeTree 31 = .ok (.iastore, 1) := by decide +kernel
theorem dX2_makeTree_32 : decode cX2_makeTree 32 = .ok (.aload_n 0, 1) := by decide +kernel
theorem dX2_makeTree_33 : decode cX2_makeTree 33 = .ok (.dup, 1) := by decide +kernel
theorem dX2_makeTree_34 : decode cX2_makeTree 34 = .ok (.getfield 31, 3) := by decide +kernel
theorem dX2_makeTree_37 : decode cX2_makeTree 37 = .ok (.ldc2_w 58, 3) := by decide +kernel
theorem dX2_makeTree_40 : decode cX2_makeTree 40 = .ok (.aload_n 0, 1) := by decide +kernel
theorem dX2_makeTree_41 : decode cX2_makeTree 41 = .ok (.getfield 21, 3) := by decide +kernel
theorem dX2_makeTree_44 : decode cX2_makeTree 44 = .ok (.iload_n 1, 1) := by decide +kernel
theorem dX2_makeTree_45 : decode cX2_makeTree 45 = .ok (.iaload, 1) := by decide +kernel
theorem dX2_makeTree_46 : decode cX2_makeTree 46 = .ok (.i2l, 1) := by decide +kernel
theorem dX2_makeTree_47 : decode cX2_makeTree 47 = .ok (.lmul, 1) := by decide +kernel
theorem dX2_makeTree_48 : decode cX2_makeTree 48 = .ok (.lsub, 1) := by decide +kernel
theorem dX2_makeTree_49 : decode cX2_makeTree 49 = .ok (.putfield 31, 3) := by decide +kernel
theorem dX2_makeTree_52 : decode cX2_makeTree 52 = .ok (.iinc 1 1, 3) := by decide +kernel
theorem dX2_makeTree_55 : decode cX2_makeTree 55 = .ok (.goto (-48), 3) := by decide +kernel
theorem dX2_makeTree_58 : decode cX2_makeTree 58 = .ok (.iconst 2, 1) := by decide +kernel
theorem dX2_makeTree_59 : decode cX2_makeTree 59 = .ok (.istore_n 1, 1) := by decide +kernel
theorem dX2_makeTree_60 : decode cX2_makeTree 60 = .ok (.iload_n 1, 1) := by decide +kernel
theorem dX2_makeTree_61 : decode cX2_makeTree 61 = .ok (.aload_n 0, 1) := by decide +kernel
theorem dX2_makeTree_62 : decode cX2_makeTree 62 = .ok (.getfield 9, 3) := by decide +kernel
theorem dX2_makeTree_65 : decode cX2_makeTree 65 = .ok (.getfield 15, 3) := by decide +kernel
theorem dX2_makeTree_68 : decode cX2_makeTree 68 = .ok (.if_icmp .ge 18, 3) := by decide +kernel
theorem dX2_makeTree_71 : decode cX2_makeTree 71 = .ok (.aload_n 0, 1) := by decide +kernel
theorem dX2_makeTree_72 : decode cX2_makeTree 72 = .ok (.invokevirtual 60, 3) := by decide +kernel
theorem dX2_makeTree_75 : decode cX2_makeTree 75 = .ok (.ifCond .ne 5, 3) := by decide +kernel
theorem dX2_makeTree_78 : decode cX2_makeTree 78 = .ok (.iconst 0, 1) := by decide +kernel
theorem dX2_makeTree_79 : decode cX2_makeTree 79 = .ok (.ireturn, 1) := by decide +kernel
theorem dX2_makeTree_80 : decode cX2_makeTree 80 = .ok (.iinc 1 1, 3) := by decide +kernel
theorem dX2_makeTree_83 : decode cX2_makeTree 83 = .ok (.goto (-23), 3) := by decide +kernel
theorem dX2_makeTree_86 : decode cX2_makeTree 86 = .ok (.aload_n 0, 1) := by decide +kernel
theorem dX2_makeTree_87 : decode cX2_makeTree 87 = .ok (.iconst (-1), 1) := by decide +kernel
theorem dX2_makeTree_88 : decode cX2_makeTree 88 = .ok (.invokevirtual 63, 3) := by decide +kernel
theorem dX2_makeTree_91 : decode cX2_makeTree 91 = .ok (.istore_n 1, 1) := by decide +kernel
theorem dX2_makeTree_92 : decode cX2_makeTree 92 = .ok (.aload_n 0, 1) := by decide +kernel
theorem dX2_makeTree_93 : decode cX2_makeTree 93 = .ok (.iload_n 1, 1) := by decide +kernel
theorem dX2_makeTree_94 : decode cX2_makeTree 94 = .ok (.invokevirtual 63, 3) := by decide +kernel
theorem dX2_makeTree_97 : decode cX2_makeTree 97 = .ok (.istore_n 2, 1) := by decide +kernel
theorem dX2_makeTree_98 : decode cX2_makeTree 98 = .ok (.iload_n 1, 1) := by decide +kernel
theorem dX2_makeTree_99 : decode cX2_makeTree 99 = .ok (.iconst (-1), 1) := by decide +kernel
theorem dX2_makeTree_100 : decode cX2_makeTree 100 = .ok (.if_icmp .eq 8, 3) := by decide +kernel
theorem dX2_makeTree_103 : decode cX2_makeTree 103 = .ok (.iload_n 2, 1) := by decide +kernel
theorem dX2_makeTree_104 : decode cX2_makeTree 104 = .ok (.iconst (-1), 1) := by decide +kernel
theorem dX2_makeTree_105 : decode cX2_makeTree 105 = .ok (.if_icmp .ne 5, 3) := by decide +kernel
theorem dX2_makeTree_108 : decode cX2_makeTree 108 = .ok (.iconst 0, 1) := by decide +kernel
theorem dX2_makeTree_109 : decode cX2_makeTree 109 = .ok (.ireturn, 1) := by decide +kernel
theorem dX2_makeTree_110 : decode cX2_makeTree 110 = .ok (.aload_n 0, 1) := by decide +kernel
theorem dX2_makeTree_111 : decode cX2_makeTree 111 = .ok (.iconst 0, 1) := by decide +kernel
theorem dX2_makeTree_112 : decode cX2_makeTree 112 = .ok (.iload_n 1, 1) := by decide +kernel
theorem dX2_makeTree_113 : decode cX2_makeTree 113 = .ok (.invokevirtual 66, 3) := by decide +kernel
theorem dX2_makeTree_116 : decode cX2_makeTree 116 = .ok (.aload_n 0, 1) := by decide +kernel
theorem dX2_makeTree_117 : decode cX2_makeTree 117 = .ok (.iconst 0, 1) := by decide +kernel
theorem dX2_makeTree_118 : decode cX2_makeTree 118 = .ok (.iload_n 2, 1) := by decide +kernel
theorem dX2_makeTree_119 : decode cX2_makeTree 119 = .ok (.invokevirtual 66, 3) := by decide +kernel
theorem dX2_makeTree_122 : decode cX2_makeTree 122 = .ok (.iconst 1, 1) := by decide +kernel
theorem dX2_makeTree_123 : decode cX2_makeTree 123 = .ok (.ireturn, 1) := by decide +kernel
set_option maxRecDepth 20000 in
theorem ggX2_joinTwoPieces_X2_price : GoodIn wsX2_joinTwoPieces wsX2_price := goodIn_r _ [7, 8, 1, 9, 20, 21, 22, 23, 24, 25, 26, 27, 28] (by decide +kernel) (by decide +kernel)
set_option maxRecDepth 20000 in
theorem gX2_joinTwoPieces_X2_price : GoodIn wsX2_joinTwoPieces (wsV RX2 74 RX2 yX2_price wsX2_price) := goodIn_app (goodIn_of _ (by decide +kernel)) ggX2_joinTwoPieces_X2_price
set_option maxRecDepth 20000 in
theorem ggX2_joinTwoPieces_X2_take : GoodIn wsX2_joinTwoPieces wsX2_take := goodIn_r _ [13, 14, 15, 3, 4, 5, 6, 7, 8, 1, 9, 20, 21, 22, 23, 24, 25, 26, 27, 28] (by decide +kernel) (by decide +kernel)
set_option maxRecDepth 20000 in
theorem gX2_joinTwoPieces_X2_take : GoodIn wsX2_joinTwoPieces (wsV RX2 66 RX2 yX2_take wsX2_take) := goodIn_app (goodIn_of _ (by decide +kernel)) ggX2_joinTwoPieces_X2_take
set_option maxRecDepth 20000 in
theorem ggX2_joinTwoPieces_X2_uniteWith : GoodIn wsX2_joinTwoPieces wsX2_uniteWith := goodIn_r _ [19, 1, 2, 20, 21, 22, 23, 24, 25, 26, 27, 28] (by decide +kernel) (by decide +kernel)
set_option maxRecDepth 20000 in
theorem gX2_joinTwoPieces_X2_uniteWith : GoodIn wsX2_joinTwoPieces (wsV RX2 78 RX2 yX2_uniteWith wsX2_uniteWith) := goodIn_app (goodIn_of _ (by decide +kernel)) ggX2_joinTwoPieces_X2_uniteWith
theorem dX2_joinTwoPieces_0 : decode cX2_joinTwoPieces 0 = .ok (.iconst (-1), 1) := by decide +kernel
theorem dX2_joinTwoPieces_1 : decode cX2_joinTwoPieces 1 = .ok (.istore_n 1, 1) := by decide +kernel
theorem dX2_joinTwoPieces_2 : decode cX2_joinTwoPieces 2 = .ok (.iconst (-1), 1) := by decide +kernel
theorem dX2_joinTwoPieces_3 : decode cX2_joinTwoPieces 3 = .ok (.istore_n 2, 1) := by decide +kernel
theorem dX2_joinTwoPieces_4 : decode cX2_joinTwoPieces 4 = .ok (.iconst 1, 1) := by decide +kernel
theorem dX2_joinTwoPieces_5 : decode cX2_joinTwoPieces 5 = .ok (.istore_n 3, 1) := by decide +kernel
theorem dX2_joinTwoPieces_6 : decode cX2_joinTwoPieces 6 = .ok (.iload_n 3, 1) := by decide +kernel
theorem dX2_joinTwoPieces_7 : decode cX2_joinTwoPieces 7 = .ok (.aload_n 0, 1) := by decide +kernel
theorem dX2_joinTwoPieces_8 : decode cX2_joinTwoPieces 8 = .ok (.getfield 9, 3) := by decide +kernel
theorem dX2_joinTwoPieces_11 : decode cX2_joinTwoPieces 11 = .ok (.getfield 15, 3) := by decide +kernel
theorem dX2_joinTwoPieces_14 : decode cX2_joinTwoPieces 14 = .ok (.if_icmp .ge 91, 3) := by decide +kernel
theorem dX2_joinTwoPieces_17 : decode cX2_joinTwoPieces 17 = .ok (.iload_n 3, 1) := by decide +kernel
theorem dX2_joinTwoPieces_18 : decode cX2_joinTwoPieces 18 = .ok (.iconst 1, 1) := by decide +kernel
theorem dX2_joinTwoPieces_19 : decode cX2_joinTwoPieces 19 = .ok (.iadd, 1) := by decide +kernel
theorem dX2_joinTwoPieces_20 : decode cX2_joinTwoPieces 20 = .ok (.istore 4, 2) := by decide +kernel
theorem dX2_joinTwoPieces_22 : decode cX2_joinTwoPieces 22 = .ok (.iload 4, 2) := by decide +kernel
theorem dX2_joinTwoPieces_24 : decode cX2_joinTwoPieces 24 = .ok (.aload_n 0, 1) := by decide +kernel
theorem dX2_joinTwoPieces_25 : decode cX2_joinTwoPieces 25 = .ok (.getfield 9, 3) := by decide +kernel
theorem dX2_joinTwoPieces_28 : decode cX2_joinTwoPieces 28 = .ok (.getfield 15, 3) := by decide +kernel
theorem dX2_joinTwoPieces_31 : decode cX2_joinTwoPieces 31 = .ok (.if_icmp .ge 68, 3) := by decide +kernel
theorem dX2_joinTwoPieces_34 : decode cX2_joinTwoPieces 34 = .ok (.aload_n 0, 1) := by decide +kernel
theorem dX2_joinTwoPieces_35 : decode cX2_joinTwoPieces 35 = .ok (.getfield 28, 3) := by decide +kernel
theorem dX2_joinTwoPieces_38 : decode cX2_joinTwoPieces 38 = .ok (.iload_n 3, 1) := by decide +kernel
theorem dX2_joinTwoPieces_39 : decode cX2_joinTwoPieces 39 = .ok (.iaload, 1) := by decide +kernel
theorem dX2_joinTwoPieces_40 : decode cX2_joinTwoPieces 40 = .ok (.aload_n 0, 1) := by decide +kernel
theorem dX2_joinTwoPieces_41 : decode cX2_joinTwoPieces 41 = .ok (.getfield 28, 3) := by decide +kernel
theorem dX2_joinTwoPieces_44 : decode cX2_joinTwoPieces 44 = .ok (.iload 4, 2) := by decide +kernel
theorem dX2_joinTwoPieces_46 : decode cX2_joinTwoPieces 46 = .ok (.iaload, 1) := by decide +kernel
theorem dX2_joinTwoPieces_47 : decode cX2_joinTwoPieces 47 = .ok (.if_icmp .eq 46, 3) := by decide +kernel
theorem dX2_joinTwoPieces_50 : decode cX2_joinTwoPieces 50 = .ok (.aload_n 0, 1) := by decide +kernel
theorem dX2_joinTwoPieces_51 : decode cX2_joinTwoPieces 51 = .ok (.getfield 9, 3) := by decide +kernel
theorem dX2_joinTwoPieces_54 : decode cX2_joinTwoPieces 54 = .ok (.getfield 70, 3) := by decide +kernel
theorem dX2_joinTwoPieces_57 : decode cX2_joinTwoPieces 57 = .ok (.iload_n 3, 1) := by decide +kernel
theorem dX2_joinTwoPieces_58 : decode cX2_joinTwoPieces 58 = .ok (.aaload, 1) := by decide +kernel
theorem dX2_joinTwoPieces_59 : decode cX2_joinTwoPieces 59 = .ok (.iload 4, 2) := by decide +kernel
theorem dX2_joinTwoPieces_61 : decode cX2_joinTwoPieces 61 = .ok (.iaload, 1) := by decide +kernel
theorem dX2_joinTwoPieces_62 : decode cX2_joinTwoPieces 62 = .ok (.iconst (-1), 1) := by decide +kernel
theorem dX2_joinTwoPieces_63 : decode cX2_joinTwoPieces 63 = .ok (.if_icmp .eq 30, 3) := by decide +kernel
theorem dX2_joinTwoPieces_66 : decode cX2_joinTwoPieces 66 = .ok (.iload_n 1, 1) := by decide +kernel
theorem dX2_joinTwoPieces_67 : decode cX2_joinTwoPieces 67 = .ok (.iconst (-1), 1) := by decide +kernel
theorem dX2_joinTwoPieces_68 : decode cX2_joinTwoPieces 68 = .ok (.if_icmp .eq 20, 3) := by decide +kernel
theorem dX2_joinTwoPieces_71 : decode cX2_joinTwoPieces 71 = .ok (.aload_n 0, 1) := by decide +kernel
theorem dX2_joinTwoPieces_72 : decode cX2_joinTwoPieces 72 = .ok (.iload_n 3, 1) := by decide +kernel
theorem dX2_joinTwoPieces_73 : decode cX2_joinTwoPieces 73 = .ok (.iload 4, 2) := by decide +kernel
theorem dX2_joinTwoPieces_75 : decode cX2_joinTwoPieces 75 = .ok (.invokevirtual 74, 3) := by decide +kernel
theorem dX2_joinTwoPieces_78 : decode cX2_joinTwoPieces 78 = .ok (.aload_n 0, 1) := by decide +kernel
theorem dX2_joinTwoPieces_79 : decode cX2_joinTwoPieces 79 = .ok (.iload_n 1, 1) := by decide +kernel
theorem dX2_joinTwoPieces_80 : decode cX2_joinTwoPieces 80 = .ok (.iload_n 2, 1) := by decide +kernel
theorem dX2_joinTwoPieces_81 : decode cX2_joinTwoPieces 81 = .ok (.invokevirtual 74, 3) := by decide +kernel
theorem dX2_joinTwoPieces_84 : decode cX2_joinTwoPieces 84 = .ok (.lcmp, 1) := by decide +kernel
theorem dX2_joinTwoPieces_85 : decode cX2_joinTwoPieces 85 = .ok (.ifCond .ge 8, 3) := by decide +kernel
theorem dX2_joinTwoPieces_88 : decode cX2_joinTwoPieces 88 = .ok (.iload_n 3, 1) := by decide +kernel
theorem dX2_joinTwoPieces_89 : decode cX2_joinTwoPieces 89 = .ok (.istore_n 1, 1) := by decide +kernel
theorem dX2_joinTwoPieces_90 : decode cX2_joinTwoPieces 90 = .ok (.iload 4, 2) := by decide +kernel
theorem dX2_joinTwoPieces_92 : decode cX2_joinTwoPieces 92 = .ok (.istore_n 2, 1) := by decide +kernel
theorem dX2_joinTwoPieces_93 : decode cX2_joinTwoPieces 93 = .ok (.iinc 4 1, 3) := by decide +kernel
theorem dX2_joinTwoPieces_96 : decode cX2_joinTwoPieces 96 = .ok (.goto (-74), 3) := by decide +kernel
theorem dX2_joinTwoPieces_99 : decode cX2_joinTwoPieces 99 = .ok (.iinc 3 1, 3) := by decide +kernel
theorem dX2_joinTwoPieces_102 : decode cX2_joinTwoPieces 102 = .ok (.goto (-96), 3) := by decide +kernel
theorem dX2_joinTwoPieces_105 : decode cX2_joinTwoPieces 105 = .ok (.iload_n 1, 1) := by decide +kernel
theorem dX2_joinTwoPieces_106 : decode cX2_joinTwoPieces 106 = .ok (.iconst (-1), 1) := by decide +kernel
theorem dX2_joinTwoPieces_107 : decode cX2_joinTwoPieces 107 = .ok (.if_icmp .ne 5, 3) := by decide +kernel
theorem dX2_joinTwoPieces_110 : decode cX2_joinTwoPieces 110 = .ok (.iconst 0, 1) := by decide +kernel
theorem dX2_joinTwoPieces_111 : decode cX2_joinTwoPieces 111 = .ok (.ireturn, 1) := by decide +kernel
theorem dX2_joinTwoPieces_112 : decode cX2_joinTwoPieces 112 = .ok (.aload_n 0, 1) := by decide +kernel
theorem dX2_joinTwoPieces_113 : decode cX2_joinTwoPieces 113 = .ok (.iload_n 1, 1) := by decide +kernel
theorem dX2_joinTwoPieces_114 : decode cX2_joinTwoPieces 114 = .ok (.iload_n 2, 1) := by decide +kernel
theorem dX2_joinTwoPieces_115 : decode cX2_joinTwoPieces 115 = .ok (.invokevirtual 66, 3) := by decide +kernel
theorem dX2_joinTwoPieces_118 : decode cX2_joinTwoPieces 118 = .ok (.aload_n 0, 1) := by decide +kernel
theorem dX2_joinTwoPieces_119 : decode cX2_joinTwoPieces 119 = .ok (.aload_n 0, 1) := by decide +kernel
theorem dX2_joinTwoPieces_120 : decode cX2_joinTwoPieces 120 = .ok (.getfield 28, 3) := by decide +kernel
theorem dX2_joinTwoPieces_123 : decode cX2_joinTwoPieces 123 = .ok (.iload_n 1, 1) := by decide +kernel
theorem dX2_joinTwoPieces_124 : decode cX2_joinTwoPieces 124 = .ok (.iaload, 1) := by decide +kernel
theorem dX2_joinTwoPieces_125 : decode cX2_joinTwoPieces 125 = .ok (.aload_n 0, 1) := by decide +kernel
theorem dX2_joinTwoPieces_126 : decode cX2_joinTwoPieces 126 = .ok (.getfield 28, 3) := by decide +kernel
theorem dX2_joinTwoPieces_129 : decode cX2_joinTwoPieces 129 = .ok (.iload_n 2, 1) := by decide +kernel
theorem dX2_joinTwoPieces_130 : decode cX2_joinTwoPieces 130 = .ok (.iaload, 1) := by decide +kernel
theorem dX2_joinTwoPieces_131 : decode cX2_joinTwoPieces 131 = .ok (.invokevirtual 78, 3) := by decide +kernel
theorem dX2_joinTwoPieces_134 : decode cX2_joinTwoPieces 134 = .ok (.iconst 1, 1) := by decide +kernel
theorem dX2_joinTwoPieces_135 : decode cX2_joinTwoPieces 135 = .ok (.ireturn, 1) := by decide +kernel
theorem dX2_uniteWith_0 : decode cX2_uniteWith 0 = .ok (.iconst 0, 1) := by decide +kernel
theorem dX2_uniteWith_1 : decode cX2_uniteWith 1 = .ok (.istore_n 3, 1) := by decide +kernel
theorem dX2_uniteWith_2 : decode cX2_uniteWith 2 = .ok (.iload_n 3, 1) := by decide +kernel
theorem dX2_uniteWith_3 : decode cX2_uniteWith 3 = .ok (.aload_n 0, 1) := by decide +kernel
theorem dX2_uniteWith_4 : decode cX2_uniteWith 4 = .ok (.getfield 9, 3) := by decide +kernel
theorem dX2_uniteWith_7 : decode cX2_uniteWith 7 = .ok (.getfield 15, 3) := by decide +kernel
theorem dX2_uniteWith_10 : decode cX2_uniteWith 10 = .ok (.if_icmp .ge 26, 3) := by decide +kernel
theorem dX2_uniteWith_13 : decode cX2_uniteWith 13 = .ok (.aload_n 0, 1) := by decide +kernel
theorem dX2_uniteWith_14 : decode cX2_uniteWith 14 = .ok (.getfield 28, 3) := by decide +kernel
theorem dX2_uniteWith_17 : decode cX2_uniteWith 17 = .ok (.iload_n 3, 1) := by decide +kernel
theorem dX2_uniteWith_18 : decode cX2_uniteWith 18 = .ok (.iaload, 1) := by decide +kernel
theorem dX2_uniteWith_19 : decode cX2_uniteWith 19 = .ok (.iload_n 2, 1) := by decide +kernel
theorem dX2_uniteWith_20 : decode cX2_uniteWith 20 = .ok (.if_icmp .ne 10, 3) := by decide +kernel
theorem dX2_uniteWith_23 : decode cX2_uniteWith 23 = .ok (.aload_n 0, 1) := by decide +kernel
theorem dX2_uniteWith_24 : decode cX2_uniteWith 24 = .ok (.getfield 28, 3) := by decide +kernel
theorem dX2_uniteWith_27 : decode cX2_uniteWith 27 = .ok (.iload_n 3, 1) := by decide +kernel
theorem dX2_uniteWith_28 : decode cX2_uniteWith 28 = .ok (.iload_n 1, 1) := by decide +kernel
theorem dX2_uniteWith_29 : decode cX2_uniteWith 29 = .ok (.iastore, 1) := by decide +kernel
theorem dX2_uniteWith_30 : decode cX2_uniteWith 30 = .ok (.iinc 3 1, 3) := by decide +kernel
theorem dX2_uniteWith_33 : decode cX2_uniteWith 33 = .ok (.goto (-31), 3) := by decide +kernel
theorem dX2_uniteWith_36 : decode cX2_uniteWith 36 = .ok (.return_, 1) := by decide +kernel
set_option maxRecDepth 20000 in
theorem ggX2_cheapestFromPlace0_X2_price : GoodIn wsX2_cheapestFromPlace0 wsX2_price := goodIn_r _ [6, 7, 1, 8, 9, 10, 11, 12, 13, 14, 15, 16, 17] (by decide +kernel) (by decide +kernel)
set_option maxRecDepth 20000 in
theorem gX2_cheapestFromPlace0_X2_price : GoodIn wsX2_cheapestFromPlace0 (wsV RX2 74 RX2 yX2_price wsX2_price) := goodIn_app (goodIn_of _ (by decide +kernel)) ggX2_cheapestFromPlace0_X2_price
theorem dX2_cheapestFromPlace0_0 : decode cX2_cheapestFromPlace0 0 = .ok (.iconst (-1), 1) := by decide +kernel
theorem dX2_cheapestFromPlace0_1 : decode cX2_cheapestFromPlace0 1 = .ok (.istore_n 2, 1) := by decide +kernel
theorem dX2_cheapestFromPlace0_2 : decode cX2_cheapestFromPlace0 2 = .ok (.iconst 1, 1) := by decide +kernel
theorem dX2_cheapestFromPlace0_3 : decode cX2_cheapestFromPlace0 3 = .ok (.istore_n 3, 1) := by decide +kernel
theorem dX2_cheapestFromPlace0_4 : decode cX2_cheapestFromPlace0 4 = .ok (.iload_n 3, 1) := by decide +kernel
theorem dX2_cheapestFromPlace0_5 : decode cX2_cheapestFromPlace0 5 = .ok (.aload_n 0, 1) := by decide +kernel
theorem dX2_cheapestFromPlace0_6 : decode cX2_cheapestFromPlace0 6 = .ok (.getfield 9, 3) := by decide +kernel
theorem dX2_cheapestFromPlace0_9 : decode cX2_cheapestFromPlace0 9 = .ok (.getfield 15, 3) := by decide +kernel
theorem dX2_cheapestFromPlace0_12 : decode cX2_cheapestFromPlace0 12 = .ok (.if_icmp .ge 52, 3) := by decide +kernel
theorem dX2_cheapestFromPlace0_15 : decode cX2_cheapestFromPlace0 15 = .ok (.iload_n 3, 1) := by decide +kernel
theorem dX2_cheapestFromPlace0_16 : decode cX2_cheapestFromPlace0 16 = .ok (.iload_n 1, 1) := by decide +kernel
theorem dX2_cheapestFromPlace0_17 : decode cX2_cheapestFromPlace0 17 = .ok (.if_icmp .eq 41, 3) := by decide +kernel
theorem dX2_cheapestFromPlace0_20 : decode cX2_cheapestFromPlace0 20 = .ok (.aload_n 0, 1) := by decide +kernel
theorem dX2_cheapestFromPlace0_21 : decode cX2_cheapestFromPlace0 21 = .ok (.getfield 9, 3) := by decide +kernel
theorem dX2_cheapestFromPlace0_24 : decode cX2_cheapestFromPlace0 24 = .ok (.getfield 70, 3) := by decide +kernel
theorem dX2_cheapestFromPlace0_27 : decode cX2_cheapestFromPlace0 27 = .ok (.iconst 0, 1) := by decide +kernel
theorem dX2_cheapestFromPlace0_28 : decode cX2_cheapestFromPlace0 28 = .ok (.aaload, 1) := by decide +kernel
theorem dX2_cheapestFromPlace0_29 : decode cX2_cheapestFromPlace0 29 = .ok (.iload_n 3, 1) := by decide +kernel
theorem dX2_cheapestFromPlace0_30 : decode cX2_cheapestFromPlace0 30 = .ok (.iaload, 1) := by decide +kernel
theorem dX2_cheapestFromPlace0_31 : decode cX2_cheapestFromPlace0 31 = .ok (.iconst (-1), 1) := by decide +kernel
theorem dX2_cheapestFromPlace0_32 : decode cX2_cheapestFromPlace0 32 = .ok (.if_icmp .eq 26, 3) := by decide +kernel
theorem dX2_cheapestFromPlace0_35 : decode cX2_cheapestFromPlace0 35 = .ok (.iload_n 2, 1) := by decide +kernel
theorem dX2_cheapestFromPlace0_36 : decode cX2_cheapestFromPlace0 36 = .ok (.iconst (-1), 1) := by decide +kernel
theorem dX2_cheapestFromPlace0_37 : decode cX2_cheapestFromPlace0 37 = .ok (.if_icmp .eq 19, 3) := by decide +kernel
theorem dX2_cheapestFromPlace0_40 : decode cX2_cheapestFromPlace0 40 = .ok (.aload_n 0, 1) := by decide +kernel
theorem dX2_cheapestFromPlace0_41 : decode cX2_cheapestFromPlace0 41 = .ok (.iconst 0, 1) := by decide +kernel
theorem dX2_cheapestFromPlace0_42 : decode cX2_cheapestFromPlace0 42 = .ok (.iload_n 3, 1) := by decide +kernel
theorem dX2_cheapestFromPlace0_43 : decode cX2_cheapestFromPlace0 43 = .ok (.invokevirtual 74, 3) := by decide +kernel
theorem dX2_cheapestFromPlace0_46 : decode cX2_cheapestFromPlace0 46 = .ok (.aload_n 0, 1) := by decide +kernel
theorem dX2_cheapestFromPlace0_47 : decode cX2_cheapestFromPlace0 47 = .ok (.iconst 0, 1) := by decide +kernel
theorem dX2_cheapestFromPlace0_48 : decode cX2_cheapestFromPlace0 48 = .ok (.iload_n 2, 1) := by decide +kernel
theorem dX2_cheapestFromPlace0_49 : decode cX2_cheapestFromPlace0 49 = .ok (.invokevirtual 74, 3) := by decide +kernel
theorem dX2_cheapestFromPlace0_52 : decode cX2_cheapestFromPlace0 52 = .ok (.lcmp, 1) := by decide +kernel
theorem dX2_cheapestFromPlace0_53 : decode cX2_cheapestFromPlace0 53 = .ok (.ifCond .ge 5, 3) := by decide +kernel
theorem dX2_cheapestFromPlace0_56 : decode cX2_cheapestFromPlace0 56 = .ok (.iload_n 3, 1) := by decide +kernel
theorem dX2_cheapestFromPlace0_57 : decode cX2_cheapestFromPlace0 57 = .ok (.istore_n 2, 1) := by decide +kernel
theorem dX2_cheapestFromPlace0_58 : decode cX2_cheapestFromPlace0 58 = .ok (.iinc 3 1, 3) := by decide +kernel
theorem dX2_cheapestFromPlace0_61 : decode cX2_cheapestFromPlace0 61 = .ok (.goto (-57), 3) := by decide +kernel
theorem dX2_cheapestFromPlace0_64 : decode cX2_cheapestFromPlace0 64 = .ok (.iload_n 2, 1) := by decide +kernel
theorem dX2_cheapestFromPlace0_65 : decode cX2_cheapestFromPlace0 65 = .ok (.ireturn, 1) := by decide +kernel
set_option maxRecDepth 20000 in
theorem ggX2_take_X2_price : GoodIn wsX2_take wsX2_price := goodIn_r _ [7, 8, 9, 10, 11, 12, 13, 14, 15, 16, 17, 18, 19] (by decide +kernel) (by decide +kernel)
set_option maxRecDepth 20000 in
theorem gX2_take_X2_price : GoodIn wsX2_take (wsV RX2 74 RX2 yX2_price wsX2_price) := goodIn_app (goodIn_of _ (by decide +kernel)) ggX2_take_X2_price
theorem dX2_take_0 : decode cX2_take 0 = .ok (.aload_n 0, 1) := by decide +kernel
theorem dX2_take_1 : decode cX2_take 1 = .ok (.dup, 1) := by decide +kernel
theorem dX2_take_2 : decode cX2_take 2 = .ok (.getfield 31, 3) := by decide +kernel
theorem dX2_take_5 : decode cX2_take 5 = .ok (.aload_n 0, 1) := by decide +kernel
theorem dX2_take_6 : decode cX2_take 6 = .ok (.iload_n 1, 1) := by decide +kernel
theorem dX2_take_7 : decode cX2_take 7 = .ok (.iload_n 2, 1) := by decide +kernel
theorem dX2_take_8 : decode cX2_take 8 = .ok (.invokevirtual 74, 3) := by decide +kernel
theorem dX2_take_11 : decode cX2_take 11 = .ok (.ladd, 1) := by decide +kernel
theorem dX2_take_12 : decode cX2_take 12 = .ok (.putfield 31, 3) := by decide +kernel
theorem dX2_take_15 : decode cX2_take 15 = .ok (.aload_n 0, 1) := by decide +kernel
theorem dX2_take_16 : decode cX2_take 16 = .ok (.getfield 25, 3) := by decide +kernel
theorem dX2_take_19 : decode cX2_take 19 = .ok (.iload_n 1, 1) := by decide +kernel
theorem dX2_take_20 : decode cX2_take 20 = .ok (.dup2, 1) := by decide +kernel
theorem dX2_take_21 : decode cX2_take 21 = .ok (.iaload, 1) := by decide +kernel
theorem dX2_take_22 : decode cX2_take 22 = .ok (.iconst 1, 1) := by decide +kernel
theorem dX2_take_23 : decode cX2_take 23 = .ok (.iadd, 1) := by decide +kernel
theorem dX2_take_24 : decode cX2_take 24 = .ok (.iastore, 1) := by decide +kernel
theorem dX2_take_25 : decode cX2_take 25 = .ok (.aload_n 0, 1) := by decide +kernel
theorem dX2_take_26 : decode cX2_take 26 = .ok (.getfield 25, 3) := by decide +kernel
theorem dX2_take_29 : decode cX2_take 29 = .ok (.iload_n 2, 1) := by decide +kernel
theorem dX2_take_30 : decode cX2_take 30 = .ok (.dup2, 1) := by decide +kernel
theorem dX2_take_31 : decode cX2_take 31 = .ok (.iaload, 1) := by decide +kernel
theorem dX2_take_32 : decode cX2_take 32 = .ok (.iconst 1, 1) := by decide +kernel
theorem dX2_take_33 : decode cX2_take 33 = .ok (.iadd, 1) := by decide +kernel
theorem dX2_take_34 : decode cX2_take 34 = .ok (.iastore, 1) := by decide +kernel
theorem dX2_take_35 : decode cX2_take 35 = .ok (.return_, 1) := by decide +kernel
theorem dX2_price_0 : decode cX2_price 0 = .ok (.ldc2_w 58, 3) := by decide +kernel
theorem dX2_price_3 : decode cX2_price 3 = .ok (.aload_n 0, 1) := by decide +kernel
theorem dX2_price_4 : decode cX2_price 4 = .ok (.getfield 9, 3) := by decide +kernel
theorem dX2_price_7 : decode cX2_price 7 = .ok (.getfield 70, 3) := by decide +kernel
theorem dX2_price_10 : decode cX2_price 10 = .ok (.iload_n 1, 1) := by decide +kernel
theorem dX2_price_11 : decode cX2_price 11 = .ok (.aaload, 1) := by decide +kernel
theorem dX2_price_12 : decode cX2_price 12 = .ok (.iload_n 2, 1) := by decide +kernel
theorem dX2_price_13 : decode cX2_price 13 = .ok (.iaload, 1) := by decide +kernel
theorem dX2_price_14 : decode cX2_price 14 = .ok (.i2l, 1) := by decide +kernel
theorem dX2_price_15 : decode cX2_price 15 = .ok (.lmul, 1) := by decide +kernel
theorem dX2_price_16 : decode cX2_price 16 = .ok (.aload_n 0, 1) := by decide +kernel
theorem dX2_price_17 : decode cX2_price 17 = .ok (.getfield 21, 3) := by decide +kernel
theorem dX2_price_20 : decode cX2_price 20 = .ok (.iload_n 1, 1) := by decide +kernel
theorem dX2_price_21 : decode cX2_price 21 = .ok (.iaload, 1) := by decide +kernel
theorem dX2_price_22 : decode cX2_price 22 = .ok (.i2l, 1) := by decide +kernel
theorem dX2_price_23 : decode cX2_price 23 = .ok (.ladd, 1) := by decide +kernel
theorem dX2_price_24 : decode cX2_price 24 = .ok (.aload_n 0, 1) := by decide +kernel
theorem dX2_price_25 : decode cX2_price 25 = .ok (.getfield 21, 3) := by decide +kernel
theorem dX2_price_28 : decode cX2_price 28 = .ok (.iload_n 2, 1) := by decide +kernel
theorem dX2_price_29 : decode cX2_price 29 = .ok (.iaload, 1) := by decide +kernel
theorem dX2_price_30 : decode cX2_price 30 = .ok (.i2l, 1) := by decide +kernel
theorem dX2_price_31 : decode cX2_price 31 = .ok (.ladd, 1) := by decide +kernel
theorem dX2_price_32 : decode cX2_price 32 = .ok (.lreturn, 1) := by decide +kernel
set_option maxRecDepth 20000 in
theorem ggX3_init_J7_fill_53178 : GoodIn wsX3_init wsJ7_fill_53178 := goodIn_r _ [12] (by decide +kernel) (by decide +kernel)
set_option maxRecDepth 20000 in
theorem gX3_init_J7_fill_53178 : GoodIn wsX3_init (va_wsS RX3 23 yJ7_fill_53178 wsJ7_fill_53178) := goodIn_app (goodIn_of _ (by decide +kernel)) ggX3_init_J7_fill_53178
theorem dX3_init_0 : decode cX3_init 0 = .ok (.aload_n 0, 1) := by decide +kernel
theorem dX3_init_1 : decode cX3_init 1 = .ok (.invokespecial 3, 3) := by decide +kernel
theorem dX3_init_4 : decode cX3_init 4 = .ok (.aload_n 0, 1) := by decide +kernel
theorem dX3_init_5 : decode cX3_init 5 = .ok (.iload_n 1, 1) := by decide +kernel
theorem dX3_init_6 : decode cX3_init 6 = .ok (.putfield 9, 3) := by decide +kernel
theorem dX3_init_9 : decode cX3_init 9 = .ok (.aload_n 0, 1) := by decide +kernel
theorem dX3_init_10 : decode cX3_init 10 = .ok (.iload_n 1, 1) := by decide +kernel
theorem dX3_init_11 : decode cX3_init 11 = .ok (.iload_n 1, 1) := by decide +kernel
theorem dX3_init_12 : decode cX3_init 12 = .ok (.multianewarray 15 2, 4) := by decide +kernel
theorem dX3_init_16 : decode cX3_init 16 = .ok (.putfield 17, 3) := by decide +kernel
theorem dX3_init_19 : decode cX3_init 19 = .ok (.aload_n 0, 1) := by decide +kernel
theorem dX3_init_20 : decode cX3_init 20 = .ok (.iload_n 1, 1) := by decide +kernel
theorem dX3_init_21 : decode cX3_init 21 = .ok (.iload_n 1, 1) := by decide +kernel
theorem dX3_init_22 : decode cX3_init 22 = .ok (.multianewarray 15 2, 4) := by decide +kernel
theorem dX3_init_26 : decode cX3_init 26 = .ok (.putfield 20, 3) := by decide +kernel
theorem dX3_init_29 : decode cX3_init 29 = .ok (.iconst 0, 1) := by decide +kernel
theorem dX3_init_30 : decode cX3_init 30 = .ok (.istore_n 2, 1) := by decide +kernel
theorem dX3_init_31 : decode cX3_init 31 = .ok (.iload_n 2, 1) := by decide +kernel
theorem dX3_init_32 : decode cX3_init 32 = .ok (.iload_n 1, 1) := by decide +kernel
theorem dX3_init_33 : decode cX3_init 33 = .ok (.if_icmp .ge 29, 3) := by decide +kernel
theorem dX3_init_36 : decode cX3_init 36 = .ok (.aload_n 0, 1) := by decide +kernel
theorem dX3_init_37 : decode cX3_init 37 = .ok (.getfield 17, 3) := by decide +kernel
theorem dX3_init_40 : decode cX3_init 40 = .ok (.iload_n 2, 1) := by decide +kernel
theorem dX3_init_41 : decode cX3_init 41 = .ok (.aaload, 1) := by decide +kernel
theorem dX3_init_42 : decode cX3_init 42 = .ok (.iconst (-1), 1) := by decide +kernel
theorem dX3_init_43 : decode cX3_init 43 = .ok (.invokestatic 23, 3) := by decide +kernel
theorem dX3_init_46 : decode cX3_init 46 = .ok (.aload_n 0, 1) := by decide +kernel
theorem dX3_init_47 : decode cX3_init 47 = .ok (.getfield 20, 3) := by decide +kernel
theorem dX3_init_50 : decode cX3_init 50 = .ok (.iload_n 2, 1) := by decide +kernel
theorem dX3_init_51 : decode cX3_init 51 = .ok (.aaload, 1) := by decide +kernel
theorem dX3_init_52 : decode cX3_init 52 = .ok (.iconst (-1), 1) := by decide +kernel
theorem dX3_init_53 : decode cX3_init 53 = .ok (.invokestatic 23, 3) := by decide +kernel
theorem dX3_init_56 : decode cX3_init 56 = .ok (.iinc 2 1, 3) := by decide +kernel
theorem dX3_init_59 : decode cX3_init 59 = .ok (.goto (-28), 3) := by decide +kernel
theorem dX3_init_62 : decode cX3_init 62 = .ok (.return_, 1) := by decide +kernel
theorem dX3_has_0 : decode cX3_has 0 = .ok (.iload_n 1, 1) := by decide +kernel
theorem dX3_has_1 : decode cX3_has 1 = .ok (.ifCond .lt 15, 3) := by decide +kernel
theorem dX3_has_4 : decode cX3_has 4 = .ok (.iload_n 1, 1) := by decide +kernel
theorem dX3_has_5 : decode cX3_has 5 = .ok (.aload_n 0, 1) := by decide +kernel
theorem dX3_has_6 : decode cX3_has 6 = .ok (.getfield 9, 3) := by decide +kernel
theorem dX3_has_9 : decode cX3_has 9 = .ok (.if_icmp .ge 7, 3) := by decide +kernel
theorem dX3_has_12 : decode cX3_has 12 = .ok (.iconst 1, 1) := by decide +kernel
theorem dX3_has_13 : decode cX3_has 13 = .ok (.goto 4, 3) := by decide +kernel
theorem dX3_has_16 : decode cX3_has 16 = .ok (.iconst 0, 1) := by decide +kernel
theorem dX3_has_17 : decode cX3_has 17 = .ok (.ireturn, 1) := by decide +kernel
set_option maxRecDepth 20000 in
theorem ggX3_tell_X3_shorter : GoodIn wsX3_tell wsX3_shorter := goodIn_r _ [6, 7, 8, 9, 10, 11, 12, 13] (by decide +kernel) (by decide +kernel)
set_option maxRecDepth 20000 in
theorem gX3_tell_X3_shorter : GoodIn wsX3_tell (va_wsS RX3 29 yX3_shorter wsX3_shorter) := goodIn_app (goodIn_of _ (by decide +kernel)) ggX3_tell_X3_shorter
theorem dX3_tell_0 : decode cX3_tell 0 = .ok (.aload_n 0, 1) := by decide +kernel
theorem dX3_tell_1 : decode cX3_tell 1 = .ok (.getfield 17, 3) := by decide +kernel
theorem dX3_tell_4 : decode cX3_tell 4 = .ok (.iload_n 1, 1) := by decide +kernel
theorem dX3_tell_5 : decode cX3_tell 5 = .ok (.aaload, 1) := by decide +kernel
theorem dX3_tell_6 : decode cX3_tell 6 = .ok (.iload_n 2, 1) := by decide +kernel
theorem dX3_tell_7 : decode cX3_tell 7 = .ok (.iload_n 3, 1) := by decide +kernel
theorem dX3_tell_8 : decode cX3_tell 8 = .ok (.iastore, 1) := by decide +kernel
theorem dX3_tell_9 : decode cX3_tell 9 = .ok (.iload_n 3, 1) := by decide +kernel
theorem dX3_tell_10 : decode cX3_tell 10 = .ok (.aload_n 0, 1) := by decide +kernel
theorem dX3_tell_11 : decode cX3_tell 11 = .ok (.getfield 17, 3) := by decide +kernel
theorem dX3_tell_14 : decode cX3_tell 14 = .ok (.iload_n 2, 1) := by decide +kernel
theorem dX3_tell_15 : decode cX3_tell 15 = .ok (.aaload, 1) := by decide +kernel
theorem dX3_tell_16 : decode cX3_tell 16 = .ok (.iload_n 1, 1) := by decide +kernel
theorem dX3_tell_17 : decode cX3_tell 17 = .ok (.iaload, 1) := by decide +kernel
theorem dX3_tell_18 : decode cX3_tell 18 = .ok (.invokestatic 29, 3) := by decide +kernel
theorem dX3_tell_21 : decode cX3_tell 21 = .ok (.istore 4, 2) := by decide +kernel
theorem dX3_tell_23 : decode cX3_tell 23 = .ok (.aload_n 0, 1) := by decide +kernel
theorem dX3_tell_24 : decode cX3_tell 24 = .ok (.getfield 20, 3) := by decide +kernel
theorem dX3_tell_27 : decode cX3_tell 27 = .ok (.iload_n 1, 1) := by decide +kernel
theorem dX3_tell_28 : decode cX3_tell 28 = .ok (.aaload, 1) := by decide +kernel
theorem dX3_tell_29 : decode cX3_tell 29 = .ok (.iload_n 2, 1) := by decide +kernel
theorem dX3_tell_30 : decode cX3_tell 30 = .ok (.iload 4, 2) := by decide +kernel
theorem dX3_tell_32 : decode cX3_tell 32 = .ok (.iastore, 1) := by decide +kernel
theorem dX3_tell_33 : decode cX3_tell 33 = .ok (.aload_n 0, 1) := by decide +kernel
theorem dX3_tell_34 : decode cX3_tell 34 = .ok (.getfield 20, 3) := by decide +kernel
theorem dX3_tell_37 : decode cX3_tell 37 = .ok (.iload_n 2, 1) := by decide +kernel
theorem dX3_tell_38 : decode cX3_tell 38 = .ok (.aaload, 1) := by decide +kernel
theorem dX3_tell_39 : decode cX3_tell 39 = .ok (.iload_n 1, 1) := by decide +kernel
theorem dX3_tell_40 : decode cX3_tell 40 = .ok (.iload 4, 2) := by decide +kernel
theorem dX3_tell_42 : decode cX3_tell 42 = .ok (.iastore, 1) := by decide +kernel
theorem dX3_tell_43 : decode cX3_tell 43 = .ok (.return_, 1) := by decide +kernel
theorem dX3_shorter_0 : decode cX3_shorter 0 = .ok (.iload_n 0, 1) := by decide +kernel
theorem dX3_shorter_1 : decode cX3_shorter 1 = .ok (.iconst (-1), 1) := by decide +kernel
theorem dX3_shorter_2 : decode cX3_shorter 2 = .ok (.if_icmp .eq 8, 3) := by decide +kernel
theorem dX3_shorter_5 : decode cX3_shorter 5 = .ok (.iload_n 1, 1) := by decide +kernel
theorem dX3_shorter_6 : decode cX3_shorter 6 = .ok (.iconst (-1), 1) := by decide +kernel
theorem dX3_shorter_7 : decode cX3_shorter 7 = .ok (.if_icmp .ne 9, 3) := by decide +kernel
theorem dX3_shorter_10 : decode cX3_shorter 10 = .ok (.iload_n 0, 1) := by decide +kernel
theorem dX3_shorter_11 : decode cX3_shorter 11 = .ok (.iload_n 1, 1) := by decide +kernel
theorem dX3_shorter_12 : decode cX3_shorter 12 = .ok (.invokestatic 33, 3) := by decide +kernel
theorem dX3_shorter_15 : decode cX3_shorter 15 = .ok (.ireturn, 1) := by decide +kernel
theorem dX3_shorter_16 : decode cX3_shorter 16 = .ok (.iload_n 0, 1) := by decide +kernel
theorem dX3_shorter_17 : decode cX3_shorter 17 = .ok (.iload_n 1, 1) := by decide +kernel
theorem dX3_shorter_18 : decode cX3_shorter 18 = .ok (.invokestatic 38, 3) := by decide +kernel
theorem dX3_shorter_21 : decode cX3_shorter 21 = .ok (.ireturn, 1) := by decide +kernel
set_option maxRecDepth 20000 in
theorem ggX3_streetsHangTogether_X3_placesWithStreets : GoodIn wsX3_streetsHangTogether wsX3_placesWithStreets := goodIn_r _ [6, 7, 1, 16, 17, 18] (by decide +kernel) (by decide +kernel)
set_option maxRecDepth 20000 in
theorem gX3_streetsHangTogether_X3_placesWithStreets : GoodIn wsX3_streetsHangTogether (wsV RX3 41 RX3 yX3_placesWithStreets wsX3_placesWithStreets) := goodIn_app (goodIn_of _ (by decide +kernel)) ggX3_streetsHangTogether_X3_placesWithStreets
set_option maxRecDepth 20000 in
theorem ggX3_streetsHangTogether_X3_reached : GoodIn wsX3_streetsHangTogether wsX3_reached := goodIn_r _ [11, 7, 12, 13, 14, 5, 15, 16, 17, 18] (by decide +kernel) (by decide +kernel)
set_option maxRecDepth 20000 in
theorem gX3_streetsHangTogether_X3_reached : GoodIn wsX3_streetsHangTogether (wsV RX3 45 RX3 yX3_reached wsX3_reached) := goodIn_app (goodIn_of _ (by decide +kernel)) ggX3_streetsHangTogether_X3_reached
theorem dX3_streetsHangTogether_0 : decode cX3_streetsHangTogether 0 = .ok (.aload_n 0, 1) := by decide +kernel
theorem dX3_streetsHangTogether_1 : decode cX3_streetsHangTogether 1 = .ok (.invokevirtual 41, 3) := by decide +kernel
theorem dX3_streetsHangTogether_4 : decode cX3_streetsHangTogether 4 = .ok (.istore_n 1, 1) := by decide +kernel
theorem dX3_streetsHangTogether_5 : decode cX3_streetsHangTogether 5 = .ok (.aload_n 0, 1) := by decide +kernel
theorem dX3_streetsHangTogether_6 : decode cX3_streetsHangTogether 6 = .ok (.aload_n 0, 1) := by decide +kernel
theorem dX3_streetsHangTogether_7 : decode cX3_streetsHangTogether 7 = .ok (.getfield 20, 3) := by decide +kernel
theorem dX3_streetsHangTogether_10 : decode cX3_streetsHangTogether 10 = .ok (.iload_n 1, 1) := by decide +kernel
theorem dX3_streetsHangTogether_11 : decode cX3_streetsHangTogether 11 = .ok (.iconst 0, 1) := by decide +kernel
theorem dX3_streetsHangTogether_12 : decode cX3_streetsHangTogether 12 = .ok (.invokevirtual 45, 3) := by decide +kernel
theorem dX3_streetsHangTogether_15 : decode cX3_streetsHangTogether 15 = .ok (.iload_n 1, 1) := by decide +kernel
theorem dX3_streetsHangTogether_16 : decode cX3_streetsHangTogether 16 = .ok (.iand, 1) := by decide +kernel
theorem dX3_streetsHangTogether_17 : decode cX3_streetsHangTogether 17 = .ok (.iload_n 1, 1) := by decide +kernel
theorem dX3_streetsHangTogether_18 : decode cX3_streetsHangTogether 18 = .ok (.if_icmp .ne 7, 3) := by decide +kernel
theorem dX3_streetsHangTogether_21 : decode cX3_streetsHangTogether 21 = .ok (.iconst 1, 1) := by decide +kernel
theorem dX3_streetsHangTogether_22 : decode cX3_streetsHangTogether 22 = .ok (.goto 4, 3) := by decide +kernel
theorem dX3_streetsHangTogether_25 : decode cX3_streetsHangTogether 25 = .ok (.iconst 0, 1) := by decide +kernel
theorem dX3_streetsHangTogether_26 : decode cX3_streetsHangTogether 26 = .ok (.ireturn, 1) := by decide +kernel
set_option maxRecDepth 20000 in
theorem ggX3_waysLeadFromEachToEach_X3_placesWithStreets : GoodIn wsX3_waysLeadFromEachToEach wsX3_placesWithStreets := goodIn_r _ [6, 7, 8, 17, 18, 19] (by decide +kernel) (by decide +kernel)
set_option maxRecDepth 20000 in
theorem gX3_waysLeadFromEachToEach_X3_placesWithStreets : GoodIn wsX3_waysLeadFromEachToEach (wsV RX3 41 RX3 yX3_placesWithStreets wsX3_placesWithStreets) := goodIn_app (goodIn_of _ (by decide +kernel)) ggX3_waysLeadFromEachToEach_X3_placesWithStreets
set_option maxRecDepth 20000 in
theorem ggX3_waysLeadFromEachToEach_X3_reached : GoodIn wsX3_waysLeadFromEachToEach wsX3_reached := goodIn_r _ [12, 7, 13, 14, 15, 5, 16, 17, 18, 19] (by decide +kernel) (by decide +kernel)
set_option maxRecDepth 20000 in
theorem gX3_waysLeadFromEachToEach_X3_reached : GoodIn wsX3_waysLeadFromEachToEach (wsV RX3 45 RX3 yX3_reached wsX3_reached) := goodIn_app (goodIn_of _ (by decide +kernel)) ggX3_waysLeadFromEachToEach_X3_reached
theorem dX3_waysLeadFromEachToEach_0 : decode cX3_waysLeadFromEachToEach 0 = .ok (.aload_n 0, 1) := by decide +kernel
theorem dX3_waysLeadFromEachToEach_1 : decode cX3_waysLeadFromEachToEach 1 = .ok (.invokevirtual 41, 3) := by decide +kernel
theorem dX3_waysLeadFromEachToEach_4 : decode cX3_waysLeadFromEachToEach 4 = .ok (.istore_n 1, 1) := by decide +kernel
theorem dX3_waysLeadFromEachToEach_5 : decode cX3_waysLeadFromEachToEach 5 = .ok (.aload_n 0, 1) := by decide +kernel
theorem dX3_waysLeadFromEachToEach_6 : decode cX3_waysLeadFromEachToEach 6 = .ok (.aload_n 0, 1) := by decide +kernel
theorem dX3_waysLeadFromEachToEach_7 : decode cX3_waysLeadFromEachToEach 7 = .ok (.getfield 17, 3) := by decide +kernel
theorem dX3_waysLeadFromEachToEach_10 : decode cX3_waysLeadFromEachToEach 10 = .ok (.iload_n 1, 1) := by decide +kernel
theorem dX3_waysLeadFromEachToEach_11 : decode cX3_waysLeadFromEachToEach 11 = .ok (.iconst 0, 1) := by decide +kernel
theorem dX3_waysLeadFromEachToEach_12 : decode cX3_waysLeadFromEachToEach 12 = .ok (.invokevirtual 45, 3) := by decide +kernel
theorem dX3_waysLeadFromEachToEach_15 : decode cX3_waysLeadFromEachToEach 15 = .ok (.aload_n 0, 1) := by decide +kernel
theorem dX3_waysLeadFromEachToEach_16 : decode cX3_waysLeadFromEachToEach 16 = .ok (.aload_n 0, 1) := by decide +kernel
theorem dX3_waysLeadFromEachToEach_17 : decode cX3_waysLeadFromEachToEach 17 = .ok (.getfield 17, 3) := by decide +kernel
theorem dX3_waysLeadFromEachToEach_20 : decode cX3_waysLeadFromEachToEach 20 = .ok (.iload_n 1, 1) := by decide +kernel
theorem dX3_waysLeadFromEachToEach_21 : decode cX3_waysLeadFromEachToEach 21 = .ok (.iconst 1, 1) := by decide +kernel
theorem dX3_waysLeadFromEachToEach_22 : decode cX3_waysLeadFromEachToEach 22 = .ok (.invokevirtual 45, 3) := by decide +kernel
theorem dX3_waysLeadFromEachToEach_25 : decode cX3_waysLeadFromEachToEach 25 = .ok (.iand, 1) := by decide +kernel
theorem dX3_waysLeadFromEachToEach_26 : decode cX3_waysLeadFromEachToEach 26 = .ok (.iload_n 1, 1) := by decide +kernel
theorem dX3_waysLeadFromEachToEach_27 : decode cX3_waysLeadFromEachToEach 27 = .ok (.iand, 1) := by decide +kernel
theorem dX3_waysLeadFromEachToEach_28 : decode cX3_waysLeadFromEachToEach 28 = .ok (.iload_n 1, 1) := by decide +kernel
theorem dX3_waysLeadFromEachToEach_29 : decode cX3_waysLeadFromEachToEach 29 = .ok (.if_icmp .ne 7, 3) := by decide +kernel
theorem dX3_waysLeadFromEachToEach_32 : decode cX3_waysLeadFromEachToEach 32 = .ok (.iconst 1, 1) := by decide +kernel
theorem dX3_waysLeadFromEachToEach_33 : decode cX3_waysLeadFromEachToEach 33 = .ok (.goto 4, 3) := by decide +kernel
theorem dX3_waysLeadFromEachToEach_36 : decode cX3_waysLeadFromEachToEach 36 = .ok (.iconst 0, 1) := by decide +kernel
theorem dX3_waysLeadFromEachToEach_37 : decode cX3_waysLeadFromEachToEach 37 = .ok (.ireturn, 1) := by decide +kernel
theorem dX3_placesWithStreets_0 : decode cX3_placesWithStreets 0 = .ok (.iconst 0, 1) := by decide +kernel
theorem dX3_placesWithStreets_1 : decode cX3_placesWithStreets 1 = .ok (.istore_n 1, 1) := by decide +kernel
theorem dX3_placesWithStreets_2 : decode cX3_placesWithStreets 2 = .ok (.iconst 0, 1) := by decide +kernel
theorem dX3_placesWithStreets_3 : decode cX3_placesWithStreets 3 = .ok (.istore_n 2, 1) := by decide +kernel
theorem dX3_placesWithStreets_4 : decode cX3_placesWithStreets 4 = .ok (.iload_n 2, 1) := by decide +kernel
theorem dX3_placesWithStreets_5 : decode cX3_placesWithStreets 5 = .ok (.aload_n 0, 1) := by decide +kernel
theorem dX3_placesWithStreets_6 : decode cX3_placesWithStreets 6 = .ok (.getfield 9, 3) := by decide +kernel
theorem dX3_placesWithStreets_9 : decode cX3_placesWithStreets 9 = .ok (.if_icmp .ge 43, 3) := by decide +kernel
theorem dX3_placesWithStreets_12 : decode cX3_placesWithStreets 12 = .ok (.iconst 0, 1) := by decide +kernel
theorem dX3_placesWithStreets_13 : decode cX3_placesWithStreets 13 = .ok (.istore_n 3, 1) := by decide +kernel
theorem dX3_placesWithStreets_14 : decode cX3_placesWithStreets 14 = .ok (.iload_n 3, 1) := by decide +kernel
theorem dX3_placesWithStreets_15 : decode cX3_placesWithStreets 15 = .ok (.aload_n 0, 1) := by decide +kernel
theorem dX3_placesWithStreets_16 : decode cX3_placesWithStreets 16 = .ok (.getfield 9, 3) := by decide +kernel
theorem dX3_placesWithStreets_19 : decode cX3_placesWithStreets 19 = .ok (.if_icmp .ge 27, 3) := by decide +kernel
theorem dX3_placesWithStreets_22 : decode cX3_placesWithStreets 22 = .ok (.aload_n 0, 1) := by decide +kernel
theorem dX3_placesWithStreets_23 : decode cX3_placesWithStreets 23 = .ok (.getfield 20, 3) := by decide +kernel
theorem dX3_placesWithStreets_26 : decode cX3_placesWithStreets 26 = .ok (.iload_n 2, 1) := by decide +kernel
theorem dX3_placesWithStreets_27 : decode cX3_placesWithStreets 27 = .ok (.aaload, 1) := by decide +kernel
theorem dX3_placesWithStreets_28 : decode cX3_placesWithStreets 28 = .ok (.iload_n 3, 1) := by decide +kernel
theorem dX3_placesWithStreets_29 : decode cX3_placesWithStreets 29 = .ok (.iaload, 1) := by decide +kernel
theorem dX3_placesWithStreets_30 : decode cX3_placesWithStreets 30 = .ok (.iconst (-1), 1) := by decide +kernel
theorem dX3_placesWithStreets_31 : decode cX3_placesWithStreets 31 = .ok (.if_icmp .eq 9, 3) := by decide +kernel
theorem dX3_placesWithStreets_34 : decode cX3_placesWithStreets 34 = .ok (.iload_n 1, 1) := by decide +kernel
theorem dX3_placesWithStreets_35 : decode cX3_placesWithStreets 35 = .ok (.iconst 1, 1) := by decide +kernel
theorem dX3_placesWithStreets_36 : decode cX3_placesWithStreets 36 = .ok (.iload_n 2, 1) := by decide +kernel
theorem dX3_placesWithStreets_37 : decode cX3_placesWithStreets 37 = .ok (.ishl, 1) := by decide +kernel
theorem dX3_placesWithStreets_38 : decode cX3_placesWithStreets 38 = .ok (.ior, 1) := by decide +kernel
theorem dX3_placesWithStreets_39 : decode cX3_placesWithStreets 39 = .ok (.istore_n 1, 1) := by decide +kernel
theorem dX3_placesWithStreets_40 : decode cX3_placesWithStreets 40 = .ok (.iinc 3 1, 3) := by decide +kernel
theorem dX3_placesWithStreets_43 : decode cX3_placesWithStreets 43 = .ok (.goto (-29), 3) := by decide +kernel
theorem dX3_placesWithStreets_46 : decode cX3_placesWithStreets 46 = .ok (.iinc 2 1, 3) := by decide +kernel
theorem dX3_placesWithStreets_49 : decode cX3_placesWithStreets 49 = .ok (.goto (-45), 3) := by decide +kernel
theorem dX3_placesWithStreets_52 : decode cX3_placesWithStreets 52 = .ok (.iload_n 1, 1) := by decide +kernel
theorem dX3_placesWithStreets_53 : decode cX3_placesWithStreets 53 = .ok (.ireturn, 1) := by decide +kernel
set_option maxRecDepth 20000 in
theorem ggX3_reached_X3_spread : GoodIn wsX3_reached wsX3_spread := goodIn_r _ [6, 1, 7, 8, 9] (by decide +kernel) (by decide +kernel)
set_option maxRecDepth 20000 in
theorem gX3_reached_X3_spread : GoodIn wsX3_reached (wsV RX3 49 RX3 yX3_spread wsX3_spread) := goodIn_app (goodIn_of _ (by decide +kernel)) ggX3_reached_X3_spread
theorem dX3_reached_0 : decode cX3_reached 0 = .ok (.iload_n 2, 1) := by decide +kernel
theorem dX3_reached_1 : decode cX3_reached 1 = .ok (.iload_n 2, 1) := by decide +kernel
theorem dX3_reached_2 : decode cX3_reached 2 = .ok (.ineg, 1) := by decide +kernel
theorem dX3_reached_3 : decode cX3_reached 3 = .ok (.iand, 1) := by decide +kernel
theorem dX3_reached_4 : decode cX3_reached 4 = .ok (.istore 4, 2) := by decide +kernel
theorem dX3_reached_6 : decode cX3_reached 6 = .ok (.iconst 1, 1) := by decide +kernel
theorem dX3_reached_7 : decode cX3_reached 7 = .ok (.istore 5, 2) := by decide +kernel
theorem dX3_reached_9 : decode cX3_reached 9 = .ok (.iload 5, 2) := by decide +kernel
theorem dX3_reached_11 : decode cX3_reached 11 = .ok (.aload_n 0, 1) := by decide +kernel
theorem dX3_reached_12 : decode cX3_reached 12 = .ok (.getfield 9, 3) := by decide +kernel
theorem dX3_reached_15 : decode cX3_reached 15 = .ok (.if_icmp .ge 19, 3) := by decide +kernel
theorem dX3_reached_18 : decode cX3_reached 18 = .ok (.aload_n 0, 1) := by decide +kernel
theorem dX3_reached_19 : decode cX3_reached 19 = .ok (.aload_n 1, 1) := by decide +kernel
theorem dX3_reached_20 : decode cX3_reached 20 = .ok (.iload 4, 2) := by decide +kernel
theorem dX3_reached_22 : decode cX3_reached 22 = .ok (.iload_n 3, 1) := by decide +kernel
theorem dX3_reached_23 : decode cX3_reached 23 = .ok (.invokevirtual 49, 3) := by decide +kernel
theorem dX3_reached_26 : decode cX3_reached 26 = .ok (.istore 4, 2) := by decide +kernel
theorem dX3_reached_28 : decode cX3_reached 28 = .ok (.iinc 5 1, 3) := by decide +kernel
theorem dX3_reached_31 : decode cX3_reached 31 = .ok (.goto (-22), 3) := by decide +kernel
theorem dX3_reached_34 : decode cX3_reached 34 = .ok (.iload 4, 2) := by decide +kernel
theorem dX3_reached_36 : decode cX3_reached 36 = .ok (.ireturn, 1) := by decide +kernel
theorem dX3_spread_0 : decode cX3_spread 0 = .ok (.iload_n 2, 1) := by decide +kernel
theorem dX3_spread_1 : decode cX3_spread 1 = .ok (.istore 4, 2) := by decide +kernel
theorem dX3_spread_3 : decode cX3_spread 3 = .ok (.iconst 0, 1) := by decide +kernel
theorem dX3_spread_4 : decode cX3_spread 4 = .ok (.istore 5, 2) := by decide +kernel
theorem dX3_spread_6 : decode cX3_spread 6 = .ok (.iload 5, 2) := by decide +kernel
theorem dX3_spread_8 : decode cX3_spread 8 = .ok (.aload_n 0, 1) := by decide +kernel
theorem dX3_spread_9 : decode cX3_spread 9 = .ok (.getfield 9, 3) := by decide +kernel
theorem dX3_spread_12 : decode cX3_spread 12 = .ok (.if_icmp .ge 83, 3) := by decide +kernel
theorem dX3_spread_15 : decode cX3_spread 15 = .ok (.iconst 0, 1) := by decide +kernel
theorem dX3_spread_16 : decode cX3_spread 16 = .ok (.istore 6, 2) := by decide +kernel
theorem dX3_spread_18 : decode cX3_spread 18 = .ok (.iload 6, 2) := by decide +kernel
theorem dX3_spread_20 : decode cX3_spread 20 = .ok (.aload_n 0, 1) := by decide +kernel
theorem dX3_spread_21 : decode cX3_spread 21 = .ok (.getfield 9, 3) := by decide +kernel
theorem dX3_spread_24 : decode cX3_spread 24 = .ok (.if_icmp .ge 65, 3) := by decide +kernel
theorem dX3_spread_27 : decode cX3_spread 27 = .ok (.iload_n 3, 1) := by decide +kernel
theorem dX3_spread_28 : decode cX3_spread 28 = .ok (.ifCond .eq 8, 3) := by decide +kernel
theorem dX3_spread_31 : decode cX3_spread 31 = .ok (.iload 6, 2) := by decide +kernel
theorem dX3_spread_33 : decode cX3_spread 33 = .ok (.goto 5, 3) := by decide +kernel
theorem dX3_spread_36 : decode cX3_spread 36 = .ok (.iload 5, 2) := by decide +kernel
