theorem dX3_spread_38 : decode cX3_spread 38 = .ok (.istore 7, 2) := by decide +kernel
theorem dX3_spread_40 : decode cX3_spread 40 = .ok (.iload_n 3, 1) := by decide +kernel
theorem dX3_spread_41 : decode cX3_spread 41 = .ok (.ifCond .eq 8, 3) := by decide +kernel
theorem dX3_spread_44 : decode cX3_spread 44 = .ok (.iload 5, 2) := by decide +kernel
theorem dX3_spread_46 : decode cX3_spread 46 = .ok (.goto 5, 3) := by decide +kernel
theorem dX3_spread_49 : decode cX3_spread 49 = .ok (.iload 6, 2) := by decide +kernel
theorem dX3_spread_51 : decode cX3_spread 51 = .ok (.istore 8, 2) := by decide +kernel
theorem dX3_spread_53 : decode cX3_spread 53 = .ok (.aload_n 1, 1) := by decide +kernel
theorem dX3_spread_54 : decode cX3_spread 54 = .ok (.iload 5, 2) := by decide +kernel
theorem dX3_spread_56 : decode cX3_spread 56 = .ok (.aaload, 1) := by decide +kernel
theorem dX3_spread_57 : decode cX3_spread 57 = .ok (.iload 6, 2) := by decide +kernel
theorem dX3_spread_59 : decode cX3_spread 59 = .ok (.iaload, 1) := by decide +kernel
theorem dX3_spread_60 : decode cX3_spread 60 = .ok (.iconst (-1), 1) := by decide +kernel
theorem dX3_spread_61 : decode cX3_spread 61 = .ok (.if_icmp .eq 22, 3) := by decide +kernel
theorem dX3_spread_64 : decode cX3_spread 64 = .ok (.iload 4, 2) := by decide +kernel
theorem dX3_spread_66 : decode cX3_spread 66 = .ok (.iload 7, 2) := by decide +kernel
theorem dX3_spread_68 : decode cX3_spread 68 = .ok (.ishr, 1) := by decide +kernel
theorem dX3_spread_69 : decode cX3_spread 69 = .ok (.iconst 1, 1) := by decide +kernel
theorem dX3_spread_70 : decode cX3_spread 70 = .ok (.iand, 1) := by decide +kernel
theorem dX3_spread_71 : decode cX3_spread 71 = .ok (.ifCond .eq 12, 3) := by decide +kernel
theorem dX3_spread_74 : decode cX3_spread 74 = .ok (.iload 4, 2) := by decide +kernel
theorem dX3_spread_76 : decode cX3_spread 76 = .ok (.iconst 1, 1) := by decide +kernel
theorem dX3_spread_77 : decode cX3_spread 77 = .ok (.iload 8, 2) := by decide +kernel
theorem dX3_spread_79 : decode cX3_spread 79 = .ok (.ishl, 1) := by decide +kernel
theorem dX3_spread_80 : decode cX3_spread 80 = .ok (.ior, 1) := by decide +kernel
theorem dX3_spread_81 : decode cX3_spread 81 = .ok (.istore 4, 2) := by decide +kernel
theorem dX3_spread_83 : decode cX3_spread 83 = .ok (.iinc 6 1, 3) := by decide +kernel
theorem dX3_spread_86 : decode cX3_spread 86 = .ok (.goto (-68), 3) := by decide +kernel
theorem dX3_spread_89 : decode cX3_spread 89 = .ok (.iinc 5 1, 3) := by decide +kernel
theorem dX3_spread_92 : decode cX3_spread 92 = .ok (.goto (-86), 3) := by decide +kernel
theorem dX3_spread_95 : decode cX3_spread 95 = .ok (.iload 4, 2) := by decide +kernel
theorem dX3_spread_97 : decode cX3_spread 97 = .ok (.ireturn, 1) := by decide +kernel
theorem dX4_init_0 : decode cX4_init 0 = .ok (.aload_n 0, 1) := by decide +kernel
theorem dX4_init_1 : decode cX4_init 1 = .ok (.invokespecial 3, 3) := by decide +kernel
theorem dX4_init_4 : decode cX4_init 4 = .ok (.aload_n 0, 1) := by decide +kernel
theorem dX4_init_5 : decode cX4_init 5 = .ok (.aload_n 1, 1) := by decide +kernel
theorem dX4_init_6 : decode cX4_init 6 = .ok (.putfield 9, 3) := by decide +kernel
theorem dX4_init_9 : decode cX4_init 9 = .ok (.aload_n 0, 1) := by decide +kernel
theorem dX4_init_10 : decode cX4_init 10 = .ok (.aload_n 1, 1) := by decide +kernel
theorem dX4_init_11 : decode cX4_init 11 = .ok (.getfield 15, 3) := by decide +kernel
theorem dX4_init_14 : decode cX4_init 14 = .ok (.aload_n 1, 1) := by decide +kernel
theorem dX4_init_15 : decode cX4_init 15 = .ok (.getfield 15, 3) := by decide +kernel
theorem dX4_init_18 : decode cX4_init 18 = .ok (.multianewarray 21 2, 4) := by decide +kernel
theorem dX4_init_22 : decode cX4_init 22 = .ok (.putfield 23, 3) := by decide +kernel
theorem dX4_init_25 : decode cX4_init 25 = .ok (.aload_n 0, 1) := by decide +kernel
theorem dX4_init_26 : decode cX4_init 26 = .ok (.aload_n 1, 1) := by decide +kernel
theorem dX4_init_27 : decode cX4_init 27 = .ok (.getfield 15, 3) := by decide +kernel
theorem dX4_init_30 : decode cX4_init 30 = .ok (.newarray .int, 2) := by decide +kernel
theorem dX4_init_32 : decode cX4_init 32 = .ok (.putfield 26, 3) := by decide +kernel
theorem dX4_init_35 : decode cX4_init 35 = .ok (.aload_n 0, 1) := by decide +kernel
theorem dX4_init_36 : decode cX4_init 36 = .ok (.iconst 0, 1) := by decide +kernel
theorem dX4_init_37 : decode cX4_init 37 = .ok (.putfield 30, 3) := by decide +kernel
theorem dX4_init_40 : decode cX4_init 40 = .ok (.aload_n 0, 1) := by decide +kernel
theorem dX4_init_41 : decode cX4_init 41 = .ok (.iconst 1, 1) := by decide +kernel
theorem dX4_init_42 : decode cX4_init 42 = .ok (.aload_n 1, 1) := by decide +kernel
theorem dX4_init_43 : decode cX4_init 43 = .ok (.getfield 15, 3) := by decide +kernel
theorem dX4_init_46 : decode cX4_init 46 = .ok (.iconst 1, 1) := by decide +kernel
theorem dX4_init_47 : decode cX4_init 47 = .ok (.isub, 1) := by decide +kernel
theorem dX4_init_48 : decode cX4_init 48 = .ok (.ishl, 1) := by decide +kernel
theorem dX4_init_49 : decode cX4_init 49 = .ok (.newarray .int, 2) := by decide +kernel
theorem dX4_init_51 : decode cX4_init 51 = .ok (.putfield 33, 3) := by decide +kernel
theorem dX4_init_54 : decode cX4_init 54 = .ok (.aload_n 0, 1) := by decide +kernel
theorem dX4_init_55 : decode cX4_init 55 = .ok (.aload_n 1, 1) := by decide +kernel
theorem dX4_init_56 : decode cX4_init 56 = .ok (.getfield 15, 3) := by decide +kernel
theorem dX4_init_59 : decode cX4_init 59 = .ok (.newarray .int, 2) := by decide +kernel
theorem dX4_init_61 : decode cX4_init 61 = .ok (.putfield 36, 3) := by decide +kernel
theorem dX4_init_64 : decode cX4_init 64 = .ok (.aload_n 0, 1) := by decide +kernel
theorem dX4_init_65 : decode cX4_init 65 = .ok (.iconst 0, 1) := by decide +kernel
theorem dX4_init_66 : decode cX4_init 66 = .ok (.putfield 39, 3) := by decide +kernel
theorem dX4_init_69 : decode cX4_init 69 = .ok (.return_, 1) := by decide +kernel
theorem dX4_member_0 : decode cX4_member 0 = .ok (.iload_n 1, 1) := by decide +kernel
theorem dX4_member_1 : decode cX4_member 1 = .ok (.ifCond .lt 20, 3) := by decide +kernel
theorem dX4_member_4 : decode cX4_member 4 = .ok (.iload_n 1, 1) := by decide +kernel
theorem dX4_member_5 : decode cX4_member 5 = .ok (.aload_n 0, 1) := by decide +kernel
theorem dX4_member_6 : decode cX4_member 6 = .ok (.getfield 39, 3) := by decide +kernel
theorem dX4_member_9 : decode cX4_member 9 = .ok (.if_icmp .ge 12, 3) := by decide +kernel
theorem dX4_member_12 : decode cX4_member 12 = .ok (.iload_n 2, 1) := by decide +kernel
theorem dX4_member_13 : decode cX4_member 13 = .ok (.ifCond .lt 8, 3) := by decide +kernel
theorem dX4_member_16 : decode cX4_member 16 = .ok (.iload_n 2, 1) := by decide +kernel
theorem dX4_member_17 : decode cX4_member 17 = .ok (.iconst 1, 1) := by decide +kernel
theorem dX4_member_18 : decode cX4_member 18 = .ok (.if_icmp .le 5, 3) := by decide +kernel
theorem dX4_member_21 : decode cX4_member 21 = .ok (.iconst (-1), 1) := by decide +kernel
theorem dX4_member_22 : decode cX4_member 22 = .ok (.ireturn, 1) := by decide +kernel
theorem dX4_member_23 : decode cX4_member 23 = .ok (.aload_n 0, 1) := by decide +kernel
theorem dX4_member_24 : decode cX4_member 24 = .ok (.getfield 36, 3) := by decide +kernel
theorem dX4_member_27 : decode cX4_member 27 = .ok (.iconst 2, 1) := by decide +kernel
theorem dX4_member_28 : decode cX4_member 28 = .ok (.iload_n 1, 1) := by decide +kernel
theorem dX4_member_29 : decode cX4_member 29 = .ok (.imul, 1) := by decide +kernel
theorem dX4_member_30 : decode cX4_member 30 = .ok (.iload_n 2, 1) := by decide +kernel
theorem dX4_member_31 : decode cX4_member 31 = .ok (.iadd, 1) := by decide +kernel
theorem dX4_member_32 : decode cX4_member 32 = .ok (.iaload, 1) := by decide +kernel
theorem dX4_member_33 : decode cX4_member 33 = .ok (.ireturn, 1) := by decide +kernel
set_option maxRecDepth 20000 in
theorem ggX4_leastWay_X3_streetsHangTogether : GoodIn wsX4_leastWay wsX3_streetsHangTogether := goodIn_r _ [8, 9, 10, 11, 12, 7, 13, 14, 15, 16, 17, 18, 19, 20, 21, 22, 94, 95, 96] (by decide +kernel) (by decide +kernel)
set_option maxRecDepth 20000 in
theorem gX4_leastWay_X3_streetsHangTogether : GoodIn wsX4_leastWay (wsV RX4 42 RX3 yX3_streetsHangTogether wsX3_streetsHangTogether) := goodIn_app (goodIn_of _ (by decide +kernel)) ggX4_leastWay_X3_streetsHangTogether
set_option maxRecDepth 20000 in
theorem ggX4_leastWay_X4_sumOfStreets : GoodIn wsX4_leastWay wsX4_sumOfStreets := goodIn_r _ [27, 1, 28, 29, 30, 31, 87, 88, 89, 90, 91, 92, 93, 94, 95, 96] (by decide +kernel) (by decide +kernel)
set_option maxRecDepth 20000 in
theorem gX4_leastWay_X4_sumOfStreets : GoodIn wsX4_leastWay (wsV RX4 48 RX4 yX4_sumOfStreets wsX4_sumOfStreets) := goodIn_app (goodIn_of _ (by decide +kernel)) ggX4_leastWay_X4_sumOfStreets
set_option maxRecDepth 20000 in
theorem ggX4_leastWay_X4_findOddPlaces : GoodIn wsX4_leastWay wsX4_findOddPlaces := goodIn_r _ [35, 36, 1, 37, 87, 88, 89, 90, 91, 92, 93, 94, 95, 96] (by decide +kernel) (by decide +kernel)
set_option maxRecDepth 20000 in
theorem gX4_leastWay_X4_findOddPlaces : GoodIn wsX4_leastWay (wsV RX4 52 RX4 yX4_findOddPlaces wsX4_findOddPlaces) := goodIn_app (goodIn_of _ (by decide +kernel)) ggX4_leastWay_X4_findOddPlaces
set_option maxRecDepth 20000 in
theorem ggX4_leastWay_X4_findShortest : GoodIn wsX4_leastWay wsX4_findShortest := goodIn_r _ [41, 1, 42, 43, 44, 45, 30, 46, 87, 88, 89, 90, 91, 92, 93, 94, 95, 96] (by decide +kernel) (by decide +kernel)
set_option maxRecDepth 20000 in
theorem gX4_leastWay_X4_findShortest : GoodIn wsX4_leastWay (wsV RX4 55 RX4 yX4_findShortest wsX4_findShortest) := goodIn_app (goodIn_of _ (by decide +kernel)) ggX4_leastWay_X4_findShortest
set_option maxRecDepth 20000 in
theorem ggX4_leastWay_X4_findLeastSums : GoodIn wsX4_leastWay wsX4_findLeastSums := goodIn_r _ [50, 3, 51, 52, 53, 26, 54, 36, 55, 56, 57, 58, 59, 60, 61, 62, 63, 64, 65, 66, 67, 68, 69, 70, 71, 72, 73, 74, 75, 76, 77, 42, 37, 78, 79, 80, 87, 88, 89, 90, 91, 92, 93] (by decide +kernel) (by decide +kernel)
set_option maxRecDepth 20000 in
theorem gX4_leastWay_X4_findLeastSums : GoodIn wsX4_leastWay (wsV RX4 58 RX4 yX4_findLeastSums wsX4_findLeastSums) := goodIn_app (goodIn_of _ (by decide +kernel)) ggX4_leastWay_X4_findLeastSums
set_option maxRecDepth 20000 in
theorem ggX4_leastWay_X4_keepPairs : GoodIn wsX4_leastWay wsX4_keepPairs := goodIn_r _ [84, 85, 36, 86, 37, 51, 52, 53, 26, 54, 67, 68, 69, 70, 71, 57, 72, 73, 62, 63, 64, 65, 66, 74, 75, 76, 77, 42, 3, 78, 79, 80, 87, 88, 89, 90, 91, 92, 93] (by decide +kernel) (by decide +kernel)
set_option maxRecDepth 20000 in
theorem gX4_leastWay_X4_keepPairs : GoodIn wsX4_leastWay (wsV RX4 61 RX4 yX4_keepPairs wsX4_keepPairs) := goodIn_app (goodIn_of _ (by decide +kernel)) ggX4_leastWay_X4_keepPairs
set_option maxRecDepth 20000 in
theorem ggX4_leastWay_X4_everyOdd : GoodIn wsX4_leastWay wsX4_everyOdd := goodIn_r _ [54, 36, 87, 88, 89, 90, 91, 92, 93] (by decide +kernel) (by decide +kernel)
set_option maxRecDepth 20000 in
theorem gX4_leastWay_X4_everyOdd : GoodIn wsX4_leastWay (wsV RX4 64 RX4 yX4_everyOdd wsX4_everyOdd) := goodIn_app (goodIn_of _ (by decide +kernel)) ggX4_leastWay_X4_everyOdd
theorem dX4_leastWay_0 : decode cX4_leastWay 0 = .ok (.aload_n 0, 1) := by decide +kernel
theorem dX4_leastWay_1 : decode cX4_leastWay 1 = .ok (.getfield 9, 3) := by decide +kernel
theorem dX4_leastWay_4 : decode cX4_leastWay 4 = .ok (.invokevirtual 42, 3) := by decide +kernel
theorem dX4_leastWay_7 : decode cX4_leastWay 7 = .ok (.ifCond .ne 7, 3) := by decide +kernel
theorem dX4_leastWay_10 : decode cX4_leastWay 10 = .ok (.ldc2_w 46, 3) := by decide +kernel
theorem dX4_leastWay_13 : decode cX4_leastWay 13 = .ok (.lreturn, 1) := by decide +kernel
theorem dX4_leastWay_14 : decode cX4_leastWay 14 = .ok (.aload_n 0, 1) := by decide +kernel
theorem dX4_leastWay_15 : decode cX4_leastWay 15 = .ok (.invokevirtual 48, 3) := by decide +kernel
theorem dX4_leastWay_18 : decode cX4_leastWay 18 = .ok (.lstore_n 1, 1) := by decide +kernel
theorem dX4_leastWay_19 : decode cX4_leastWay 19 = .ok (.aload_n 0, 1) := by decide +kernel
theorem dX4_leastWay_20 : decode cX4_leastWay 20 = .ok (.invokevirtual 52, 3) := by decide +kernel
theorem dX4_leastWay_23 : decode cX4_leastWay 23 = .ok (.aload_n 0, 1) := by decide +kernel
theorem dX4_leastWay_24 : decode cX4_leastWay 24 = .ok (.invokevirtual 55, 3) := by decide +kernel
theorem dX4_leastWay_27 : decode cX4_leastWay 27 = .ok (.aload_n 0, 1) := by decide +kernel
theorem dX4_leastWay_28 : decode cX4_leastWay 28 = .ok (.invokevirtual 58, 3) := by decide +kernel
theorem dX4_leastWay_31 : decode cX4_leastWay 31 = .ok (.aload_n 0, 1) := by decide +kernel
theorem dX4_leastWay_32 : decode cX4_leastWay 32 = .ok (.invokevirtual 61, 3) := by decide +kernel
theorem dX4_leastWay_35 : decode cX4_leastWay 35 = .ok (.lload_n 1, 1) := by decide +kernel
theorem dX4_leastWay_36 : decode cX4_leastWay 36 = .ok (.aload_n 0, 1) := by decide +kernel
theorem dX4_leastWay_37 : decode cX4_leastWay 37 = .ok (.getfield 33, 3) := by decide +kernel
theorem dX4_leastWay_40 : decode cX4_leastWay 40 = .ok (.aload_n 0, 1) := by decide +kernel
theorem dX4_leastWay_41 : decode cX4_leastWay 41 = .ok (.invokevirtual 64, 3) := by decide +kernel
theorem dX4_leastWay_44 : decode cX4_leastWay 44 = .ok (.iconst 1, 1) := by decide +kernel
theorem dX4_leastWay_45 : decode cX4_leastWay 45 = .ok (.ishr, 1) := by decide +kernel
theorem dX4_leastWay_46 : decode cX4_leastWay 46 = .ok (.iaload, 1) := by decide +kernel
theorem dX4_leastWay_47 : decode cX4_leastWay 47 = .ok (.i2l, 1) := by decide +kernel
theorem dX4_leastWay_48 : decode cX4_leastWay 48 = .ok (.ladd, 1) := by decide +kernel
theorem dX4_leastWay_49 : decode cX4_leastWay 49 = .ok (.lreturn, 1) := by decide +kernel
theorem dX4_sumOfStreets_0 : decode cX4_sumOfStreets 0 = .ok (.lconst 0, 1) := by decide +kernel
theorem dX4_sumOfStreets_1 : decode cX4_sumOfStreets 1 = .ok (.lstore_n 1, 1) := by decide +kernel
theorem dX4_sumOfStreets_2 : decode cX4_sumOfStreets 2 = .ok (.iconst 0, 1) := by decide +kernel
theorem dX4_sumOfStreets_3 : decode cX4_sumOfStreets 3 = .ok (.istore_n 3, 1) := by decide +kernel
theorem dX4_sumOfStreets_4 : decode cX4_sumOfStreets 4 = .ok (.iload_n 3, 1) := by decide +kernel
theorem dX4_sumOfStreets_5 : decode cX4_sumOfStreets 5 = .ok (.aload_n 0, 1) := by decide +kernel
theorem dX4_sumOfStreets_6 : decode cX4_sumOfStreets 6 = .ok (.getfield 9, 3) := by decide +kernel
theorem dX4_sumOfStreets_9 : decode cX4_sumOfStreets 9 = .ok (.getfield 15, 3) := by decide +kernel
theorem dX4_sumOfStreets_12 : decode cX4_sumOfStreets 12 = .ok (.if_icmp .ge 52, 3) := by decide +kernel
theorem dX4_sumOfStreets_15 : decode cX4_sumOfStreets 15 = .ok (.iload_n 3, 1) := by decide +kernel
theorem dX4_sumOfStreets_16 : decode cX4_sumOfStreets 16 = .ok (.iconst 1, 1) := by decide +kernel
theorem dX4_sumOfStreets_17 : decode cX4_sumOfStreets 17 = .ok (.iadd, 1) := by decide +kernel
theorem dX4_sumOfStreets_18 : decode cX4_sumOfStreets 18 = .ok (.istore 4, 2) := by decide +kernel
theorem dX4_sumOfStreets_20 : decode cX4_sumOfStreets 20 = .ok (.iload 4, 2) := by decide +kernel
theorem dX4_sumOfStreets_22 : decode cX4_sumOfStreets 22 = .ok (.aload_n 0, 1) := by decide +kernel
theorem dX4_sumOfStreets_23 : decode cX4_sumOfStreets 23 = .ok (.getfield 9, 3) := by decide +kernel
theorem dX4_sumOfStreets_26 : decode cX4_sumOfStreets 26 = .ok (.getfield 15, 3) := by decide +kernel
theorem dX4_sumOfStreets_29 : decode cX4_sumOfStreets 29 = .ok (.if_icmp .ge 29, 3) := by decide +kernel
theorem dX4_sumOfStreets_32 : decode cX4_sumOfStreets 32 = .ok (.lload_n 1, 1) := by decide +kernel
theorem dX4_sumOfStreets_33 : decode cX4_sumOfStreets 33 = .ok (.iconst 0, 1) := by decide +kernel
theorem dX4_sumOfStreets_34 : decode cX4_sumOfStreets 34 = .ok (.aload_n 0, 1) := by decide +kernel
theorem dX4_sumOfStreets_35 : decode cX4_sumOfStreets 35 = .ok (.getfield 9, 3) := by decide +kernel
theorem dX4_sumOfStreets_38 : decode cX4_sumOfStreets 38 = .ok (.getfield 68, 3) := by decide +kernel
theorem dX4_sumOfStreets_41 : decode cX4_sumOfStreets 41 = .ok (.iload_n 3, 1) := by decide +kernel
theorem dX4_sumOfStreets_42 : decode cX4_sumOfStreets 42 = .ok (.aaload, 1) := by decide +kernel
theorem dX4_sumOfStreets_43 : decode cX4_sumOfStreets 43 = .ok (.iload 4, 2) := by decide +kernel
theorem dX4_sumOfStreets_45 : decode cX4_sumOfStreets 45 = .ok (.iaload, 1) := by decide +kernel
theorem dX4_sumOfStreets_46 : decode cX4_sumOfStreets 46 = .ok (.invokestatic 71, 3) := by decide +kernel
theorem dX4_sumOfStreets_49 : decode cX4_sumOfStreets 49 = .ok (.i2l, 1) := by decide +kernel
theorem dX4_sumOfStreets_50 : decode cX4_sumOfStreets 50 = .ok (.ladd, 1) := by decide +kernel
theorem dX4_sumOfStreets_51 : decode cX4_sumOfStreets 51 = .ok (.lstore_n 1, 1) := by decide +kernel
theorem dX4_sumOfStreets_52 : decode cX4_sumOfStreets 52 = .ok (.iinc 4 1, 3) := by decide +kernel
theorem dX4_sumOfStreets_55 : decode cX4_sumOfStreets 55 = .ok (.goto (-35), 3) := by decide +kernel
theorem dX4_sumOfStreets_58 : decode cX4_sumOfStreets 58 = .ok (.iinc 3 1, 3) := by decide +kernel
theorem dX4_sumOfStreets_61 : decode cX4_sumOfStreets 61 = .ok (.goto (-57), 3) := by decide +kernel
theorem dX4_sumOfStreets_64 : decode cX4_sumOfStreets 64 = .ok (.lload_n 1, 1) := by decide +kernel
theorem dX4_sumOfStreets_65 : decode cX4_sumOfStreets 65 = .ok (.lreturn, 1) := by decide +kernel
theorem dX4_findOddPlaces_0 : decode cX4_findOddPlaces 0 = .ok (.aload_n 0, 1) := by decide +kernel
theorem dX4_findOddPlaces_1 : decode cX4_findOddPlaces 1 = .ok (.iconst 0, 1) := by decide +kernel
theorem dX4_findOddPlaces_2 : decode cX4_findOddPlaces 2 = .ok (.putfield 30, 3) := by decide +kernel
theorem dX4_findOddPlaces_5 : decode cX4_findOddPlaces 5 = .ok (.iconst 0, 1) := by decide +kernel
theorem dX4_findOddPlaces_6 : decode cX4_findOddPlaces 6 = .ok (.istore_n 1, 1) := by decide +kernel
theorem dX4_findOddPlaces_7 : decode cX4_findOddPlaces 7 = .ok (.iload_n 1, 1) := by decide +kernel
theorem dX4_findOddPlaces_8 : decode cX4_findOddPlaces 8 = .ok (.aload_n 0, 1) := by decide +kernel
theorem dX4_findOddPlaces_9 : decode cX4_findOddPlaces 9 = .ok (.getfield 9, 3) := by decide +kernel
theorem dX4_findOddPlaces_12 : decode cX4_findOddPlaces 12 = .ok (.getfield 15, 3) := by decide +kernel
theorem dX4_findOddPlaces_15 : decode cX4_findOddPlaces 15 = .ok (.if_icmp .ge 74, 3) := by decide +kernel
theorem dX4_findOddPlaces_18 : decode cX4_findOddPlaces 18 = .ok (.iconst 0, 1) := by decide +kernel
theorem dX4_findOddPlaces_19 : decode cX4_findOddPlaces 19 = .ok (.istore_n 2, 1) := by decide +kernel
theorem dX4_findOddPlaces_20 : decode cX4_findOddPlaces 20 = .ok (.iconst 0, 1) := by decide +kernel
theorem dX4_findOddPlaces_21 : decode cX4_findOddPlaces 21 = .ok (.istore_n 3, 1) := by decide +kernel
theorem dX4_findOddPlaces_22 : decode cX4_findOddPlaces 22 = .ok (.iload_n 3, 1) := by decide +kernel
theorem dX4_findOddPlaces_23 : decode cX4_findOddPlaces 23 = .ok (.aload_n 0, 1) := by decide +kernel
theorem dX4_findOddPlaces_24 : decode cX4_findOddPlaces 24 = .ok (.getfield 9, 3) := by decide +kernel
theorem dX4_findOddPlaces_27 : decode cX4_findOddPlaces 27 = .ok (.getfield 15, 3) := by decide +kernel
theorem dX4_findOddPlaces_30 : decode cX4_findOddPlaces 30 = .ok (.if_icmp .ge 27, 3) := by decide +kernel
theorem dX4_findOddPlaces_33 : decode cX4_findOddPlaces 33 = .ok (.aload_n 0, 1) := by decide +kernel
theorem dX4_findOddPlaces_34 : decode cX4_findOddPlaces 34 = .ok (.getfield 9, 3) := by decide +kernel
theorem dX4_findOddPlaces_37 : decode cX4_findOddPlaces 37 = .ok (.getfield 68, 3) := by decide +kernel
theorem dX4_findOddPlaces_40 : decode cX4_findOddPlaces 40 = .ok (.iload_n 1, 1) := by decide +kernel
theorem dX4_findOddPlaces_41 : decode cX4_findOddPlaces 41 = .ok (.aaload, 1) := by decide +kernel
theorem dX4_findOddPlaces_42 : decode cX4_findOddPlaces 42 = .ok (.iload_n 3, 1) := by decide +kernel
theorem dX4_findOddPlaces_43 : decode cX4_findOddPlaces 43 = .ok (.iaload, 1) := by decide +kernel
theorem dX4_findOddPlaces_44 : decode cX4_findOddPlaces 44 = .ok (.iconst (-1), 1) := by decide +kernel
theorem dX4_findOddPlaces_45 : decode cX4_findOddPlaces 45 = .ok (.if_icmp .eq 6, 3) := by decide +kernel
theorem dX4_findOddPlaces_48 : decode cX4_findOddPlaces 48 = .ok (.iinc 2 1, 3) := by decide +kernel
theorem dX4_findOddPlaces_51 : decode cX4_findOddPlaces 51 = .ok (.iinc 3 1, 3) := by decide +kernel
theorem dX4_findOddPlaces_54 : decode cX4_findOddPlaces 54 = .ok (.goto (-32), 3) := by decide +kernel
theorem dX4_findOddPlaces_57 : decode cX4_findOddPlaces 57 = .ok (.iload_n 2, 1) := by decide +kernel
theorem dX4_findOddPlaces_58 : decode cX4_findOddPlaces 58 = .ok (.iconst 1, 1) := by decide +kernel
theorem dX4_findOddPlaces_59 : decode cX4_findOddPlaces 59 = .ok (.iand, 1) := by decide +kernel
theorem dX4_findOddPlaces_60 : decode cX4_findOddPlaces 60 = .ok (.ifCond .eq 23, 3) := by decide +kernel
theorem dX4_findOddPlaces_63 : decode cX4_findOddPlaces 63 = .ok (.aload_n 0, 1) := by decide +kernel
theorem dX4_findOddPlaces_64 : decode cX4_findOddPlaces 64 = .ok (.getfield 26, 3) := by decide +kernel
theorem dX4_findOddPlaces_67 : decode cX4_findOddPlaces 67 = .ok (.aload_n 0, 1) := by decide +kernel
theorem dX4_findOddPlaces_68 : decode cX4_findOddPlaces 68 = .ok (.getfield 30, 3) := by decide +kernel
theorem dX4_findOddPlaces_71 : decode cX4_findOddPlaces 71 = .ok (.iload_n 1, 1) := by decide +kernel
theorem dX4_findOddPlaces_72 : decode cX4_findOddPlaces 72 = .ok (.iastore, 1) := by decide +kernel
theorem dX4_findOddPlaces_73 : decode cX4_findOddPlaces 73 = .ok (.aload_n 0, 1) := by decide +kernel
theorem dX4_findOddPlaces_74 : decode cX4_findOddPlaces 74 = .ok (.dup, 1) := by decide +kernel
theorem dX4_findOddPlaces_75 : decode cX4_findOddPlaces 75 = .ok (.getfield 30, 3) := by decide +kernel
theorem dX4_findOddPlaces_78 : decode cX4_findOddPlaces 78 = .ok (.iconst 1, 1) := by decide +kernel
theorem dX4_findOddPlaces_79 : decode cX4_findOddPlaces 79 = .ok (.iadd, 1) := by decide +kernel
theorem dX4_findOddPlaces_80 : decode cX4_findOddPlaces 80 = .ok (.putfield 30, 3) := by decide +kernel
theorem dX4_findOddPlaces_83 : decode cX4_findOddPlaces 83 = .ok (.iinc 1 1, 3) := by decide +kernel
theorem dX4_findOddPlaces_86 : decode cX4_findOddPlaces 86 = .ok (.goto (-79), 3) := by decide +kernel
theorem dX4_findOddPlaces_89 : decode cX4_findOddPlaces 89 = .ok (.return_, 1) := by decide +kernel
theorem dX4_findShortest_0 : decode cX4_findShortest 0 = .ok (.iconst 0, 1) := by decide +kernel
theorem dX4_findShortest_1 : decode cX4_findShortest 1 = .ok (.istore_n 1, 1) := by decide +kernel
theorem dX4_findShortest_2 : decode cX4_findShortest 2 = .ok (.iload_n 1, 1) := by decide +kernel
theorem dX4_findShortest_3 : decode cX4_findShortest 3 = .ok (.aload_n 0, 1) := by decide +kernel
theorem dX4_findShortest_4 : decode cX4_findShortest 4 = .ok (.getfield 9, 3) := by decide +kernel
theorem dX4_findShortest_7 : decode cX4_findShortest 7 = .ok (.getfield 15, 3) := by decide +kernel
theorem dX4_findShortest_10 : decode cX4_findShortest 10 = .ok (.if_icmp .ge 67, 3) := by decide +kernel
theorem dX4_findShortest_13 : decode cX4_findShortest 13 = .ok (.iconst 0, 1) := by decide +kernel
theorem dX4_findShortest_14 : decode cX4_findShortest 14 = .ok (.istore_n 2, 1) := by decide +kernel
theorem dX4_findShortest_15 : decode cX4_findShortest 15 = .ok (.iload_n 2, 1) := by decide +kernel
theorem dX4_findShortest_16 : decode cX4_findShortest 16 = .ok (.aload_n 0, 1) := by decide +kernel
theorem dX4_findShortest_17 : decode cX4_findShortest 17 = .ok (.getfield 9, 3) := by decide +kernel
theorem dX4_findShortest_20 : decode cX4_findShortest 20 = .ok (.getfield 15, 3) := by decide +kernel
theorem dX4_findShortest_23 : decode cX4_findShortest 23 = .ok (.if_icmp .ge 48, 3) := by decide +kernel
theorem dX4_findShortest_26 : decode cX4_findShortest 26 = .ok (.aload_n 0, 1) := by decide +kernel
theorem dX4_findShortest_27 : decode cX4_findShortest 27 = .ok (.getfield 23, 3) := by decide +kernel
theorem dX4_findShortest_30 : decode cX4_findShortest 30 = .ok (.iload_n 1, 1) := by decide +kernel
theorem dX4_findShortest_31 : decode cX4_findShortest 31 = .ok (.aaload, 1) := by decide +kernel
theorem dX4_findShortest_32 : decode cX4_findShortest 32 = .ok (.iload_n 2, 1) := by decide +kernel
theorem dX4_findShortest_33 : decode cX4_findShortest 33 = .ok (.aload_n 0, 1) := by decide +kernel
theorem dX4_findShortest_34 : decode cX4_findShortest 34 = .ok (.getfield 9, 3) := by decide +kernel
theorem dX4_findShortest_37 : decode cX4_findShortest 37 = .ok (.getfield 68, 3) := by decide +kernel
theorem dX4_findShortest_40 : decode cX4_findShortest 40 = .ok (.iload_n 1, 1) := by decide +kernel
theorem dX4_findShortest_41 : decode cX4_findShortest 41 = .ok (.aaload, 1) := by decide +kernel
theorem dX4_findShortest_42 : decode cX4_findShortest 42 = .ok (.iload_n 2, 1) := by decide +kernel
theorem dX4_findShortest_43 : decode cX4_findShortest 43 = .ok (.iaload, 1) := by decide +kernel
theorem dX4_findShortest_44 : decode cX4_findShortest 44 = .ok (.iconst (-1), 1) := by decide +kernel
theorem dX4_findShortest_45 : decode cX4_findShortest 45 = .ok (.if_icmp .ne 8, 3) := by decide +kernel
theorem dX4_findShortest_48 : decode cX4_findShortest 48 = .ok (.ldc 77, 2) := by decide +kernel
theorem dX4_findShortest_50 : decode cX4_findShortest 50 = .ok (.goto 14, 3) := by decide +kernel
theorem dX4_findShortest_53 : decode cX4_findShortest 53 = .ok (.aload_n 0, 1) := by decide +kernel
theorem dX4_findShortest_54 : decode cX4_findShortest 54 = .ok (.getfield 9, 3) := by decide +kernel
theorem dX4_findShortest_57 : decode cX4_findShortest 57 = .ok (.getfield 68, 3) := by decide +kernel
theorem dX4_findShortest_60 : decode cX4_findShortest 60 = .ok (.iload_n 1, 1) := by decide +kernel
theorem dX4_findShortest_61 : decode cX4_findShortest 61 = .ok (.aaload, 1) := by decide +kernel
theorem dX4_findShortest_62 : decode cX4_findShortest 62 = .ok (.iload_n 2, 1) := by decide +kernel
theorem dX4_findShortest_63 : decode cX4_findShortest 63 = .ok (.iaload, 1) := by decide +kernel
theorem dX4_findShortest_64 : decode cX4_findShortest 64 = .ok (.iastore, 1) := by decide +kernel
theorem dX4_findShortest_65 : decode cX4_findShortest 65 = .ok (.iinc 2 1, 3) := by decide +kernel
theorem dX4_findShortest_68 : decode cX4_findShortest 68 = .ok (.goto (-53), 3) := by decide +kernel
theorem dX4_findShortest_71 : decode cX4_findShortest 71 = .ok (.iinc 1 1, 3) := by decide +kernel
theorem dX4_findShortest_74 : decode cX4_findShortest 74 = .ok (.goto (-72), 3) := by decide +kernel
theorem dX4_findShortest_77 : decode cX4_findShortest 77 = .ok (.iconst 0, 1) := by decide +kernel
theorem dX4_findShortest_78 : decode cX4_findShortest 78 = .ok (.istore_n 1, 1) := by decide +kernel
theorem dX4_findShortest_79 : decode cX4_findShortest 79 = .ok (.iload_n 1, 1) := by decide +kernel
theorem dX4_findShortest_80 : decode cX4_findShortest 80 = .ok (.aload_n 0, 1) := by decide +kernel
theorem dX4_findShortest_81 : decode cX4_findShortest 81 = .ok (.getfield 9, 3) := by decide +kernel
theorem dX4_findShortest_84 : decode cX4_findShortest 84 = .ok (.getfield 15, 3) := by decide +kernel
theorem dX4_findShortest_87 : decode cX4_findShortest 87 = .ok (.if_icmp .ge 83, 3) := by decide +kernel
theorem dX4_findShortest_90 : decode cX4_findShortest 90 = .ok (.iconst 0, 1) := by decide +kernel
theorem dX4_findShortest_91 : decode cX4_findShortest 91 = .ok (.istore_n 2, 1) := by decide +kernel
theorem dX4_findShortest_92 : decode cX4_findShortest 92 = .ok (.iload_n 2, 1) := by decide +kernel
theorem dX4_findShortest_93 : decode cX4_findShortest 93 = .ok (.aload_n 0, 1) := by decide +kernel
theorem dX4_findShortest_94 : decode cX4_findShortest 94 = .ok (.getfield 9, 3) := by decide +kernel
theorem dX4_findShortest_97 : decode cX4_findShortest 97 = .ok (.getfield 15, 3) := by decide +kernel
theorem dX4_findShortest_100 : decode cX4_findShortest 100 = .ok (.if_icmp .ge 64, 3) := by decide +kernel
theorem dX4_findShortest_103 : decode cX4_findShortest 103 = .ok (.iconst 0, 1) := by decide +kernel
theorem dX4_findShortest_104 : decode cX4_findShortest 104 = .ok (.istore_n 3, 1) := by decide +kernel
theorem dX4_findShortest_105 : decode cX4_findShortest 105 = .ok (.iload_n 3, 1) := by decide +kernel
theorem dX4_findShortest_106 : decode cX4_findShortest 106 = .ok (.aload_n 0, 1) := by decide +kernel
theorem dX4_findShortest_107 : decode cX4_findShortest 107 = .ok (.getfield 9, 3) := by decide +kernel
theorem dX4_findShortest_110 : decode cX4_findShortest 110 = .ok (.getfield 15, 3) := by decide +kernel
theorem dX4_findShortest_113 : decode cX4_findShortest 113 = .ok (.if_icmp .ge 45, 3) := by decide +kernel
theorem dX4_findShortest_116 : decode cX4_findShortest 116 = .ok (.aload_n 0, 1) := by decide +kernel
theorem dX4_findShortest_117 : decode cX4_findShortest 117 = .ok (.getfield 23, 3) := by decide +kernel
theorem dX4_findShortest_120 : decode cX4_findShortest 120 = .ok (.iload_n 2, 1) := by decide +kernel
theorem dX4_findShortest_121 : decode cX4_findShortest 121 = .ok (.aaload, 1) := by decide +kernel
theorem dX4_findShortest_122 : decode cX4_findShortest 122 = .ok (.iload_n 3, 1) := by decide +kernel
theorem dX4_findShortest_123 : decode cX4_findShortest 123 = .ok (.aload_n 0, 1) := by decide +kernel
theorem dX4_findShortest_124 : decode cX4_findShortest 124 = .ok (.getfield 23, 3) := by decide +kernel
theorem dX4_findShortest_127 : decode cX4_findShortest 127 = .ok (.iload_n 2, 1) := by decide +kernel
theorem dX4_findShortest_128 : decode cX4_findShortest 128 = .ok (.aaload, 1) := by decide +kernel
theorem dX4_findShortest_129 : decode cX4_findShortest 129 = .ok (.iload_n 3, 1) := by decide +kernel
theorem dX4_findShortest_130 : decode cX4_findShortest 130 = .ok (.iaload, 1) := by decide +kernel
theorem dX4_findShortest_131 : decode cX4_findShortest 131 = .ok (.aload_n 0, 1) := by decide +kernel
theorem dX4_findShortest_132 : decode cX4_findShortest 132 = .ok (.getfield 23, 3) := by decide +kernel
theorem dX4_findShortest_135 : decode cX4_findShortest 135 = .ok (.iload_n 2, 1) := by decide +kernel
theorem dX4_findShortest_136 : decode cX4_findShortest 136 = .ok (.aaload, 1) := by decide +kernel
theorem dX4_findShortest_137 : decode cX4_findShortest 137 = .ok (.iload_n 1, 1) := by decide +kernel
theorem dX4_findShortest_138 : decode cX4_findShortest 138 = .ok (.iaload, 1) := by decide +kernel
theorem dX4_findShortest_139 : decode cX4_findShortest 139 = .ok (.aload_n 0, 1) := by decide +kernel
theorem dX4_findShortest_140 : decode cX4_findShortest 140 = .ok (.getfield 23, 3) := by decide +kernel
theorem dX4_findShortest_143 : decode cX4_findShortest 143 = .ok (.iload_n 1, 1) := by decide +kernel
theorem dX4_findShortest_144 : decode cX4_findShortest 144 = .ok (.aaload, 1) := by decide +kernel
theorem dX4_findShortest_145 : decode cX4_findShortest 145 = .ok (.iload_n 3, 1) := by decide +kernel
theorem dX4_findShortest_146 : decode cX4_findShortest 146 = .ok (.iaload, 1) := by decide +kernel
theorem dX4_findShortest_147 : decode cX4_findShortest 147 = .ok (.iadd, 1) := by decide +kernel
theorem dX4_findShortest_148 : decode cX4_findShortest 148 = .ok (.invokestatic 78, 3) := by decide +kernel
theorem dX4_findShortest_151 : decode cX4_findShortest 151 = .ok (.iastore, 1) := by decide +kernel
theorem dX4_findShortest_152 : decode cX4_findShortest 152 = .ok (.iinc 3 1, 3) := by decide +kernel
theorem dX4_findShortest_155 : decode cX4_findShortest 155 = .ok (.goto (-50), 3) := by decide +kernel
theorem dX4_findShortest_158 : decode cX4_findShortest 158 = .ok (.iinc 2 1, 3) := by decide +kernel
theorem dX4_findShortest_161 : decode cX4_findShortest 161 = .ok (.goto (-69), 3) := by decide +kernel
theorem dX4_findShortest_164 : decode cX4_findShortest 164 = .ok (.iinc 1 1, 3) := by decide +kernel
theorem dX4_findShortest_167 : decode cX4_findShortest 167 = .ok (.goto (-88), 3) := by decide +kernel
theorem dX4_findShortest_170 : decode cX4_findShortest 170 = .ok (.return_, 1) := by decide +kernel
theorem dX4_everyOdd_0 : decode cX4_everyOdd 0 = .ok (.iconst 1, 1) := by decide +kernel
theorem dX4_everyOdd_1 : decode cX4_everyOdd 1 = .ok (.aload_n 0, 1) := by decide +kernel
theorem dX4_everyOdd_2 : decode cX4_everyOdd 2 = .ok (.getfield 30, 3) := by decide +kernel
theorem dX4_everyOdd_5 : decode cX4_everyOdd 5 = .ok (.ishl, 1) := by decide +kernel
theorem dX4_everyOdd_6 : decode cX4_everyOdd 6 = .ok (.iconst 1, 1) := by decide +kernel
theorem dX4_everyOdd_7 : decode cX4_everyOdd 7 = .ok (.isub, 1) := by decide +kernel
theorem dX4_everyOdd_8 : decode cX4_everyOdd 8 = .ok (.ireturn, 1) := by decide +kernel
set_option maxRecDepth 20000 in
theorem ggX4_findLeastSums_X4_everyOdd : GoodIn wsX4_findLeastSums wsX4_everyOdd := goodIn_r _ [6, 7, 36, 37, 38, 39, 40, 41, 42] (by decide +kernel) (by decide +kernel)
set_option maxRecDepth 20000 in
theorem gX4_findLeastSums_X4_everyOdd : GoodIn wsX4_findLeastSums (wsV RX4 64 RX4 yX4_everyOdd wsX4_everyOdd) := goodIn_app (goodIn_of _ (by decide +kernel)) ggX4_findLeastSums_X4_everyOdd
set_option maxRecDepth 20000 in
theorem ggX4_findLeastSums_J6_bitCount_0f7a4 : GoodIn wsX4_findLeastSums wsJ6_bitCount_0f7a4 := goodIn_r _ [11, 12, 13, 14] (by decide +kernel) (by decide +kernel)
set_option maxRecDepth 20000 in
theorem gX4_findLeastSums_J6_bitCount_0f7a4 : GoodIn wsX4_findLeastSums (va_wsS RX4 81 yJ6_bitCount_0f7a4 wsJ6_bitCount_0f7a4) := goodIn_app (goodIn_of _ (by decide +kernel)) ggX4_findLeastSums_J6_bitCount_0f7a4
set_option maxRecDepth 20000 in
theorem ggX4_findLeastSums_X4_bestPartner : GoodIn wsX4_findLeastSums wsX4_bestPartner := goodIn_r _ [18, 19, 7, 20, 21, 5, 22, 23, 24, 10, 25, 26, 27, 28, 29, 30, 31, 32, 1, 33, 34, 35, 36, 37, 38, 39, 40, 41, 42] (by decide +kernel) (by decide +kernel)
set_option maxRecDepth 20000 in
theorem gX4_findLeastSums_X4_bestPartner : GoodIn wsX4_findLeastSums (wsV RX4 87 RX4 yX4_bestPartner wsX4_bestPartner) := goodIn_app (goodIn_of _ (by decide +kernel)) ggX4_findLeastSums_X4_bestPartner
set_option maxRecDepth 20000 in
theorem ggX4_findLeastSums_X4_sumWith : GoodIn wsX4_findLeastSums wsX4_sumWith := goodIn_r _ [30, 7, 31, 32, 1, 20, 21, 5, 22, 23, 24, 10, 25, 26, 33, 34, 35, 36, 37, 38, 39, 40, 41, 42] (by decide +kernel) (by decide +kernel)
set_option maxRecDepth 20000 in
theorem gX4_findLeastSums_X4_sumWith : GoodIn wsX4_findLeastSums (wsV RX4 90 RX4 yX4_sumWith wsX4_sumWith) := goodIn_app (goodIn_of _ (by decide +kernel)) ggX4_findLeastSums_X4_sumWith
theorem dX4_findLeastSums_0 : decode cX4_findLeastSums 0 = .ok (.aload_n 0, 1) := by decide +kernel
theorem dX4_findLeastSums_1 : decode cX4_findLeastSums 1 = .ok (.getfield 33, 3) := by decide +kernel
theorem dX4_findLeastSums_4 : decode cX4_findLeastSums 4 = .ok (.iconst 0, 1) := by decide +kernel
theorem dX4_findLeastSums_5 : decode cX4_findLeastSums 5 = .ok (.iconst 0, 1) := by decide +kernel
theorem dX4_findLeastSums_6 : decode cX4_findLeastSums 6 = .ok (.iastore, 1) := by decide +kernel
theorem dX4_findLeastSums_7 : decode cX4_findLeastSums 7 = .ok (.iconst 1, 1) := by decide +kernel
theorem dX4_findLeastSums_8 : decode cX4_findLeastSums 8 = .ok (.istore_n 1, 1) := by decide +kernel
theorem dX4_findLeastSums_9 : decode cX4_findLeastSums 9 = .ok (.iload_n 1, 1) := by decide +kernel
theorem dX4_findLeastSums_10 : decode cX4_findLeastSums 10 = .ok (.aload_n 0, 1) := by decide +kernel
theorem dX4_findLeastSums_11 : decode cX4_findLeastSums 11 = .ok (.invokevirtual 64, 3) := by decide +kernel
theorem dX4_findLeastSums_14 : decode cX4_findLeastSums 14 = .ok (.if_icmp .gt 36, 3) := by decide +kernel
theorem dX4_findLeastSums_17 : decode cX4_findLeastSums 17 = .ok (.iload_n 1, 1) := by decide +kernel
theorem dX4_findLeastSums_18 : decode cX4_findLeastSums 18 = .ok (.invokestatic 81, 3) := by decide +kernel
theorem dX4_findLeastSums_21 : decode cX4_findLeastSums 21 = .ok (.iconst 1, 1) := by decide +kernel
theorem dX4_findLeastSums_22 : decode cX4_findLeastSums 22 = .ok (.iand, 1) := by decide +kernel
theorem dX4_findLeastSums_23 : decode cX4_findLeastSums 23 = .ok (.ifCond .ne 21, 3) := by decide +kernel
theorem dX4_findLeastSums_26 : decode cX4_findLeastSums 26 = .ok (.aload_n 0, 1) := by decide +kernel
theorem dX4_findLeastSums_27 : decode cX4_findLeastSums 27 = .ok (.getfield 33, 3) := by decide +kernel
theorem dX4_findLeastSums_30 : decode cX4_findLeastSums 30 = .ok (.iload_n 1, 1) := by decide +kernel
theorem dX4_findLeastSums_31 : decode cX4_findLeastSums 31 = .ok (.iconst 1, 1) := by decide +kernel
theorem dX4_findLeastSums_32 : decode cX4_findLeastSums 32 = .ok (.ishr, 1) := by decide +kernel
theorem dX4_findLeastSums_33 : decode cX4_findLeastSums 33 = .ok (.aload_n 0, 1) := by decide +kernel
theorem dX4_findLeastSums_34 : decode cX4_findLeastSums 34 = .ok (.iload_n 1, 1) := by decide +kernel
theorem dX4_findLeastSums_35 : decode cX4_findLeastSums 35 = .ok (.aload_n 0, 1) := by decide +kernel
theorem dX4_findLeastSums_36 : decode cX4_findLeastSums 36 = .ok (.iload_n 1, 1) := by decide +kernel
theorem dX4_findLeastSums_37 : decode cX4_findLeastSums 37 = .ok (.invokevirtual 87, 3) := by decide +kernel
theorem dX4_findLeastSums_40 : decode cX4_findLeastSums 40 = .ok (.invokevirtual 90, 3) := by decide +kernel
theorem dX4_findLeastSums_43 : decode cX4_findLeastSums 43 = .ok (.iastore, 1) := by decide +kernel
theorem dX4_findLeastSums_44 : decode cX4_findLeastSums 44 = .ok (.iinc 1 1, 3) := by decide +kernel
theorem dX4_findLeastSums_47 : decode cX4_findLeastSums 47 = .ok (.goto (-38), 3) := by decide +kernel
theorem dX4_findLeastSums_50 : decode cX4_findLeastSums 50 = .ok (.return_, 1) := by decide +kernel
set_option maxRecDepth 20000 in
theorem ggX4_bestPartner_X4_firstOf : GoodIn wsX4_bestPartner wsX4_firstOf := goodIn_r _ [6, 7, 8, 9, 10, 11] (by decide +kernel) (by decide +kernel)
set_option maxRecDepth 20000 in
theorem gX4_bestPartner_X4_firstOf : GoodIn wsX4_bestPartner (va_wsS RX4 94 yX4_firstOf wsX4_firstOf) := goodIn_app (goodIn_of _ (by decide +kernel)) ggX4_bestPartner_X4_firstOf
set_option maxRecDepth 20000 in
theorem ggX4_bestPartner_X4_sumWith : GoodIn wsX4_bestPartner wsX4_sumWith := goodIn_r _ [15, 2, 16, 17, 18, 3, 4, 5, 6, 7, 8, 9, 10, 11, 19, 20, 21, 22, 23, 24, 25, 26, 27, 28] (by decide +kernel) (by decide +kernel)
set_option maxRecDepth 20000 in
theorem gX4_bestPartner_X4_sumWith : GoodIn wsX4_bestPartner (wsV RX4 90 RX4 yX4_sumWith wsX4_sumWith) := goodIn_app (goodIn_of _ (by decide +kernel)) ggX4_bestPartner_X4_sumWith
theorem dX4_bestPartner_0 : decode cX4_bestPartner 0 = .ok (.iconst (-1), 1) := by decide +kernel
theorem dX4_bestPartner_1 : decode cX4_bestPartner 1 = .ok (.istore_n 2, 1) := by decide +kernel
theorem dX4_bestPartner_2 : decode cX4_bestPartner 2 = .ok (.ldc 93, 2) := by decide +kernel
theorem dX4_bestPartner_4 : decode cX4_bestPartner 4 = .ok (.istore_n 3, 1) := by decide +kernel
theorem dX4_bestPartner_5 : decode cX4_bestPartner 5 = .ok (.iload_n 1, 1) := by decide +kernel
theorem dX4_bestPartner_6 : decode cX4_bestPartner 6 = .ok (.invokestatic 94, 3) := by decide +kernel
theorem dX4_bestPartner_9 : decode cX4_bestPartner 9 = .ok (.iconst 1, 1) := by decide +kernel
theorem dX4_bestPartner_10 : decode cX4_bestPartner 10 = .ok (.iadd, 1) := by decide +kernel
theorem dX4_bestPartner_11 : decode cX4_bestPartner 11 = .ok (.istore 4, 2) := by decide +kernel
theorem dX4_bestPartner_13 : decode cX4_bestPartner 13 = .ok (.iload 4, 2) := by decide +kernel
theorem dX4_bestPartner_15 : decode cX4_bestPartner 15 = .ok (.aload_n 0, 1) := by decide +kernel
theorem dX4_bestPartner_16 : decode cX4_bestPartner 16 = .ok (.getfield 30, 3) := by decide +kernel
theorem dX4_bestPartner_19 : decode cX4_bestPartner 19 = .ok (.if_icmp .ge 40, 3) := by decide +kernel
theorem dX4_bestPartner_22 : decode cX4_bestPartner 22 = .ok (.iload_n 1, 1) := by decide +kernel
theorem dX4_bestPartner_23 : decode cX4_bestPartner 23 = .ok (.iload 4, 2) := by decide +kernel
theorem dX4_bestPartner_25 : decode cX4_bestPartner 25 = .ok (.ishr, 1) := by decide +kernel
theorem dX4_bestPartner_26 : decode cX4_bestPartner 26 = .ok (.iconst 1, 1) := by decide +kernel
theorem dX4_bestPartner_27 : decode cX4_bestPartner 27 = .ok (.iand, 1) := by decide +kernel
theorem dX4_bestPartner_28 : decode cX4_bestPartner 28 = .ok (.ifCond .eq 25, 3) := by decide +kernel
theorem dX4_bestPartner_31 : decode cX4_bestPartner 31 = .ok (.aload_n 0, 1) := by decide +kernel
theorem dX4_bestPartner_32 : decode cX4_bestPartner 32 = .ok (.iload_n 1, 1) := by decide +kernel
theorem dX4_bestPartner_33 : decode cX4_bestPartner 33 = .ok (.iload 4, 2) := by decide +kernel
theorem dX4_bestPartner_35 : decode cX4_bestPartner 35 = .ok (.invokevirtual 90, 3) := by decide +kernel
theorem dX4_bestPartner_38 : decode cX4_bestPartner 38 = .ok (.iload_n 3, 1) := by decide +kernel
theorem dX4_bestPartner_39 : decode cX4_bestPartner 39 = .ok (.if_icmp .ge 14, 3) := by decide +kernel
theorem dX4_bestPartner_42 : decode cX4_bestPartner 42 = .ok (.aload_n 0, 1) := by decide +kernel
theorem dX4_bestPartner_43 : decode cX4_bestPartner 43 = .ok (.iload_n 1, 1) := by decide +kernel
theorem dX4_bestPartner_44 : decode cX4_bestPartner 44 = .ok (.iload 4, 2) := by decide +kernel
theorem dX4_bestPartner_46 : decode cX4_bestPartner 46 = .ok (.invokevirtual 90, 3) := by decide +kernel
theorem dX4_bestPartner_49 : decode cX4_bestPartner 49 = .ok (.istore_n 3, 1) := by decide +kernel
theorem dX4_bestPartner_50 : decode cX4_bestPartner 50 = .ok (.iload 4, 2) := by decide +kernel
theorem dX4_bestPartner_52 : decode cX4_bestPartner 52 = .ok (.istore_n 2, 1) := by decide +kernel
theorem dX4_bestPartner_53 : decode cX4_bestPartner 53 = .ok (.iinc 4 1, 3) := by decide +kernel
theorem dX4_bestPartner_56 : decode cX4_bestPartner 56 = .ok (.goto (-43), 3) := by decide +kernel
theorem dX4_bestPartner_59 : decode cX4_bestPartner 59 = .ok (.iload_n 2, 1) := by decide +kernel
theorem dX4_bestPartner_60 : decode cX4_bestPartner 60 = .ok (.ireturn, 1) := by decide +kernel
set_option maxRecDepth 20000 in
theorem ggX4_sumWith_X4_firstOf : GoodIn wsX4_sumWith wsX4_firstOf := goodIn_r _ [8, 9, 10, 11, 12, 13] (by decide +kernel) (by decide +kernel)
set_option maxRecDepth 20000 in
theorem gX4_sumWith_X4_firstOf : GoodIn wsX4_sumWith (va_wsS RX4 94 yX4_firstOf wsX4_firstOf) := goodIn_app (goodIn_of _ (by decide +kernel)) ggX4_sumWith_X4_firstOf
set_option maxRecDepth 20000 in
theorem ggX4_sumWith_X4_without : GoodIn wsX4_sumWith wsX4_without := goodIn_r _ [16, 5, 6, 7, 8, 9, 10, 11, 12, 13] (by decide +kernel) (by decide +kernel)
set_option maxRecDepth 20000 in
theorem gX4_sumWith_X4_without : GoodIn wsX4_sumWith (va_wsS RX4 97 yX4_without wsX4_without) := goodIn_app (goodIn_of _ (by decide +kernel)) ggX4_sumWith_X4_without
theorem dX4_sumWith_0 : decode cX4_sumWith 0 = .ok (.iload_n 1, 1) := by decide +kernel
theorem dX4_sumWith_1 : decode cX4_sumWith 1 = .ok (.invokestatic 94, 3) := by decide +kernel
theorem dX4_sumWith_4 : decode cX4_sumWith 4 = .ok (.istore_n 3, 1) := by decide +kernel
theorem dX4_sumWith_5 : decode cX4_sumWith 5 = .ok (.iload_n 3, 1) := by decide +kernel
theorem dX4_sumWith_6 : decode cX4_sumWith 6 = .ok (.aload_n 0, 1) := by decide +kernel
theorem dX4_sumWith_7 : decode cX4_sumWith 7 = .ok (.getfield 30, 3) := by decide +kernel
theorem dX4_sumWith_10 : decode cX4_sumWith 10 = .ok (.if_icmp .ge 15, 3) := by decide +kernel
theorem dX4_sumWith_13 : decode cX4_sumWith 13 = .ok (.iload_n 2, 1) := by decide +kernel
theorem dX4_sumWith_14 : decode cX4_sumWith 14 = .ok (.ifCond .lt 11, 3) := by decide +kernel
theorem dX4_sumWith_17 : decode cX4_sumWith 17 = .ok (.iload_n 2, 1) := by decide +kernel
theorem dX4_sumWith_18 : decode cX4_sumWith 18 = .ok (.aload_n 0, 1) := by decide +kernel
theorem dX4_sumWith_19 : decode cX4_sumWith 19 = .ok (.getfield 30, 3) := by decide +kernel
theorem dX4_sumWith_22 : decode cX4_sumWith 22 = .ok (.if_icmp .lt 5, 3) := by decide +kernel
theorem dX4_sumWith_25 : decode cX4_sumWith 25 = .ok (.iconst 0, 1) := by decide +kernel
theorem dX4_sumWith_26 : decode cX4_sumWith 26 = .ok (.ireturn, 1) := by decide +kernel
theorem dX4_sumWith_27 : decode cX4_sumWith 27 = .ok (.aload_n 0, 1) := by decide +kernel
theorem dX4_sumWith_28 : decode cX4_sumWith 28 = .ok (.getfield 23, 3) := by decide +kernel
theorem dX4_sumWith_31 : decode cX4_sumWith 31 = .ok (.aload_n 0, 1) := by decide +kernel
theorem dX4_sumWith_32 : decode cX4_sumWith 32 = .ok (.getfield 26, 3) := by decide +kernel
theorem dX4_sumWith_35 : decode cX4_sumWith 35 = .ok (.iload_n 3, 1) := by decide +kernel
theorem dX4_sumWith_36 : decode cX4_sumWith 36 = .ok (.iaload, 1) := by decide +kernel
theorem dX4_sumWith_37 : decode cX4_sumWith 37 = .ok (.aaload, 1) := by decide +kernel
theorem dX4_sumWith_38 : decode cX4_sumWith 38 = .ok (.aload_n 0, 1) := by decide +kernel
theorem dX4_sumWith_39 : decode cX4_sumWith 39 = .ok (.getfield 26, 3) := by decide +kernel
theorem dX4_sumWith_42 : decode cX4_sumWith 42 = .ok (.iload_n 2, 1) := by decide +kernel
theorem dX4_sumWith_43 : decode cX4_sumWith 43 = .ok (.iaload, 1) := by decide +kernel
theorem dX4_sumWith_44 : decode cX4_sumWith 44 = .ok (.iaload, 1) := by decide +kernel
theorem dX4_sumWith_45 : decode cX4_sumWith 45 = .ok (.aload_n 0, 1) := by decide +kernel
theorem dX4_sumWith_46 : decode cX4_sumWith 46 = .ok (.getfield 33, 3) := by decide +kernel
theorem dX4_sumWith_49 : decode cX4_sumWith 49 = .ok (.iload_n 1, 1) := by decide +kernel
theorem dX4_sumWith_50 : decode cX4_sumWith 50 = .ok (.iload_n 2, 1) := by decide +kernel
theorem dX4_sumWith_51 : decode cX4_sumWith 51 = .ok (.invokestatic 97, 3) := by decide +kernel
theorem dX4_sumWith_54 : decode cX4_sumWith 54 = .ok (.iconst 1, 1) := by decide +kernel
theorem dX4_sumWith_55 : decode cX4_sumWith 55 = .ok (.ishr, 1) := by decide +kernel
theorem dX4_sumWith_56 : decode cX4_sumWith 56 = .ok (.iaload, 1) := by decide +kernel
theorem dX4_sumWith_57 : decode cX4_sumWith 57 = .ok (.iadd, 1) := by decide +kernel
theorem dX4_sumWith_58 : decode cX4_sumWith 58 = .ok (.ireturn, 1) := by decide +kernel
set_option maxRecDepth 20000 in
theorem ggX4_firstOf_J6_numberOfTrailingZeros_0f7a4 : GoodIn wsX4_firstOf wsJ6_numberOfTrailingZeros_0f7a4 := goodIn_r _ [4, 5] (by decide +kernel) (by decide +kernel)
set_option maxRecDepth 20000 in
theorem gX4_firstOf_J6_numberOfTrailingZeros_0f7a4 : GoodIn wsX4_firstOf (va_wsS RX4 100 yJ6_numberOfTrailingZeros_0f7a4 wsJ6_numberOfTrailingZeros_0f7a4) := goodIn_app (goodIn_of _ (by decide +kernel)) ggX4_firstOf_J6_numberOfTrailingZeros_0f7a4
theorem dX4_firstOf_0 : decode cX4_firstOf 0 = .ok (.iload_n 0, 1) := by decide +kernel
theorem dX4_firstOf_1 : decode cX4_firstOf 1 = .ok (.invokestatic 100, 3) := by decide +kernel
theorem dX4_firstOf_4 : decode cX4_firstOf 4 = .ok (.ireturn, 1) := by decide +kernel
set_option maxRecDepth 20000 in
theorem ggX4_without_X4_firstOf : GoodIn wsX4_without wsX4_firstOf := goodIn_r _ [4, 5, 6, 7, 8, 9] (by decide +kernel) (by decide +kernel)
set_option maxRecDepth 20000 in
theorem gX4_without_X4_firstOf : GoodIn wsX4_without (va_wsS RX4 94 yX4_firstOf wsX4_firstOf) := goodIn_app (goodIn_of _ (by decide +kernel)) ggX4_without_X4_firstOf
theorem dX4_without_0 : decode cX4_without 0 = .ok (.iload_n 0, 1) := by decide +kernel
theorem dX4_without_1 : decode cX4_without 1 = .ok (.iconst 1, 1) := by decide +kernel
theorem dX4_without_2 : decode cX4_without 2 = .ok (.iload_n 0, 1) := by decide +kernel
theorem dX4_without_3 : decode cX4_without 3 = .ok (.invokestatic 94, 3) := by decide +kernel
theorem dX4_without_6 : decode cX4_without 6 = .ok (.ishl, 1) := by decide +kernel
theorem dX4_without_7 : decode cX4_without 7 = .ok (.iconst (-1), 1) := by decide +kernel
theorem dX4_without_8 : decode cX4_without 8 = .ok (.ixor, 1) := by decide +kernel
theorem dX4_without_9 : decode cX4_without 9 = .ok (.iand, 1) := by decide +kernel
theorem dX4_without_10 : decode cX4_without 10 = .ok (.iconst 1, 1) := by decide +kernel
theorem dX4_without_11 : decode cX4_without 11 = .ok (.iload_n 1, 1) := by decide +kernel
theorem dX4_without_12 : decode cX4_without 12 = .ok (.ishl, 1) := by decide +kernel
theorem dX4_without_13 : decode cX4_without 13 = .ok (.iconst (-1), 1) := by decide +kernel
theorem dX4_without_14 : decode cX4_without 14 = .ok (.ixor, 1) := by decide +kernel
theorem dX4_without_15 : decode cX4_without 15 = .ok (.iand, 1) := by decide +kernel
theorem dX4_without_16 : decode cX4_without 16 = .ok (.ireturn, 1) := by decide +kernel
set_option maxRecDepth 20000 in
theorem ggX4_keepPairs_X4_everyOdd : GoodIn wsX4_keepPairs wsX4_everyOdd := goodIn_r _ [9, 2, 32, 33, 34, 35, 36, 37, 38] (by decide +kernel) (by decide +kernel)
set_option maxRecDepth 20000 in
theorem gX4_keepPairs_X4_everyOdd : GoodIn wsX4_keepPairs (wsV RX4 64 RX4 yX4_everyOdd wsX4_everyOdd) := goodIn_app (goodIn_of _ (by decide +kernel)) ggX4_keepPairs_X4_everyOdd
set_option maxRecDepth 20000 in
theorem ggX4_keepPairs_X4_firstOf : GoodIn wsX4_keepPairs wsX4_firstOf := goodIn_r _ [12, 13, 14, 15, 16, 17] (by decide +kernel) (by decide +kernel)
set_option maxRecDepth 20000 in
theorem gX4_keepPairs_X4_firstOf : GoodIn wsX4_keepPairs (va_wsS RX4 94 yX4_firstOf wsX4_firstOf) := goodIn_app (goodIn_of _ (by decide +kernel)) ggX4_keepPairs_X4_firstOf
set_option maxRecDepth 20000 in
theorem ggX4_keepPairs_X4_bestPartner : GoodIn wsX4_keepPairs wsX4_bestPartner := goodIn_r _ [21, 22, 2, 10, 11, 8, 12, 13, 14, 15, 16, 17, 23, 24, 25, 26, 27, 4, 28, 29, 30, 31, 32, 33, 34, 35, 36, 37, 38] (by decide +kernel) (by decide +kernel)
set_option maxRecDepth 20000 in
theorem gX4_keepPairs_X4_bestPartner : GoodIn wsX4_keepPairs (wsV RX4 87 RX4 yX4_bestPartner wsX4_bestPartner) := goodIn_app (goodIn_of _ (by decide +kernel)) ggX4_keepPairs_X4_bestPartner
set_option maxRecDepth 20000 in
theorem ggX4_keepPairs_X4_without : GoodIn wsX4_keepPairs wsX4_without := goodIn_r _ [31, 10, 11, 8, 12, 13, 14, 15, 16, 17] (by decide +kernel) (by decide +kernel)
set_option maxRecDepth 20000 in
theorem gX4_keepPairs_X4_without : GoodIn wsX4_keepPairs (va_wsS RX4 97 yX4_without wsX4_without) := goodIn_app (goodIn_of _ (by decide +kernel)) ggX4_keepPairs_X4_without
theorem dX4_keepPairs_0 : decode cX4_keepPairs 0 = .ok (.aload_n 0, 1) := by decide +kernel
theorem dX4_keepPairs_1 : decode cX4_keepPairs 1 = .ok (.iconst 0, 1) := by decide +kernel
theorem dX4_keepPairs_2 : decode cX4_keepPairs 2 = .ok (.putfield 39, 3) := by decide +kernel
theorem dX4_keepPairs_5 : decode cX4_keepPairs 5 = .ok (.aload_n 0, 1) := by decide +kernel
theorem dX4_keepPairs_6 : decode cX4_keepPairs 6 = .ok (.invokevirtual 64, 3) := by decide +kernel
theorem dX4_keepPairs_9 : decode cX4_keepPairs 9 = .ok (.istore_n 1, 1) := by decide +kernel
theorem dX4_keepPairs_10 : decode cX4_keepPairs 10 = .ok (.iconst 0, 1) := by decide +kernel
theorem dX4_keepPairs_11 : decode cX4_keepPairs 11 = .ok (.istore_n 2, 1) := by decide +kernel
theorem dX4_keepPairs_12 : decode cX4_keepPairs 12 = .ok (.iload_n 2, 1) := by decide +kernel
theorem dX4_keepPairs_13 : decode cX4_keepPairs 13 = .ok (.iconst 1, 1) := by decide +kernel
theorem dX4_keepPairs_14 : decode cX4_keepPairs 14 = .ok (.iadd, 1) := by decide +kernel
theorem dX4_keepPairs_15 : decode cX4_keepPairs 15 = .ok (.aload_n 0, 1) := by decide +kernel
theorem dX4_keepPairs_16 : decode cX4_keepPairs 16 = .ok (.getfield 30, 3) := by decide +kernel
theorem dX4_keepPairs_19 : decode cX4_keepPairs 19 = .ok (.if_icmp .ge 82, 3) := by decide +kernel
theorem dX4_keepPairs_22 : decode cX4_keepPairs 22 = .ok (.iload_n 1, 1) := by decide +kernel
theorem dX4_keepPairs_23 : decode cX4_keepPairs 23 = .ok (.invokestatic 94, 3) := by decide +kernel
theorem dX4_keepPairs_26 : decode cX4_keepPairs 26 = .ok (.istore_n 3, 1) := by decide +kernel
theorem dX4_keepPairs_27 : decode cX4_keepPairs 27 = .ok (.aload_n 0, 1) := by decide +kernel
theorem dX4_keepPairs_28 : decode cX4_keepPairs 28 = .ok (.iload_n 1, 1) := by decide +kernel
theorem dX4_keepPairs_29 : decode cX4_keepPairs 29 = .ok (.invokevirtual 87, 3) := by decide +kernel
theorem dX4_keepPairs_32 : decode cX4_keepPairs 32 = .ok (.istore 4, 2) := by decide +kernel
theorem dX4_keepPairs_34 : decode cX4_keepPairs 34 = .ok (.iload_n 3, 1) := by decide +kernel
theorem dX4_keepPairs_35 : decode cX4_keepPairs 35 = .ok (.aload_n 0, 1) := by decide +kernel
theorem dX4_keepPairs_36 : decode cX4_keepPairs 36 = .ok (.getfield 30, 3) := by decide +kernel
theorem dX4_keepPairs_39 : decode cX4_keepPairs 39 = .ok (.if_icmp .ge 62, 3) := by decide +kernel
theorem dX4_keepPairs_42 : decode cX4_keepPairs 42 = .ok (.iload 4, 2) := by decide +kernel
theorem dX4_keepPairs_44 : decode cX4_keepPairs 44 = .ok (.iconst (-1), 1) := by decide +kernel
theorem dX4_keepPairs_45 : decode cX4_keepPairs 45 = .ok (.if_icmp .ne 6, 3) := by decide +kernel
theorem dX4_keepPairs_48 : decode cX4_keepPairs 48 = .ok (.goto 53, 3) := by decide +kernel
theorem dX4_keepPairs_51 : decode cX4_keepPairs 51 = .ok (.aload_n 0, 1) := by decide +kernel
theorem dX4_keepPairs_52 : decode cX4_keepPairs 52 = .ok (.getfield 36, 3) := by decide +kernel
theorem dX4_keepPairs_55 : decode cX4_keepPairs 55 = .ok (.iload_n 2, 1) := by decide +kernel
theorem dX4_keepPairs_56 : decode cX4_keepPairs 56 = .ok (.aload_n 0, 1) := by decide +kernel
theorem dX4_keepPairs_57 : decode cX4_keepPairs 57 = .ok (.getfield 26, 3) := by decide +kernel
theorem dX4_keepPairs_60 : decode cX4_keepPairs 60 = .ok (.iload_n 3, 1) := by decide +kernel
theorem dX4_keepPairs_61 : decode cX4_keepPairs 61 = .ok (.iaload, 1) := by decide +kernel
theorem dX4_keepPairs_62 : decode cX4_keepPairs 62 = .ok (.iastore, 1) := by decide +kernel
theorem dX4_keepPairs_63 : decode cX4_keepPairs 63 = .ok (.aload_n 0, 1) := by decide +kernel
theorem dX4_keepPairs_64 : decode cX4_keepPairs 64 = .ok (.getfield 36, 3) := by decide +kernel
theorem dX4_keepPairs_67 : decode cX4_keepPairs 67 = .ok (.iload_n 2, 1) := by decide +kernel
theorem dX4_keepPairs_68 : decode cX4_keepPairs 68 = .ok (.iconst 1, 1) := by decide +kernel
theorem dX4_keepPairs_69 : decode cX4_keepPairs 69 = .ok (.iadd, 1) := by decide +kernel
theorem dX4_keepPairs_70 : decode cX4_keepPairs 70 = .ok (.aload_n 0, 1) := by decide +kernel
theorem dX4_keepPairs_71 : decode cX4_keepPairs 71 = .ok (.getfield 26, 3) := by decide +kernel
theorem dX4_keepPairs_74 : decode cX4_keepPairs 74 = .ok (.iload 4, 2) := by decide +kernel
theorem dX4_keepPairs_76 : decode cX4_keepPairs 76 = .ok (.iaload, 1) := by decide +kernel
theorem dX4_keepPairs_77 : decode cX4_keepPairs 77 = .ok (.iastore, 1) := by decide +kernel
theorem dX4_keepPairs_78 : decode cX4_keepPairs 78 = .ok (.aload_n 0, 1) := by decide +kernel
theorem dX4_keepPairs_79 : decode cX4_keepPairs 79 = .ok (.dup, 1) := by decide +kernel
theorem dX4_keepPairs_80 : decode cX4_keepPairs 80 = .ok (.getfield 39, 3) := by decide +kernel
theorem dX4_keepPairs_83 : decode cX4_keepPairs 83 = .ok (.iconst 1, 1) := by decide +kernel
theorem dX4_keepPairs_84 : decode cX4_keepPairs 84 = .ok (.iadd, 1) := by decide +kernel
theorem dX4_keepPairs_85 : decode cX4_keepPairs 85 = .ok (.putfield 39, 3) := by decide +kernel
theorem dX4_keepPairs_88 : decode cX4_keepPairs 88 = .ok (.iload_n 1, 1) := by decide +kernel
theorem dX4_keepPairs_89 : decode cX4_keepPairs 89 = .ok (.iload 4, 2) := by decide +kernel
theorem dX4_keepPairs_91 : decode cX4_keepPairs 91 = .ok (.invokestatic 97, 3) := by decide +kernel
theorem dX4_keepPairs_94 : decode cX4_keepPairs 94 = .ok (.istore_n 1, 1) := by decide +kernel
theorem dX4_keepPairs_95 : decode cX4_keepPairs 95 = .ok (.iinc 2 2, 3) := by decide +kernel
theorem dX4_keepPairs_98 : decode cX4_keepPairs 98 = .ok (.goto (-86), 3) := by decide +kernel
theorem dX4_keepPairs_101 : decode cX4_keepPairs 101 = .ok (.return_, 1) := by decide +kernel
theorem dX5_init_0 : decode cX5_init 0 = .ok (.aload_n 0, 1) := by decide +kernel
theorem dX5_init_1 : decode cX5_init 1 = .ok (.invokespecial 3, 3) := by decide +kernel
theorem dX5_init_4 : decode cX5_init 4 = .ok (.aload_n 0, 1) := by decide +kernel
theorem dX5_init_5 : decode cX5_init 5 = .ok (.aload_n 1, 1) := by decide +kernel
theorem dX5_init_6 : decode cX5_init 6 = .ok (.putfield 9, 3) := by decide +kernel
theorem dX5_init_9 : decode cX5_init 9 = .ok (.aload_n 0, 1) := by decide +kernel
theorem dX5_init_10 : decode cX5_init 10 = .ok (.aload_n 1, 1) := by decide +kernel
theorem dX5_init_11 : decode cX5_init 11 = .ok (.getfield 15, 3) := by decide +kernel
theorem dX5_init_14 : decode cX5_init 14 = .ok (.aload_n 1, 1) := by decide +kernel
theorem dX5_init_15 : decode cX5_init 15 = .ok (.getfield 15, 3) := by decide +kernel
theorem dX5_init_18 : decode cX5_init 18 = .ok (.multianewarray 21 2, 4) := by decide +kernel
theorem dX5_init_22 : decode cX5_init 22 = .ok (.putfield 23, 3) := by decide +kernel
theorem dX5_init_25 : decode cX5_init 25 = .ok (.aload_n 0, 1) := by decide +kernel
theorem dX5_init_26 : decode cX5_init 26 = .ok (.aload_n 1, 1) := by decide +kernel
theorem dX5_init_27 : decode cX5_init 27 = .ok (.getfield 15, 3) := by decide +kernel
theorem dX5_init_30 : decode cX5_init 30 = .ok (.newarray .int, 2) := by decide +kernel
theorem dX5_init_32 : decode cX5_init 32 = .ok (.putfield 26, 3) := by decide +kernel
theorem dX5_init_35 : decode cX5_init 35 = .ok (.aload_n 0, 1) := by decide +kernel
theorem dX5_init_36 : decode cX5_init 36 = .ok (.aload_n 1, 1) := by decide +kernel
theorem dX5_init_37 : decode cX5_init 37 = .ok (.getfield 15, 3) := by decide +kernel
theorem dX5_init_40 : decode cX5_init 40 = .ok (.newarray .long, 2) := by decide +kernel
theorem dX5_init_42 : decode cX5_init 42 = .ok (.putfield 30, 3) := by decide +kernel
theorem dX5_init_45 : decode cX5_init 45 = .ok (.aload_n 0, 1) := by decide +kernel
theorem dX5_init_46 : decode cX5_init 46 = .ok (.aload_n 1, 1) := by decide +kernel
theorem dX5_init_47 : decode cX5_init 47 = .ok (.getfield 15, 3) := by decide +kernel
theorem dX5_init_50 : decode cX5_init 50 = .ok (.newarray .int, 2) := by decide +kernel
theorem dX5_init_52 : decode cX5_init 52 = .ok (.putfield 34, 3) := by decide +kernel
theorem dX5_init_55 : decode cX5_init 55 = .ok (.return_, 1) := by decide +kernel
set_option maxRecDepth 20000 in
theorem ggX5_leastWay_X3_waysLeadFromEachToEach : GoodIn wsX5_leastWay wsX3_waysLeadFromEachToEach := goodIn_r _ [8, 9, 10, 11, 12, 7, 13, 14, 15, 16, 17, 18, 19, 20, 21, 22, 23, 62, 63, 64] (by decide +kernel) (by decide +kernel)
set_option maxRecDepth 20000 in
theorem gX5_leastWay_X3_waysLeadFromEachToEach : GoodIn wsX5_leastWay (wsV RX5 37 RX3 yX3_waysLeadFromEachToEach wsX3_waysLeadFromEachToEach) := goodIn_app (goodIn_of _ (by decide +kernel)) ggX5_leastWay_X3_waysLeadFromEachToEach
set_option maxRecDepth 20000 in
theorem ggX5_leastWay_X5_goEachOnce : GoodIn wsX5_leastWay wsX5_goEachOnce := goodIn_r _ [28, 29, 1, 30, 31, 32, 33, 34, 57, 58, 59, 60, 61, 62, 63, 64] (by decide +kernel) (by decide +kernel)
set_option maxRecDepth 20000 in
theorem gX5_leastWay_X5_goEachOnce : GoodIn wsX5_leastWay (wsV RX5 43 RX5 yX5_goEachOnce wsX5_goEachOnce) := goodIn_app (goodIn_of _ (by decide +kernel)) ggX5_leastWay_X5_goEachOnce
set_option maxRecDepth 20000 in
theorem ggX5_leastWay_X5_findCosts : GoodIn wsX5_leastWay wsX5_findCosts := goodIn_r _ [38, 1, 3, 29, 39, 40, 41, 42, 43, 27, 44, 45, 46, 47, 48, 30, 57, 58, 59, 60, 61, 62, 63, 64] (by decide +kernel) (by decide +kernel)
set_option maxRecDepth 20000 in
theorem gX5_leastWay_X5_findCosts : GoodIn wsX5_leastWay (wsV RX5 47 RX5 yX5_findCosts wsX5_findCosts) := goodIn_app (goodIn_of _ (by decide +kernel)) ggX5_leastWay_X5_findCosts
set_option maxRecDepth 20000 in
theorem ggX5_leastWay_X5_cheapestEnd : GoodIn wsX5_leastWay wsX5_cheapestEnd := goodIn_r _ [52, 1, 29, 3, 39, 57, 58, 59, 60, 61, 62, 63, 64] (by decide +kernel) (by decide +kernel)
set_option maxRecDepth 20000 in
theorem gX5_leastWay_X5_cheapestEnd : GoodIn wsX5_leastWay (wsV RX5 50 RX5 yX5_cheapestEnd wsX5_cheapestEnd) := goodIn_app (goodIn_of _ (by decide +kernel)) ggX5_leastWay_X5_cheapestEnd
set_option maxRecDepth 20000 in
theorem ggX5_leastWay_X5_goTo : GoodIn wsX5_leastWay wsX5_goTo := goodIn_r _ [56, 1, 40, 30, 29, 57, 58, 59, 60, 61, 62, 63, 64] (by decide +kernel) (by decide +kernel)
set_option maxRecDepth 20000 in
theorem gX5_leastWay_X5_goTo : GoodIn wsX5_leastWay (wsV RX5 54 RX5 yX5_goTo wsX5_goTo) := goodIn_app (goodIn_of _ (by decide +kernel)) ggX5_leastWay_X5_goTo
theorem dX5_leastWay_0 : decode cX5_leastWay 0 = .ok (.aload_n 0, 1) := by decide +kernel
theorem dX5_leastWay_1 : decode cX5_leastWay 1 = .ok (.getfield 9, 3) := by decide +kernel
theorem dX5_leastWay_4 : decode cX5_leastWay 4 = .ok (.invokevirtual 37, 3) := by decide +kernel
theorem dX5_leastWay_7 : decode cX5_leastWay 7 = .ok (.ifCond .ne 7, 3) := by decide +kernel
theorem dX5_leastWay_10 : decode cX5_leastWay 10 = .ok (.ldc2_w 41, 3) := by decide +kernel
theorem dX5_leastWay_13 : decode cX5_leastWay 13 = .ok (.lreturn, 1) := by decide +kernel
theorem dX5_leastWay_14 : decode cX5_leastWay 14 = .ok (.aload_n 0, 1) := by decide +kernel
theorem dX5_leastWay_15 : decode cX5_leastWay 15 = .ok (.invokevirtual 43, 3) := by decide +kernel
theorem dX5_leastWay_18 : decode cX5_leastWay 18 = .ok (.lstore_n 1, 1) := by decide +kernel
theorem dX5_leastWay_19 : decode cX5_leastWay 19 = .ok (.aload_n 0, 1) := by decide +kernel
theorem dX5_leastWay_20 : decode cX5_leastWay 20 = .ok (.getfield 9, 3) := by decide +kernel
theorem dX5_leastWay_23 : decode cX5_leastWay 23 = .ok (.getfield 15, 3) := by decide +kernel
theorem dX5_leastWay_26 : decode cX5_leastWay 26 = .ok (.aload_n 0, 1) := by decide +kernel
theorem dX5_leastWay_27 : decode cX5_leastWay 27 = .ok (.getfield 9, 3) := by decide +kernel
theorem dX5_leastWay_30 : decode cX5_leastWay 30 = .ok (.getfield 15, 3) := by decide +kernel
theorem dX5_leastWay_33 : decode cX5_leastWay 33 = .ok (.imul, 1) := by decide +kernel
theorem dX5_leastWay_34 : decode cX5_leastWay 34 = .ok (.istore_n 3, 1) := by decide +kernel
theorem dX5_leastWay_35 : decode cX5_leastWay 35 = .ok (.iconst 0, 1) := by decide +kernel
theorem dX5_leastWay_36 : decode cX5_leastWay 36 = .ok (.istore 4, 2) := by decide +kernel
theorem dX5_leastWay_38 : decode cX5_leastWay 38 = .ok (.iload 4, 2) := by decide +kernel
theorem dX5_leastWay_40 : decode cX5_leastWay 40 = .ok (.iload_n 3, 1) := by decide +kernel
theorem dX5_leastWay_41 : decode cX5_leastWay 41 = .ok (.if_icmp .ge 44, 3) := by decide +kernel
theorem dX5_leastWay_44 : decode cX5_leastWay 44 = .ok (.aload_n 0, 1) := by decide +kernel
theorem dX5_leastWay_45 : decode cX5_leastWay 45 = .ok (.invokevirtual 47, 3) := by decide +kernel
theorem dX5_leastWay_48 : decode cX5_leastWay 48 = .ok (.aload_n 0, 1) := by decide +kernel
theorem dX5_leastWay_49 : decode cX5_leastWay 49 = .ok (.invokevirtual 50, 3) := by decide +kernel
theorem dX5_leastWay_52 : decode cX5_leastWay 52 = .ok (.istore 5, 2) := by decide +kernel
theorem dX5_leastWay_54 : decode cX5_leastWay 54 = .ok (.iload 5, 2) := by decide +kernel
theorem dX5_leastWay_56 : decode cX5_leastWay 56 = .ok (.iconst (-1), 1) := by decide +kernel
theorem dX5_leastWay_57 : decode cX5_leastWay 57 = .ok (.if_icmp .ne 6, 3) := by decide +kernel
theorem dX5_leastWay_60 : decode cX5_leastWay 60 = .ok (.goto 25, 3) := by decide +kernel
theorem dX5_leastWay_63 : decode cX5_leastWay 63 = .ok (.lload_n 1, 1) := by decide +kernel
theorem dX5_leastWay_64 : decode cX5_leastWay 64 = .ok (.aload_n 0, 1) := by decide +kernel
theorem dX5_leastWay_65 : decode cX5_leastWay 65 = .ok (.getfield 30, 3) := by decide +kernel
theorem dX5_leastWay_68 : decode cX5_leastWay 68 = .ok (.iload 5, 2) := by decide +kernel
theorem dX5_leastWay_70 : decode cX5_leastWay 70 = .ok (.laload, 1) := by decide +kernel
theorem dX5_leastWay_71 : decode cX5_leastWay 71 = .ok (.ladd, 1) := by decide +kernel
theorem dX5_leastWay_72 : decode cX5_leastWay 72 = .ok (.lstore_n 1, 1) := by decide +kernel
theorem dX5_leastWay_73 : decode cX5_leastWay 73 = .ok (.aload_n 0, 1) := by decide +kernel
theorem dX5_leastWay_74 : decode cX5_leastWay 74 = .ok (.iload 5, 2) := by decide +kernel
theorem dX5_leastWay_76 : decode cX5_leastWay 76 = .ok (.invokevirtual 54, 3) := by decide +kernel
theorem dX5_leastWay_79 : decode cX5_leastWay 79 = .ok (.iinc 4 1, 3) := by decide +kernel
theorem dX5_leastWay_82 : decode cX5_leastWay 82 = .ok (.goto (-44), 3) := by decide +kernel
theorem dX5_leastWay_85 : decode cX5_leastWay 85 = .ok (.lload_n 1, 1) := by decide +kernel
theorem dX5_leastWay_86 : decode cX5_leastWay 86 = .ok (.lreturn, 1) := by decide +kernel
set_option maxRecDepth 20000 in
theorem ggX5_goEachOnce_J7_fill_53178 : GoodIn wsX5_goEachOnce wsJ7_fill_53178 := goodIn_r _ [7] (by decide +kernel) (by decide +kernel)
set_option maxRecDepth 20000 in
theorem gX5_goEachOnce_J7_fill_53178 : GoodIn wsX5_goEachOnce (va_wsS RX5 58 yJ7_fill_53178 wsJ7_fill_53178) := goodIn_app (goodIn_of _ (by decide +kernel)) ggX5_goEachOnce_J7_fill_53178
theorem dX5_goEachOnce_0 : decode cX5_goEachOnce 0 = .ok (.aload_n 0, 1) := by decide +kernel
theorem dX5_goEachOnce_1 : decode cX5_goEachOnce 1 = .ok (.getfield 26, 3) := by decide +kernel
theorem dX5_goEachOnce_4 : decode cX5_goEachOnce 4 = .ok (.iconst 0, 1) := by decide +kernel
theorem dX5_goEachOnce_5 : decode cX5_goEachOnce 5 = .ok (.invokestatic 58, 3) := by decide +kernel
theorem dX5_goEachOnce_8 : decode cX5_goEachOnce 8 = .ok (.lconst 0, 1) := by decide +kernel
theorem dX5_goEachOnce_9 : decode cX5_goEachOnce 9 = .ok (.lstore_n 1, 1) := by decide +kernel
theorem dX5_goEachOnce_10 : decode cX5_goEachOnce 10 = .ok (.iconst 0, 1) := by decide +kernel
theorem dX5_goEachOnce_11 : decode cX5_goEachOnce 11 = .ok (.istore_n 3, 1) := by decide +kernel
theorem dX5_goEachOnce_12 : decode cX5_goEachOnce 12 = .ok (.iload_n 3, 1) := by decide +kernel
theorem dX5_goEachOnce_13 : decode cX5_goEachOnce 13 = .ok (.aload_n 0, 1) := by decide +kernel
theorem dX5_goEachOnce_14 : decode cX5_goEachOnce 14 = .ok (.getfield 9, 3) := by decide +kernel
theorem dX5_goEachOnce_17 : decode cX5_goEachOnce 17 = .ok (.getfield 15, 3) := by decide +kernel
theorem dX5_goEachOnce_20 : decode cX5_goEachOnce 20 = .ok (.if_icmp .ge 93, 3) := by decide +kernel
theorem dX5_goEachOnce_23 : decode cX5_goEachOnce 23 = .ok (.iconst 0, 1) := by decide +kernel
theorem dX5_goEachOnce_24 : decode cX5_goEachOnce 24 = .ok (.istore 4, 2) := by decide +kernel
theorem dX5_goEachOnce_26 : decode cX5_goEachOnce 26 = .ok (.iload 4, 2) := by decide +kernel
theorem dX5_goEachOnce_28 : decode cX5_goEachOnce 28 = .ok (.aload_n 0, 1) := by decide +kernel
theorem dX5_goEachOnce_29 : decode cX5_goEachOnce 29 = .ok (.getfield 9, 3) := by decide +kernel
theorem dX5_goEachOnce_32 : decode cX5_goEachOnce 32 = .ok (.getfield 15, 3) := by decide +kernel
theorem dX5_goEachOnce_35 : decode cX5_goEachOnce 35 = .ok (.if_icmp .ge 72, 3) := by decide +kernel
theorem dX5_goEachOnce_38 : decode cX5_goEachOnce 38 = .ok (.aload_n 0, 1) := by decide +kernel
theorem dX5_goEachOnce_39 : decode cX5_goEachOnce 39 = .ok (.getfield 23, 3) := by decide +kernel
theorem dX5_goEachOnce_42 : decode cX5_goEachOnce 42 = .ok (.iload_n 3, 1) := by decide +kernel
theorem dX5_goEachOnce_43 : decode cX5_goEachOnce 43 = .ok (.aaload, 1) := by decide +kernel
theorem dX5_goEachOnce_44 : decode cX5_goEachOnce 44 = .ok (.iload 4, 2) := by decide +kernel
theorem dX5_goEachOnce_46 : decode cX5_goEachOnce 46 = .ok (.iconst 0, 1) := by decide +kernel
theorem dX5_goEachOnce_47 : decode cX5_goEachOnce 47 = .ok (.iastore, 1) := by decide +kernel
theorem dX5_goEachOnce_48 : decode cX5_goEachOnce 48 = .ok (.aload_n 0, 1) := by decide +kernel
theorem dX5_goEachOnce_49 : decode cX5_goEachOnce 49 = .ok (.getfield 9, 3) := by decide +kernel
theorem dX5_goEachOnce_52 : decode cX5_goEachOnce 52 = .ok (.getfield 64, 3) := by decide +kernel
theorem dX5_goEachOnce_55 : decode cX5_goEachOnce 55 = .ok (.iload_n 3, 1) := by decide +kernel
theorem dX5_goEachOnce_56 : decode cX5_goEachOnce 56 = .ok (.aaload, 1) := by decide +kernel
theorem dX5_goEachOnce_57 : decode cX5_goEachOnce 57 = .ok (.iload 4, 2) := by decide +kernel
theorem dX5_goEachOnce_59 : decode cX5_goEachOnce 59 = .ok (.iaload, 1) := by decide +kernel
theorem dX5_goEachOnce_60 : decode cX5_goEachOnce 60 = .ok (.iconst (-1), 1) := by decide +kernel
theorem dX5_goEachOnce_61 : decode cX5_goEachOnce 61 = .ok (.if_icmp .eq 40, 3) := by decide +kernel
theorem dX5_goEachOnce_64 : decode cX5_goEachOnce 64 = .ok (.aload_n 0, 1) := by decide +kernel
theorem dX5_goEachOnce_65 : decode cX5_goEachOnce 65 = .ok (.getfield 26, 3) := by decide +kernel
theorem dX5_goEachOnce_68 : decode cX5_goEachOnce 68 = .ok (.iload_n 3, 1) := by decide +kernel
theorem dX5_goEachOnce_69 : decode cX5_goEachOnce 69 = .ok (.dup2, 1) := by decide +kernel
theorem dX5_goEachOnce_70 : decode cX5_goEachOnce 70 = .ok (.iaload, 1) := by decide +kernel
theorem dX5_goEachOnce_71 : decode cX5_goEachOnce 71 = .ok (.iconst 1, 1) := by decide +kernel
theorem dX5_goEachOnce_72 : decode cX5_goEachOnce 72 = .ok (.isub, 1) := by decide +kernel
theorem dX5_goEachOnce_73 : decode cX5_goEachOnce 73 = .ok (.iastore, 1) := by decide +kernel
theorem dX5_goEachOnce_74 : decode cX5_goEachOnce 74 = .ok (.aload_n 0, 1) := by decide +kernel
theorem dX5_goEachOnce_75 : decode cX5_goEachOnce 75 = .ok (.getfield 26, 3) := by decide +kernel
theorem dX5_goEachOnce_78 : decode cX5_goEachOnce 78 = .ok (.iload 4, 2) := by decide +kernel
theorem dX5_goEachOnce_80 : decode cX5_goEachOnce 80 = .ok (.dup2, 1) := by decide +kernel
theorem dX5_goEachOnce_81 : decode cX5_goEachOnce 81 = .ok (.iaload, 1) := by decide +kernel
theorem dX5_goEachOnce_82 : decode cX5_goEachOnce 82 = .ok (.iconst 1, 1) := by decide +kernel
theorem dX5_goEachOnce_83 : decode cX5_goEachOnce 83 = .ok (.iadd, 1) := by decide +kernel
theorem dX5_goEachOnce_84 : decode cX5_goEachOnce 84 = .ok (.iastore, 1) := by decide +kernel
theorem dX5_goEachOnce_85 : decode cX5_goEachOnce 85 = .ok (.lload_n 1, 1) := by decide +kernel
theorem dX5_goEachOnce_86 : decode cX5_goEachOnce 86 = .ok (.aload_n 0, 1) := by decide +kernel
theorem dX5_goEachOnce_87 : decode cX5_goEachOnce 87 = .ok (.getfield 9, 3) := by decide +kernel
theorem dX5_goEachOnce_90 : decode cX5_goEachOnce 90 = .ok (.getfield 64, 3) := by decide +kernel
theorem dX5_goEachOnce_93 : decode cX5_goEachOnce 93 = .ok (.iload_n 3, 1) := by decide +kernel
theorem dX5_goEachOnce_94 : decode cX5_goEachOnce 94 = .ok (.aaload, 1) := by decide +kernel
theorem dX5_goEachOnce_95 : decode cX5_goEachOnce 95 = .ok (.iload 4, 2) := by decide +kernel
theorem dX5_goEachOnce_97 : decode cX5_goEachOnce 97 = .ok (.iaload, 1) := by decide +kernel
theorem dX5_goEachOnce_98 : decode cX5_goEachOnce 98 = .ok (.i2l, 1) := by decide +kernel
theorem dX5_goEachOnce_99 : decode cX5_goEachOnce 99 = .ok (.ladd, 1) := by decide +kernel
theorem dX5_goEachOnce_100 : decode cX5_goEachOnce 100 = .ok (.lstore_n 1, 1) := by decide +kernel
theorem dX5_goEachOnce_101 : decode cX5_goEachOnce 101 = .ok (.iinc 4 1, 3) := by decide +kernel
theorem dX5_goEachOnce_104 : decode cX5_goEachOnce 104 = .ok (.goto (-78), 3) := by decide +kernel
theorem dX5_goEachOnce_107 : decode cX5_goEachOnce 107 = .ok (.iinc 3 1, 3) := by decide +kernel
theorem dX5_goEachOnce_110 : decode cX5_goEachOnce 110 = .ok (.goto (-98), 3) := by decide +kernel
theorem dX5_goEachOnce_113 : decode cX5_goEachOnce 113 = .ok (.lload_n 1, 1) := by decide +kernel
theorem dX5_goEachOnce_114 : decode cX5_goEachOnce 114 = .ok (.lreturn, 1) := by decide +kernel
set_option maxRecDepth 20000 in
theorem ggX5_findCosts_X5_lowerCosts : GoodIn wsX5_findCosts wsX5_lowerCosts := goodIn_r _ [10, 1, 2, 4, 5, 11, 12, 13, 9, 14, 15, 16, 17, 18, 19, 20, 21, 22, 23] (by decide +kernel) (by decide +kernel)
set_option maxRecDepth 20000 in
theorem gX5_findCosts_X5_lowerCosts : GoodIn wsX5_findCosts (wsV RX5 69 RX5 yX5_lowerCosts wsX5_lowerCosts) := goodIn_app (goodIn_of _ (by decide +kernel)) ggX5_findCosts_X5_lowerCosts
theorem dX5_findCosts_0 : decode cX5_findCosts 0 = .ok (.iconst 0, 1) := by decide +kernel
theorem dX5_findCosts_1 : decode cX5_findCosts 1 = .ok (.istore_n 1, 1) := by decide +kernel
theorem dX5_findCosts_2 : decode cX5_findCosts 2 = .ok (.iload_n 1, 1) := by decide +kernel
theorem dX5_findCosts_3 : decode cX5_findCosts 3 = .ok (.aload_n 0, 1) := by decide +kernel
theorem dX5_findCosts_4 : decode cX5_findCosts 4 = .ok (.getfield 9, 3) := by decide +kernel
theorem dX5_findCosts_7 : decode cX5_findCosts 7 = .ok (.getfield 15, 3) := by decide +kernel
theorem dX5_findCosts_10 : decode cX5_findCosts 10 = .ok (.if_icmp .ge 38, 3) := by decide +kernel
theorem dX5_findCosts_13 : decode cX5_findCosts 13 = .ok (.aload_n 0, 1) := by decide +kernel
theorem dX5_findCosts_14 : decode cX5_findCosts 14 = .ok (.getfield 30, 3) := by decide +kernel
theorem dX5_findCosts_17 : decode cX5_findCosts 17 = .ok (.iload_n 1, 1) := by decide +kernel
theorem dX5_findCosts_18 : decode cX5_findCosts 18 = .ok (.aload_n 0, 1) := by decide +kernel
theorem dX5_findCosts_19 : decode cX5_findCosts 19 = .ok (.getfield 26, 3) := by decide +kernel
theorem dX5_findCosts_22 : decode cX5_findCosts 22 = .ok (.iload_n 1, 1) := by decide +kernel
theorem dX5_findCosts_23 : decode cX5_findCosts 23 = .ok (.iaload, 1) := by decide +kernel
theorem dX5_findCosts_24 : decode cX5_findCosts 24 = .ok (.ifCond .le 7, 3) := by decide +kernel
theorem dX5_findCosts_27 : decode cX5_findCosts 27 = .ok (.lconst 0, 1) := by decide +kernel
theorem dX5_findCosts_28 : decode cX5_findCosts 28 = .ok (.goto 6, 3) := by decide +kernel
theorem dX5_findCosts_31 : decode cX5_findCosts 31 = .ok (.ldc2_w 67, 3) := by decide +kernel
theorem dX5_findCosts_34 : decode cX5_findCosts 34 = .ok (.lastore, 1) := by decide +kernel
theorem dX5_findCosts_35 : decode cX5_findCosts 35 = .ok (.aload_n 0, 1) := by decide +kernel
theorem dX5_findCosts_36 : decode cX5_findCosts 36 = .ok (.getfield 34, 3) := by decide +kernel
theorem dX5_findCosts_39 : decode cX5_findCosts 39 = .ok (.iload_n 1, 1) := by decide +kernel
theorem dX5_findCosts_40 : decode cX5_findCosts 40 = .ok (.iconst (-1), 1) := by decide +kernel
theorem dX5_findCosts_41 : decode cX5_findCosts 41 = .ok (.iastore, 1) := by decide +kernel
theorem dX5_findCosts_42 : decode cX5_findCosts 42 = .ok (.iinc 1 1, 3) := by decide +kernel
theorem dX5_findCosts_45 : decode cX5_findCosts 45 = .ok (.goto (-43), 3) := by decide +kernel
theorem dX5_findCosts_48 : decode cX5_findCosts 48 = .ok (.iconst 1, 1) := by decide +kernel
theorem dX5_findCosts_49 : decode cX5_findCosts 49 = .ok (.istore_n 1, 1) := by decide +kernel
theorem dX5_findCosts_50 : decode cX5_findCosts 50 = .ok (.iconst 0, 1) := by decide +kernel
theorem dX5_findCosts_51 : decode cX5_findCosts 51 = .ok (.istore_n 2, 1) := by decide +kernel
theorem dX5_findCosts_52 : decode cX5_findCosts 52 = .ok (.iload_n 2, 1) := by decide +kernel
theorem dX5_findCosts_53 : decode cX5_findCosts 53 = .ok (.aload_n 0, 1) := by decide +kernel
theorem dX5_findCosts_54 : decode cX5_findCosts 54 = .ok (.getfield 9, 3) := by decide +kernel
theorem dX5_findCosts_57 : decode cX5_findCosts 57 = .ok (.getfield 15, 3) := by decide +kernel
theorem dX5_findCosts_60 : decode cX5_findCosts 60 = .ok (.if_icmp .ge 18, 3) := by decide +kernel
theorem dX5_findCosts_63 : decode cX5_findCosts 63 = .ok (.iload_n 1, 1) := by decide +kernel
theorem dX5_findCosts_64 : decode cX5_findCosts 64 = .ok (.ifCond .eq 14, 3) := by decide +kernel
theorem dX5_findCosts_67 : decode cX5_findCosts 67 = .ok (.aload_n 0, 1) := by decide +kernel
theorem dX5_findCosts_68 : decode cX5_findCosts 68 = .ok (.invokevirtual 69, 3) := by decide +kernel
theorem dX5_findCosts_71 : decode cX5_findCosts 71 = .ok (.istore_n 1, 1) := by decide +kernel
theorem dX5_findCosts_72 : decode cX5_findCosts 72 = .ok (.iinc 2 1, 3) := by decide +kernel
theorem dX5_findCosts_75 : decode cX5_findCosts 75 = .ok (.goto (-23), 3) := by decide +kernel
theorem dX5_findCosts_78 : decode cX5_findCosts 78 = .ok (.return_, 1) := by decide +kernel
set_option maxRecDepth 20000 in
theorem ggX5_lowerCosts_X5_costOfStep : GoodIn wsX5_lowerCosts wsX5_costOfStep := goodIn_r _ [9, 10, 1, 3, 11, 12, 13, 14, 15, 16, 17, 18] (by decide +kernel) (by decide +kernel)
set_option maxRecDepth 20000 in
theorem gX5_lowerCosts_X5_costOfStep : GoodIn wsX5_lowerCosts (wsV RX5 72 RX5 yX5_costOfStep wsX5_costOfStep) := goodIn_app (goodIn_of _ (by decide +kernel)) ggX5_lowerCosts_X5_costOfStep
theorem dX5_lowerCosts_0 : decode cX5_lowerCosts 0 = .ok (.iconst 0, 1) := by decide +kernel
theorem dX5_lowerCosts_1 : decode cX5_lowerCosts 1 = .ok (.istore_n 1, 1) := by decide +kernel
theorem dX5_lowerCosts_2 : decode cX5_lowerCosts 2 = .ok (.iconst 0, 1) := by decide +kernel
theorem dX5_lowerCosts_3 : decode cX5_lowerCosts 3 = .ok (.istore_n 2, 1) := by decide +kernel
theorem dX5_lowerCosts_4 : decode cX5_lowerCosts 4 = .ok (.iload_n 2, 1) := by decide +kernel
theorem dX5_lowerCosts_5 : decode cX5_lowerCosts 5 = .ok (.aload_n 0, 1) := by decide +kernel
theorem dX5_lowerCosts_6 : decode cX5_lowerCosts 6 = .ok (.getfield 9, 3) := by decide +kernel
theorem dX5_lowerCosts_9 : decode cX5_lowerCosts 9 = .ok (.getfield 15, 3) := by decide +kernel
theorem dX5_lowerCosts_12 : decode cX5_lowerCosts 12 = .ok (.if_icmp .ge 92, 3) := by decide +kernel
theorem dX5_lowerCosts_15 : decode cX5_lowerCosts 15 = .ok (.iconst 0, 1) := by decide +kernel
theorem dX5_lowerCosts_16 : decode cX5_lowerCosts 16 = .ok (.istore_n 3, 1) := by decide +kernel
theorem dX5_lowerCosts_17 : decode cX5_lowerCosts 17 = .ok (.iload_n 3, 1) := by decide +kernel
theorem dX5_lowerCosts_18 : decode cX5_lowerCosts 18 = .ok (.aload_n 0, 1) := by decide +kernel
theorem dX5_lowerCosts_19 : decode cX5_lowerCosts 19 = .ok (.getfield 9, 3) := by decide +kernel
theorem dX5_lowerCosts_22 : decode cX5_lowerCosts 22 = .ok (.getfield 15, 3) := by decide +kernel
theorem dX5_lowerCosts_25 : decode cX5_lowerCosts 25 = .ok (.if_icmp .ge 73, 3) := by decide +kernel
theorem dX5_lowerCosts_28 : decode cX5_lowerCosts 28 = .ok (.aload_n 0, 1) := by decide +kernel
theorem dX5_lowerCosts_29 : decode cX5_lowerCosts 29 = .ok (.getfield 30, 3) := by decide +kernel
theorem dX5_lowerCosts_32 : decode cX5_lowerCosts 32 = .ok (.iload_n 2, 1) := by decide +kernel
theorem dX5_lowerCosts_33 : decode cX5_lowerCosts 33 = .ok (.laload, 1) := by decide +kernel
theorem dX5_lowerCosts_34 : decode cX5_lowerCosts 34 = .ok (.ldc2_w 67, 3) := by decide +kernel
theorem dX5_lowerCosts_37 : decode cX5_lowerCosts 37 = .ok (.lcmp, 1) := by decide +kernel
theorem dX5_lowerCosts_38 : decode cX5_lowerCosts 38 = .ok (.ifCond .ge 54, 3) := by decide +kernel
theorem dX5_lowerCosts_41 : decode cX5_lowerCosts 41 = .ok (.aload_n 0, 1) := by decide +kernel
theorem dX5_lowerCosts_42 : decode cX5_lowerCosts 42 = .ok (.getfield 30, 3) := by decide +kernel
theorem dX5_lowerCosts_45 : decode cX5_lowerCosts 45 = .ok (.iload_n 2, 1) := by decide +kernel
theorem dX5_lowerCosts_46 : decode cX5_lowerCosts 46 = .ok (.laload, 1) := by decide +kernel
theorem dX5_lowerCosts_47 : decode cX5_lowerCosts 47 = .ok (.aload_n 0, 1) := by decide +kernel
theorem dX5_lowerCosts_48 : decode cX5_lowerCosts 48 = .ok (.iload_n 2, 1) := by decide +kernel
theorem dX5_lowerCosts_49 : decode cX5_lowerCosts 49 = .ok (.iload_n 3, 1) := by decide +kernel
theorem dX5_lowerCosts_50 : decode cX5_lowerCosts 50 = .ok (.invokevirtual 72, 3) := by decide +kernel
theorem dX5_lowerCosts_53 : decode cX5_lowerCosts 53 = .ok (.ladd, 1) := by decide +kernel
theorem dX5_lowerCosts_54 : decode cX5_lowerCosts 54 = .ok (.aload_n 0, 1) := by decide +kernel
theorem dX5_lowerCosts_55 : decode cX5_lowerCosts 55 = .ok (.getfield 30, 3) := by decide +kernel
theorem dX5_lowerCosts_58 : decode cX5_lowerCosts 58 = .ok (.iload_n 3, 1) := by decide +kernel
theorem dX5_lowerCosts_59 : decode cX5_lowerCosts 59 = .ok (.laload, 1) := by decide +kernel
theorem dX5_lowerCosts_60 : decode cX5_lowerCosts 60 = .ok (.lcmp, 1) := by decide +kernel
theorem dX5_lowerCosts_61 : decode cX5_lowerCosts 61 = .ok (.ifCond .ge 31, 3) := by decide +kernel
theorem dX5_lowerCosts_64 : decode cX5_lowerCosts 64 = .ok (.aload_n 0, 1) := by decide +kernel
theorem dX5_lowerCosts_65 : decode cX5_lowerCosts 65 = .ok (.getfield 30, 3) := by decide +kernel
theorem dX5_lowerCosts_68 : decode cX5_lowerCosts 68 = .ok (.iload_n 3, 1) := by decide +kernel
theorem dX5_lowerCosts_69 : decode cX5_lowerCosts 69 = .ok (.aload_n 0, 1) := by decide +kernel
theorem dX5_lowerCosts_70 : decode cX5_lowerCosts 70 = .ok (.getfield 30, 3) := by decide +kernel
theorem dX5_lowerCosts_73 : decode cX5_lowerCosts 73 = .ok (.iload_n 2, 1) := by decide +kernel
theorem dX5_lowerCosts_74 : decode cX5_lowerCosts 74 = .ok (.laload, 1) := by decide +kernel
theorem dX5_lowerCosts_75 : decode cX5_lowerCosts 75 = .ok (.aload_n 0, 1) := by decide +kernel
theorem dX5_lowerCosts_76 : decode cX5_lowerCosts 76 = .ok (.iload_n 2, 1) := by decide +kernel
theorem dX5_lowerCosts_77 : decode cX5_lowerCosts 77 = .ok (.iload_n 3, 1) := by decide +kernel
theorem dX5_lowerCosts_78 : decode cX5_lowerCosts 78 = .ok (.invokevirtual 72, 3) := by decide +kernel
theorem dX5_lowerCosts_81 : decode cX5_lowerCosts 81 = .ok (.ladd, 1) := by decide +kernel
theorem dX5_lowerCosts_82 : decode cX5_lowerCosts 82 = .ok (.lastore, 1) := by decide +kernel
theorem dX5_lowerCosts_83 : decode cX5_lowerCosts 83 = .ok (.aload_n 0, 1) := by decide +kernel
theorem dX5_lowerCosts_84 : decode cX5_lowerCosts 84 = .ok (.getfield 34, 3) := by decide +kernel
theorem dX5_lowerCosts_87 : decode cX5_lowerCosts 87 = .ok (.iload_n 3, 1) := by decide +kernel
theorem dX5_lowerCosts_88 : decode cX5_lowerCosts 88 = .ok (.iload_n 2, 1) := by decide +kernel
theorem dX5_lowerCosts_89 : decode cX5_lowerCosts 89 = .ok (.iastore, 1) := by decide +kernel
theorem dX5_lowerCosts_90 : decode cX5_lowerCosts 90 = .ok (.iconst 1, 1) := by decide +kernel
theorem dX5_lowerCosts_91 : decode cX5_lowerCosts 91 = .ok (.istore_n 1, 1) := by decide +kernel
theorem dX5_lowerCosts_92 : decode cX5_lowerCosts 92 = .ok (.iinc 3 1, 3) := by decide +kernel
theorem dX5_lowerCosts_95 : decode cX5_lowerCosts 95 = .ok (.goto (-78), 3) := by decide +kernel
theorem dX5_lowerCosts_98 : decode cX5_lowerCosts 98 = .ok (.iinc 2 1, 3) := by decide +kernel
theorem dX5_lowerCosts_101 : decode cX5_lowerCosts 101 = .ok (.goto (-97), 3) := by decide +kernel
theorem dX5_lowerCosts_104 : decode cX5_lowerCosts 104 = .ok (.iload_n 1, 1) := by decide +kernel
theorem dX5_lowerCosts_105 : decode cX5_lowerCosts 105 = .ok (.ireturn, 1) := by decide +kernel
theorem dX5_costOfStep_0 : decode cX5_costOfStep 0 = .ok (.aload_n 0, 1) := by decide +kernel
theorem dX5_costOfStep_1 : decode cX5_costOfStep 1 = .ok (.getfield 23, 3) := by decide +kernel
theorem dX5_costOfStep_4 : decode cX5_costOfStep 4 = .ok (.iload_n 2, 1) := by decide +kernel
theorem dX5_costOfStep_5 : decode cX5_costOfStep 5 = .ok (.aaload, 1) := by decide +kernel
theorem dX5_costOfStep_6 : decode cX5_costOfStep 6 = .ok (.iload_n 1, 1) := by decide +kernel
theorem dX5_costOfStep_7 : decode cX5_costOfStep 7 = .ok (.iaload, 1) := by decide +kernel
theorem dX5_costOfStep_8 : decode cX5_costOfStep 8 = .ok (.ifCond .le 17, 3) := by decide +kernel
theorem dX5_costOfStep_11 : decode cX5_costOfStep 11 = .ok (.aload_n 0, 1) := by decide +kernel
theorem dX5_costOfStep_12 : decode cX5_costOfStep 12 = .ok (.getfield 9, 3) := by decide +kernel
theorem dX5_costOfStep_15 : decode cX5_costOfStep 15 = .ok (.getfield 64, 3) := by decide +kernel
theorem dX5_costOfStep_18 : decode cX5_costOfStep 18 = .ok (.iload_n 2, 1) := by decide +kernel
theorem dX5_costOfStep_19 : decode cX5_costOfStep 19 = .ok (.aaload, 1) := by decide +kernel
theorem dX5_costOfStep_20 : decode cX5_costOfStep 20 = .ok (.iload_n 1, 1) := by decide +kernel
theorem dX5_costOfStep_21 : decode cX5_costOfStep 21 = .ok (.iaload, 1) := by decide +kernel
theorem dX5_costOfStep_22 : decode cX5_costOfStep 22 = .ok (.ineg, 1) := by decide +kernel
theorem dX5_costOfStep_23 : decode cX5_costOfStep 23 = .ok (.i2l, 1) := by decide +kernel
theorem dX5_costOfStep_24 : decode cX5_costOfStep 24 = .ok (.lreturn, 1) := by decide +kernel
theorem dX5_costOfStep_25 : decode cX5_costOfStep 25 = .ok (.aload_n 0, 1) := by decide +kernel
theorem dX5_costOfStep_26 : decode cX5_costOfStep 26 = .ok (.getfield 9, 3) := by decide +kernel
theorem dX5_costOfStep_29 : decode cX5_costOfStep 29 = .ok (.getfield 64, 3) := by decide +kernel
theorem dX5_costOfStep_32 : decode cX5_costOfStep 32 = .ok (.iload_n 1, 1) := by decide +kernel
theorem dX5_costOfStep_33 : decode cX5_costOfStep 33 = .ok (.aaload, 1) := by decide +kernel
theorem dX5_costOfStep_34 : decode cX5_costOfStep 34 = .ok (.iload_n 2, 1) := by decide +kernel
theorem dX5_costOfStep_35 : decode cX5_costOfStep 35 = .ok (.iaload, 1) := by decide +kernel
theorem dX5_costOfStep_36 : decode cX5_costOfStep 36 = .ok (.iconst (-1), 1) := by decide +kernel
theorem dX5_costOfStep_37 : decode cX5_costOfStep 37 = .ok (.if_icmp .ne 9, 3) := by decide +kernel
theorem dX5_costOfStep_40 : decode cX5_costOfStep 40 = .ok (.ldc2_w 67, 3) := by decide +kernel
theorem dX5_costOfStep_43 : decode cX5_costOfStep 43 = .ok (.goto 15, 3) := by decide +kernel
theorem dX5_costOfStep_46 : decode cX5_costOfStep 46 = .ok (.aload_n 0, 1) := by decide +kernel
theorem dX5_costOfStep_47 : decode cX5_costOfStep 47 = .ok (.getfield 9, 3) := by decide +kernel
theorem dX5_costOfStep_50 : decode cX5_costOfStep 50 = .ok (.getfield 64, 3) := by decide +kernel
theorem dX5_costOfStep_53 : decode cX5_costOfStep 53 = .ok (.iload_n 1, 1) := by decide +kernel
theorem dX5_costOfStep_54 : decode cX5_costOfStep 54 = .ok (.aaload, 1) := by decide +kernel
theorem dX5_costOfStep_55 : decode cX5_costOfStep 55 = .ok (.iload_n 2, 1) := by decide +kernel
theorem dX5_costOfStep_56 : decode cX5_costOfStep 56 = .ok (.iaload, 1) := by decide +kernel
theorem dX5_costOfStep_57 : decode cX5_costOfStep 57 = .ok (.i2l, 1) := by decide +kernel
theorem dX5_costOfStep_58 : decode cX5_costOfStep 58 = .ok (.lreturn, 1) := by decide +kernel
theorem dX5_cheapestEnd_0 : decode cX5_cheapestEnd 0 = .ok (.iconst (-1), 1) := by decide +kernel
theorem dX5_cheapestEnd_1 : decode cX5_cheapestEnd 1 = .ok (.istore_n 1, 1) := by decide +kernel
theorem dX5_cheapestEnd_2 : decode cX5_cheapestEnd 2 = .ok (.iconst 0, 1) := by decide +kernel
theorem dX5_cheapestEnd_3 : decode cX5_cheapestEnd 3 = .ok (.istore_n 2, 1) := by decide +kernel
theorem dX5_cheapestEnd_4 : decode cX5_cheapestEnd 4 = .ok (.iload_n 2, 1) := by decide +kernel
theorem dX5_cheapestEnd_5 : decode cX5_cheapestEnd 5 = .ok (.aload_n 0, 1) := by decide +kernel
theorem dX5_cheapestEnd_6 : decode cX5_cheapestEnd 6 = .ok (.getfield 9, 3) := by decide +kernel
theorem dX5_cheapestEnd_9 : decode cX5_cheapestEnd 9 = .ok (.getfield 15, 3) := by decide +kernel
theorem dX5_cheapestEnd_12 : decode cX5_cheapestEnd 12 = .ok (.if_icmp .ge 54, 3) := by decide +kernel
theorem dX5_cheapestEnd_15 : decode cX5_cheapestEnd 15 = .ok (.aload_n 0, 1) := by decide +kernel
theorem dX5_cheapestEnd_16 : decode cX5_cheapestEnd 16 = .ok (.getfield 26, 3) := by decide +kernel
theorem dX5_cheapestEnd_19 : decode cX5_cheapestEnd 19 = .ok (.iload_n 2, 1) := by decide +kernel
theorem dX5_cheapestEnd_20 : decode cX5_cheapestEnd 20 = .ok (.iaload, 1) := by decide +kernel
theorem dX5_cheapestEnd_21 : decode cX5_cheapestEnd 21 = .ok (.ifCond .ge 39, 3) := by decide +kernel
theorem dX5_cheapestEnd_24 : decode cX5_cheapestEnd 24 = .ok (.aload_n 0, 1) := by decide +kernel
theorem dX5_cheapestEnd_25 : decode cX5_cheapestEnd 25 = .ok (.getfield 30, 3) := by decide +kernel
theorem dX5_cheapestEnd_28 : decode cX5_cheapestEnd 28 = .ok (.iload_n 2, 1) := by decide +kernel
theorem dX5_cheapestEnd_29 : decode cX5_cheapestEnd 29 = .ok (.laload, 1) := by decide +kernel
theorem dX5_cheapestEnd_30 : decode cX5_cheapestEnd 30 = .ok (.ldc2_w 67, 3) := by decide +kernel
theorem dX5_cheapestEnd_33 : decode cX5_cheapestEnd 33 = .ok (.lcmp, 1) := by decide +kernel
theorem dX5_cheapestEnd_34 : decode cX5_cheapestEnd 34 = .ok (.ifCond .ge 26, 3) := by decide +kernel
theorem dX5_cheapestEnd_37 : decode cX5_cheapestEnd 37 = .ok (.iload_n 1, 1) := by decide +kernel
theorem dX5_cheapestEnd_38 : decode cX5_cheapestEnd 38 = .ok (.iconst (-1), 1) := by decide +kernel
theorem dX5_cheapestEnd_39 : decode cX5_cheapestEnd 39 = .ok (.if_icmp .eq 19, 3) := by decide +kernel
theorem dX5_cheapestEnd_42 : decode cX5_cheapestEnd 42 = .ok (.aload_n 0, 1) := by decide +kernel
theorem dX5_cheapestEnd_43 : decode cX5_cheapestEnd 43 = .ok (.getfield 30, 3) := by decide +kernel
theorem dX5_cheapestEnd_46 : decode cX5_cheapestEnd 46 = .ok (.iload_n 2, 1) := by decide +kernel
theorem dX5_cheapestEnd_47 : decode cX5_cheapestEnd 47 = .ok (.laload, 1) := by decide +kernel
theorem dX5_cheapestEnd_48 : decode cX5_cheapestEnd 48 = .ok (.aload_n 0, 1) := by decide +kernel
theorem dX5_cheapestEnd_49 : decode cX5_cheapestEnd 49 = .ok (.getfield 30, 3) := by decide +kernel
theorem dX5_cheapestEnd_52 : decode cX5_cheapestEnd 52 = .ok (.iload_n 1, 1) := by decide +kernel
theorem dX5_cheapestEnd_53 : decode cX5_cheapestEnd 53 = .ok (.laload, 1) := by decide +kernel
theorem dX5_cheapestEnd_54 : decode cX5_cheapestEnd 54 = .ok (.lcmp, 1) := by decide +kernel
theorem dX5_cheapestEnd_55 : decode cX5_cheapestEnd 55 = .ok (.ifCond .ge 5, 3) := by decide +kernel
theorem dX5_cheapestEnd_58 : decode cX5_cheapestEnd 58 = .ok (.iload_n 2, 1) := by decide +kernel
theorem dX5_cheapestEnd_59 : decode cX5_cheapestEnd 59 = .ok (.istore_n 1, 1) := by decide +kernel
theorem dX5_cheapestEnd_60 : decode cX5_cheapestEnd 60 = .ok (.iinc 2 1, 3) := by decide +kernel
theorem dX5_cheapestEnd_63 : decode cX5_cheapestEnd 63 = .ok (.goto (-59), 3) := by decide +kernel
theorem dX5_cheapestEnd_66 : decode cX5_cheapestEnd 66 = .ok (.iload_n 1, 1) := by decide +kernel
theorem dX5_cheapestEnd_67 : decode cX5_cheapestEnd 67 = .ok (.ireturn, 1) := by decide +kernel
theorem dX5_goTo_0 : decode cX5_goTo 0 = .ok (.iload_n 1, 1) := by decide +kernel
theorem dX5_goTo_1 : decode cX5_goTo 1 = .ok (.istore_n 2, 1) := by decide +kernel
theorem dX5_goTo_2 : decode cX5_goTo 2 = .ok (.iconst 0, 1) := by decide +kernel
theorem dX5_goTo_3 : decode cX5_goTo 3 = .ok (.istore_n 3, 1) := by decide +kernel
theorem dX5_goTo_4 : decode cX5_goTo 4 = .ok (.iload_n 3, 1) := by decide +kernel
theorem dX5_goTo_5 : decode cX5_goTo 5 = .ok (.aload_n 0, 1) := by decide +kernel
theorem dX5_goTo_6 : decode cX5_goTo 6 = .ok (.getfield 9, 3) := by decide +kernel
theorem dX5_goTo_9 : decode cX5_goTo 9 = .ok (.getfield 15, 3) := by decide +kernel
theorem dX5_goTo_12 : decode cX5_goTo 12 = .ok (.if_icmp .ge 71, 3) := by decide +kernel
theorem dX5_goTo_15 : decode cX5_goTo 15 = .ok (.aload_n 0, 1) := by decide +kernel
theorem dX5_goTo_16 : decode cX5_goTo 16 = .ok (.getfield 34, 3) := by decide +kernel
theorem dX5_goTo_19 : decode cX5_goTo 19 = .ok (.iload_n 2, 1) := by decide +kernel
theorem dX5_goTo_20 : decode cX5_goTo 20 = .ok (.iaload, 1) := by decide +kernel
theorem dX5_goTo_21 : decode cX5_goTo 21 = .ok (.iconst (-1), 1) := by decide +kernel
theorem dX5_goTo_22 : decode cX5_goTo 22 = .ok (.if_icmp .eq 61, 3) := by decide +kernel
theorem dX5_goTo_25 : decode cX5_goTo 25 = .ok (.aload_n 0, 1) := by decide +kernel
theorem dX5_goTo_26 : decode cX5_goTo 26 = .ok (.getfield 34, 3) := by decide +kernel
theorem dX5_goTo_29 : decode cX5_goTo 29 = .ok (.iload_n 2, 1) := by decide +kernel
theorem dX5_goTo_30 : decode cX5_goTo 30 = .ok (.iaload, 1) := by decide +kernel
theorem dX5_goTo_31 : decode cX5_goTo 31 = .ok (.istore 4, 2) := by decide +kernel
theorem dX5_goTo_33 : decode cX5_goTo 33 = .ok (.aload_n 0, 1) := by decide +kernel
theorem dX5_goTo_34 : decode cX5_goTo 34 = .ok (.getfield 23, 3) := by decide +kernel
theorem dX5_goTo_37 : decode cX5_goTo 37 = .ok (.iload_n 2, 1) := by decide +kernel
theorem dX5_goTo_38 : decode cX5_goTo 38 = .ok (.aaload, 1) := by decide +kernel
theorem dX5_goTo_39 : decode cX5_goTo 39 = .ok (.iload 4, 2) := by decide +kernel
theorem dX5_goTo_41 : decode cX5_goTo 41 = .ok (.iaload, 1) := by decide +kernel
theorem dX5_goTo_42 : decode cX5_goTo 42 = .ok (.ifCond .le 19, 3) := by decide +kernel
theorem dX5_goTo_45 : decode cX5_goTo 45 = .ok (.aload_n 0, 1) := by decide +kernel
theorem dX5_goTo_46 : decode cX5_goTo 46 = .ok (.getfield 23, 3) := by decide +kernel
theorem dX5_goTo_49 : decode cX5_goTo 49 = .ok (.iload_n 2, 1) := by decide +kernel
theorem dX5_goTo_50 : decode cX5_goTo 50 = .ok (.aaload, 1) := by decide +kernel
theorem dX5_goTo_51 : decode cX5_goTo 51 = .ok (.iload 4, 2) := by decide +kernel
theorem dX5_goTo_53 : decode cX5_goTo 53 = .ok (.dup2, 1) := by decide +kernel
theorem dX5_goTo_54 : decode cX5_goTo 54 = .ok (.iaload, 1) := by decide +kernel
theorem dX5_goTo_55 : decode cX5_goTo 55 = .ok (.iconst 1, 1) := by decide +kernel
theorem dX5_goTo_56 : decode cX5_goTo 56 = .ok (.isub, 1) := by decide +kernel
theorem dX5_goTo_57 : decode cX5_goTo 57 = .ok (.iastore, 1) := by decide +kernel
theorem dX5_goTo_58 : decode cX5_goTo 58 = .ok (.goto 16, 3) := by decide +kernel
theorem dX5_goTo_61 : decode cX5_goTo 61 = .ok (.aload_n 0, 1) := by decide +kernel
theorem dX5_goTo_62 : decode cX5_goTo 62 = .ok (.getfield 23, 3) := by decide +kernel
theorem dX5_goTo_65 : decode cX5_goTo 65 = .ok (.iload 4, 2) := by decide +kernel
theorem dX5_goTo_67 : decode cX5_goTo 67 = .ok (.aaload, 1) := by decide +kernel
theorem dX5_goTo_68 : decode cX5_goTo 68 = .ok (.iload_n 2, 1) := by decide +kernel
theorem dX5_goTo_69 : decode cX5_goTo 69 = .ok (.dup2, 1) := by decide +kernel
theorem dX5_goTo_70 : decode cX5_goTo 70 = .ok (.iaload, 1) := by decide +kernel
theorem dX5_goTo_71 : decode cX5_goTo 71 = .ok (.iconst 1, 1) := by decide +kernel
theorem dX5_goTo_72 : decode cX5_goTo 72 = .ok (.iadd, 1) := by decide +kernel
theorem dX5_goTo_73 : decode cX5_goTo 73 = .ok (.iastore, 1) := by decide +kernel
theorem dX5_goTo_74 : decode cX5_goTo 74 = .ok (.iload 4, 2) := by decide +kernel
theorem dX5_goTo_76 : decode cX5_goTo 76 = .ok (.istore_n 2, 1) := by decide +kernel
theorem dX5_goTo_77 : decode cX5_goTo 77 = .ok (.iinc 3 1, 3) := by decide +kernel
theorem dX5_goTo_80 : decode cX5_goTo 80 = .ok (.goto (-76), 3) := by decide +kernel
theorem dX5_goTo_83 : decode cX5_goTo 83 = .ok (.aload_n 0, 1) := by decide +kernel
theorem dX5_goTo_84 : decode cX5_goTo 84 = .ok (.getfield 26, 3) := by decide +kernel
theorem dX5_goTo_87 : decode cX5_goTo 87 = .ok (.iload_n 2, 1) := by decide +kernel
theorem dX5_goTo_88 : decode cX5_goTo 88 = .ok (.dup2, 1) := by decide +kernel
theorem dX5_goTo_89 : decode cX5_goTo 89 = .ok (.iaload, 1) := by decide +kernel
theorem dX5_goTo_90 : decode cX5_goTo 90 = .ok (.iconst 1, 1) := by decide +kernel
theorem dX5_goTo_91 : decode cX5_goTo 91 = .ok (.isub, 1) := by decide +kernel
theorem dX5_goTo_92 : decode cX5_goTo 92 = .ok (.iastore, 1) := by decide +kernel
theorem dX5_goTo_93 : decode cX5_goTo 93 = .ok (.aload_n 0, 1) := by decide +kernel
theorem dX5_goTo_94 : decode cX5_goTo 94 = .ok (.getfield 26, 3) := by decide +kernel
theorem dX5_goTo_97 : decode cX5_goTo 97 = .ok (.iload_n 1, 1) := by decide +kernel
theorem dX5_goTo_98 : decode cX5_goTo 98 = .ok (.dup2, 1) := by decide +kernel
theorem dX5_goTo_99 : decode cX5_goTo 99 = .ok (.iaload, 1) := by decide +kernel
theorem dX5_goTo_100 : decode cX5_goTo 100 = .ok (.iconst 1, 1) := by decide +kernel
theorem dX5_goTo_101 : decode cX5_goTo 101 = .ok (.iadd, 1) := by decide +kernel
theorem dX5_goTo_102 : decode cX5_goTo 102 = .ok (.iastore, 1) := by decide +kernel
theorem dX5_goTo_103 : decode cX5_goTo 103 = .ok (.return_, 1) := by decide +kernel
set_option maxRecDepth 20000 in
theorem ggX6_init_X3_init : GoodIn wsX6_init wsX3_init := goodIn_r _ [40, 41, 2, 3, 42, 43, 35, 44, 45, 46, 47, 48, 49, 104, 105, 106] (by decide +kernel) (by decide +kernel)
set_option maxRecDepth 20000 in
theorem gX6_init_X3_init : GoodIn wsX6_init (wsX3_init) := ggX6_init_X3_init
set_option maxRecDepth 20000 in
theorem ggX6_init_X2_init : GoodIn wsX6_init wsX2_init := goodIn_r _ [52, 53, 2, 3, 54, 35, 55, 56, 57, 58, 59, 115, 116, 117, 118, 119, 120, 104, 105, 106] (by decide +kernel) (by decide +kernel)
set_option maxRecDepth 20000 in
theorem gX6_init_X2_init : GoodIn wsX6_init (wsX2_init) := ggX6_init_X2_init
set_option maxRecDepth 20000 in
theorem ggX6_init_X0_init : GoodIn wsX6_init wsX0_init := goodIn_r _ [62, 63, 2, 3, 64, 65, 66, 67, 68, 35, 69, 70, 71, 72, 121, 122, 123, 124, 125, 126, 127, 104, 105, 106] (by decide +kernel) (by decide +kernel)
set_option maxRecDepth 20000 in
theorem gX6_init_X0_init : GoodIn wsX6_init (wsX0_init) := ggX6_init_X0_init
set_option maxRecDepth 20000 in
theorem ggX6_init_X1_init : GoodIn wsX6_init wsX1_init := goodIn_r _ [75, 76, 2, 3, 77, 78, 35, 79, 80, 81, 128, 129, 130, 131, 104, 105, 106] (by decide +kernel) (by decide +kernel)
set_option maxRecDepth 20000 in
theorem gX6_init_X1_init : GoodIn wsX6_init (wsX1_init) := ggX6_init_X1_init
set_option maxRecDepth 20000 in
theorem ggX6_init_X4_init : GoodIn wsX6_init wsX4_init := goodIn_r _ [84, 85, 2, 3, 86, 87, 35, 88, 89, 90, 91, 92, 93, 132, 133, 134, 135, 136, 137, 138, 104, 105, 106] (by decide +kernel) (by decide +kernel)
set_option maxRecDepth 20000 in
theorem gX6_init_X4_init : GoodIn wsX6_init (wsX4_init) := ggX6_init_X4_init
set_option maxRecDepth 20000 in
theorem ggX6_init_X5_init : GoodIn wsX6_init wsX5_init := goodIn_r _ [96, 97, 2, 3, 98, 99, 35, 100, 101, 65, 102, 103, 139, 140, 141, 142, 143, 104, 105, 106] (by decide +kernel) (by decide +kernel)
set_option maxRecDepth 20000 in
theorem gX6_init_X5_init : GoodIn wsX6_init (wsX5_init) := ggX6_init_X5_init
theorem dX6_init_0 : decode cX6_init 0 = .ok (.aload_n 0, 1) := by decide +kernel
theorem dX6_init_1 : decode cX6_init 1 = .ok (.invokespecial 1, 3) := by decide +kernel
theorem dX6_init_4 : decode cX6_init 4 = .ok (.iconst 3, 1) := by decide +kernel
theorem dX6_init_5 : decode cX6_init 5 = .ok (.bipush 12, 2) := by decide +kernel
theorem dX6_init_7 : decode cX6_init 7 = .ok (.iload_n 1, 1) := by decide +kernel
theorem dX6_init_8 : decode cX6_init 8 = .ok (.invokestatic 9, 3) := by decide +kernel
theorem dX6_init_11 : decode cX6_init 11 = .ok (.invokestatic 15, 3) := by decide +kernel
theorem dX6_init_14 : decode cX6_init 14 = .ok (.istore_n 2, 1) := by decide +kernel
theorem dX6_init_15 : decode cX6_init 15 = .ok (.aload_n 0, 1) := by decide +kernel
theorem dX6_init_16 : decode cX6_init 16 = .ok (.new 18, 3) := by decide +kernel
theorem dX6_init_19 : decode cX6_init 19 = .ok (.dup, 1) := by decide +kernel
theorem dX6_init_20 : decode cX6_init 20 = .ok (.iload_n 2, 1) := by decide +kernel
theorem dX6_init_21 : decode cX6_init 21 = .ok (.invokespecial 20, 3) := by decide +kernel
theorem dX6_init_24 : decode cX6_init 24 = .ok (.putfield 23, 3) := by decide +kernel
theorem dX6_init_27 : decode cX6_init 27 = .ok (.aload_n 0, 1) := by decide +kernel
theorem dX6_init_28 : decode cX6_init 28 = .ok (.new 27, 3) := by decide +kernel
theorem dX6_init_31 : decode cX6_init 31 = .ok (.dup, 1) := by decide +kernel
theorem dX6_init_32 : decode cX6_init 32 = .ok (.aload_n 0, 1) := by decide +kernel
theorem dX6_init_33 : decode cX6_init 33 = .ok (.getfield 23, 3) := by decide +kernel
theorem dX6_init_36 : decode cX6_init 36 = .ok (.invokespecial 29, 3) := by decide +kernel
theorem dX6_init_39 : decode cX6_init 39 = .ok (.putfield 32, 3) := by decide +kernel
theorem dX6_init_42 : decode cX6_init 42 = .ok (.aload_n 0, 1) := by decide +kernel
theorem dX6_init_43 : decode cX6_init 43 = .ok (.new 36, 3) := by decide +kernel
theorem dX6_init_46 : decode cX6_init 46 = .ok (.dup, 1) := by decide +kernel
theorem dX6_init_47 : decode cX6_init 47 = .ok (.aload_n 0, 1) := by decide +kernel
theorem dX6_init_48 : decode cX6_init 48 = .ok (.getfield 23, 3) := by decide +kernel
theorem dX6_init_51 : decode cX6_init 51 = .ok (.invokespecial 38, 3) := by decide +kernel
theorem dX6_init_54 : decode cX6_init 54 = .ok (.putfield 39, 3) := by decide +kernel
theorem dX6_init_57 : decode cX6_init 57 = .ok (.aload_n 0, 1) := by decide +kernel
theorem dX6_init_58 : decode cX6_init 58 = .ok (.new 43, 3) := by decide +kernel
theorem dX6_init_61 : decode cX6_init 61 = .ok (.dup, 1) := by decide +kernel
theorem dX6_init_62 : decode cX6_init 62 = .ok (.aload_n 0, 1) := by decide +kernel
theorem dX6_init_63 : decode cX6_init 63 = .ok (.getfield 23, 3) := by decide +kernel
theorem dX6_init_66 : decode cX6_init 66 = .ok (.invokespecial 45, 3) := by decide +kernel
theorem dX6_init_69 : decode cX6_init 69 = .ok (.putfield 46, 3) := by decide +kernel
theorem dX6_init_72 : decode cX6_init 72 = .ok (.aload_n 0, 1) := by decide +kernel
theorem dX6_init_73 : decode cX6_init 73 = .ok (.new 50, 3) := by decide +kernel
theorem dX6_init_76 : decode cX6_init 76 = .ok (.dup, 1) := by decide +kernel
theorem dX6_init_77 : decode cX6_init 77 = .ok (.aload_n 0, 1) := by decide +kernel
theorem dX6_init_78 : decode cX6_init 78 = .ok (.getfield 23, 3) := by decide +kernel
theorem dX6_init_81 : decode cX6_init 81 = .ok (.invokespecial 52, 3) := by decide +kernel
theorem dX6_init_84 : decode cX6_init 84 = .ok (.putfield 53, 3) := by decide +kernel
theorem dX6_init_87 : decode cX6_init 87 = .ok (.aload_n 0, 1) := by decide +kernel
theorem dX6_init_88 : decode cX6_init 88 = .ok (.new 57, 3) := by decide +kernel
theorem dX6_init_91 : decode cX6_init 91 = .ok (.dup, 1) := by decide +kernel
theorem dX6_init_92 : decode cX6_init 92 = .ok (.aload_n 0, 1) := by decide +kernel
theorem dX6_init_93 : decode cX6_init 93 = .ok (.getfield 23, 3) := by decide +kernel
theorem dX6_init_96 : decode cX6_init 96 = .ok (.invokespecial 59, 3) := by decide +kernel
theorem dX6_init_99 : decode cX6_init 99 = .ok (.putfield 60, 3) := by decide +kernel
theorem dX6_init_102 : decode cX6_init 102 = .ok (.aload_n 0, 1) := by decide +kernel
theorem dX6_init_103 : decode cX6_init 103 = .ok (.iload_n 2, 1) := by decide +kernel
theorem dX6_init_104 : decode cX6_init 104 = .ok (.newarray .int, 2) := by decide +kernel
theorem dX6_init_106 : decode cX6_init 106 = .ok (.putfield 64, 3) := by decide +kernel
theorem dX6_init_109 : decode cX6_init 109 = .ok (.aload_n 0, 1) := by decide +kernel
theorem dX6_init_110 : decode cX6_init 110 = .ok (.iconst 0, 1) := by decide +kernel
theorem dX6_init_111 : decode cX6_init 111 = .ok (.putfield 68, 3) := by decide +kernel
theorem dX6_init_114 : decode cX6_init 114 = .ok (.return_, 1) := by decide +kernel
set_option maxRecDepth 20000 in
theorem ggX6_way_X3_has : GoodIn wsX6_way wsX3_has := goodIn_r _ [10, 11, 42, 43, 44] (by decide +kernel) (by decide +kernel)
set_option maxRecDepth 20000 in
theorem gX6_way_X3_has : GoodIn wsX6_way (wsV RX6 72 RX3 yX3_has wsX3_has) := goodIn_app (goodIn_of _ (by decide +kernel)) ggX6_way_X3_has
set_option maxRecDepth 20000 in
theorem ggX6_way_X3_tell : GoodIn wsX6_way wsX3_tell := goodIn_r _ [15, 16, 17, 18, 19, 9, 20, 21, 22, 23, 24, 25, 26, 27, 42, 43, 44] (by decide +kernel) (by decide +kernel)
set_option maxRecDepth 20000 in
theorem gX6_way_X3_tell : GoodIn wsX6_way (wsV RX6 85 RX3 yX3_tell wsX3_tell) := goodIn_app (goodIn_of _ (by decide +kernel)) ggX6_way_X3_tell
theorem dX6_way_0 : decode cX6_way 0 = .ok (.aload_n 0, 1) := by decide +kernel
theorem dX6_way_1 : decode cX6_way 1 = .ok (.getfield 23, 3) := by decide +kernel
theorem dX6_way_4 : decode cX6_way 4 = .ok (.iload_n 1, 1) := by decide +kernel
theorem dX6_way_5 : decode cX6_way 5 = .ok (.invokevirtual 72, 3) := by decide +kernel
theorem dX6_way_8 : decode cX6_way 8 = .ok (.ifCond .eq 14, 3) := by decide +kernel
theorem dX6_way_11 : decode cX6_way 11 = .ok (.aload_n 0, 1) := by decide +kernel
theorem dX6_way_12 : decode cX6_way 12 = .ok (.getfield 23, 3) := by decide +kernel
theorem dX6_way_15 : decode cX6_way 15 = .ok (.iload_n 2, 1) := by decide +kernel
theorem dX6_way_16 : decode cX6_way 16 = .ok (.invokevirtual 72, 3) := by decide +kernel
theorem dX6_way_19 : decode cX6_way 19 = .ok (.ifCond .ne 13, 3) := by decide +kernel
theorem dX6_way_22 : decode cX6_way 22 = .ok (.new 76, 3) := by decide +kernel
theorem dX6_way_25 : decode cX6_way 25 = .ok (.dup, 1) := by decide +kernel
theorem dX6_way_26 : decode cX6_way 26 = .ok (.ldc 78, 2) := by decide +kernel
theorem dX6_way_28 : decode cX6_way 28 = .ok (.invokespecial 80, 3) := by decide +kernel
theorem dX6_way_31 : decode cX6_way 31 = .ok (.athrow, 1) := by decide +kernel
theorem dX6_way_32 : decode cX6_way 32 = .ok (.iload_n 1, 1) := by decide +kernel
theorem dX6_way_33 : decode cX6_way 33 = .ok (.iload_n 2, 1) := by decide +kernel
theorem dX6_way_34 : decode cX6_way 34 = .ok (.if_icmp .eq 32, 3) := by decide +kernel
theorem dX6_way_37 : decode cX6_way 37 = .ok (.aload_n 0, 1) := by decide +kernel
theorem dX6_way_38 : decode cX6_way 38 = .ok (.getfield 23, 3) := by decide +kernel
theorem dX6_way_41 : decode cX6_way 41 = .ok (.iload_n 1, 1) := by decide +kernel
theorem dX6_way_42 : decode cX6_way 42 = .ok (.iload_n 2, 1) := by decide +kernel
theorem dX6_way_43 : decode cX6_way 43 = .ok (.lload_n 3, 1) := by decide +kernel
theorem dX6_way_44 : decode cX6_way 44 = .ok (.lconst 0, 1) := by decide +kernel
theorem dX6_way_45 : decode cX6_way 45 = .ok (.lcmp, 1) := by decide +kernel
theorem dX6_way_46 : decode cX6_way 46 = .ok (.ifCond .lt 11, 3) := by decide +kernel
theorem dX6_way_49 : decode cX6_way 49 = .ok (.lload_n 3, 1) := by decide +kernel
theorem dX6_way_50 : decode cX6_way 50 = .ok (.ldc2_w 83, 3) := by decide +kernel
theorem dX6_way_53 : decode cX6_way 53 = .ok (.lcmp, 1) := by decide +kernel
theorem dX6_way_54 : decode cX6_way 54 = .ok (.ifCond .le 7, 3) := by decide +kernel
theorem dX6_way_57 : decode cX6_way 57 = .ok (.iconst (-1), 1) := by decide +kernel
theorem dX6_way_58 : decode cX6_way 58 = .ok (.goto 5, 3) := by decide +kernel
theorem dX6_way_61 : decode cX6_way 61 = .ok (.lload_n 3, 1) := by decide +kernel
theorem dX6_way_62 : decode cX6_way 62 = .ok (.l2i, 1) := by decide +kernel
theorem dX6_way_63 : decode cX6_way 63 = .ok (.invokevirtual 85, 3) := by decide +kernel
theorem dX6_way_66 : decode cX6_way 66 = .ok (.return_, 1) := by decide +kernel
set_option maxRecDepth 20000 in
theorem ggX6_tree_X2_bound : GoodIn wsX6_tree wsX2_bound := goodIn_r _ [14, 15, 16, 17, 18, 19, 20, 21, 22, 23, 24, 25, 26, 13, 27, 28, 29, 30, 31, 32, 33, 34, 35, 36, 37, 38, 39, 40, 41, 42, 43, 44, 45, 46, 47, 48, 49, 50, 51, 52, 53, 54, 55, 56, 57, 66, 67, 68, 69, 70, 71, 72, 73, 74] (by decide +kernel) (by decide +kernel)
set_option maxRecDepth 20000 in
theorem gX6_tree_X2_bound : GoodIn wsX6_tree (wsV RX6 89 RX2 yX2_bound wsX2_bound) := goodIn_app (goodIn_of _ (by decide +kernel)) ggX6_tree_X2_bound
theorem dX6_tree_0 : decode cX6_tree 0 = .ok (.aload_n 0, 1) := by decide +kernel
theorem dX6_tree_1 : decode cX6_tree 1 = .ok (.getfield 32, 3) := by decide +kernel
theorem dX6_tree_4 : decode cX6_tree 4 = .ok (.iconst 1, 1) := by decide +kernel
theorem dX6_tree_5 : decode cX6_tree 5 = .ok (.bipush 50, 2) := by decide +kernel
theorem dX6_tree_7 : decode cX6_tree 7 = .ok (.iload_n 1, 1) := by decide +kernel
theorem dX6_tree_8 : decode cX6_tree 8 = .ok (.invokestatic 9, 3) := by decide +kernel
theorem dX6_tree_11 : decode cX6_tree 11 = .ok (.invokestatic 15, 3) := by decide +kernel
theorem dX6_tree_14 : decode cX6_tree 14 = .ok (.invokevirtual 89, 3) := by decide +kernel
theorem dX6_tree_17 : decode cX6_tree 17 = .ok (.lstore_n 2, 1) := by decide +kernel
theorem dX6_tree_18 : decode cX6_tree 18 = .ok (.aload_n 0, 1) := by decide +kernel
theorem dX6_tree_19 : decode cX6_tree 19 = .ok (.aload_n 0, 1) := by decide +kernel
theorem dX6_tree_20 : decode cX6_tree 20 = .ok (.getfield 32, 3) := by decide +kernel
theorem dX6_tree_23 : decode cX6_tree 23 = .ok (.getfield 93, 3) := by decide +kernel
theorem dX6_tree_26 : decode cX6_tree 26 = .ok (.putfield 68, 3) := by decide +kernel
theorem dX6_tree_29 : decode cX6_tree 29 = .ok (.lload_n 2, 1) := by decide +kernel
theorem dX6_tree_30 : decode cX6_tree 30 = .ok (.lreturn, 1) := by decide +kernel
theorem dX6_rounds_0 : decode cX6_rounds 0 = .ok (.aload_n 0, 1) := by decide +kernel
theorem dX6_rounds_1 : decode cX6_rounds 1 = .ok (.getfield 68, 3) := by decide +kernel
theorem dX6_rounds_4 : decode cX6_rounds 4 = .ok (.ireturn, 1) := by decide +kernel
set_option maxRecDepth 20000 in
theorem ggX6_assign_X0_leastSum : GoodIn wsX6_assign wsX0_leastSum := goodIn_r _ [6, 7, 8, 9, 10, 11, 12, 13, 14, 15, 16, 17, 18, 19, 20, 5, 21, 22, 23, 24, 25, 26, 27, 28, 29, 30, 31, 32, 33, 34, 35, 36, 37, 38, 39, 40, 41, 42, 43, 44, 45, 46, 47, 48, 49, 50, 51, 60, 61, 62, 63, 64, 65, 66, 67, 68, 69] (by decide +kernel) (by decide +kernel)
set_option maxRecDepth 20000 in
theorem gX6_assign_X0_leastSum : GoodIn wsX6_assign (wsV RX6 96 RX0 yX0_leastSum wsX0_leastSum) := goodIn_app (goodIn_of _ (by decide +kernel)) ggX6_assign_X0_leastSum
theorem dX6_assign_0 : decode cX6_assign 0 = .ok (.aload_n 0, 1) := by decide +kernel
theorem dX6_assign_1 : decode cX6_assign 1 = .ok (.getfield 39, 3) := by decide +kernel
theorem dX6_assign_4 : decode cX6_assign 4 = .ok (.invokevirtual 96, 3) := by decide +kernel
theorem dX6_assign_7 : decode cX6_assign 7 = .ok (.lreturn, 1) := by decide +kernel
set_option maxRecDepth 20000 in
theorem ggX6_cut_X3_has : GoodIn wsX6_cut wsX3_has := goodIn_r _ [8, 9, 48, 49, 50] (by decide +kernel) (by decide +kernel)
set_option maxRecDepth 20000 in
theorem gX6_cut_X3_has : GoodIn wsX6_cut (wsV RX6 72 RX3 yX3_has wsX3_has) := goodIn_app (goodIn_of _ (by decide +kernel)) ggX6_cut_X3_has
set_option maxRecDepth 20000 in
theorem ggX6_cut_X1_width : GoodIn wsX6_cut wsX1_width := goodIn_r _ [14, 15, 16, 17, 18, 19, 20, 21, 22, 23, 24, 13, 25, 26, 27, 28, 29, 30, 31, 32, 33, 34, 35, 36, 37, 38, 39, 51, 52, 53, 54, 48, 49, 50] (by decide +kernel) (by decide +kernel)
set_option maxRecDepth 20000 in
theorem gX6_cut_X1_width : GoodIn wsX6_cut (wsV RX6 102 RX1 yX1_width wsX1_width) := goodIn_app (goodIn_of _ (by decide +kernel)) ggX6_cut_X1_width
theorem dX6_cut_0 : decode cX6_cut 0 = .ok (.aload_n 0, 1) := by decide +kernel
theorem dX6_cut_1 : decode cX6_cut 1 = .ok (.getfield 23, 3) := by decide +kernel
theorem dX6_cut_4 : decode cX6_cut 4 = .ok (.iload_n 1, 1) := by decide +kernel
theorem dX6_cut_5 : decode cX6_cut 5 = .ok (.invokevirtual 72, 3) := by decide +kernel
theorem dX6_cut_8 : decode cX6_cut 8 = .ok (.ifCond .eq 19, 3) := by decide +kernel
theorem dX6_cut_11 : decode cX6_cut 11 = .ok (.aload_n 0, 1) := by decide +kernel
theorem dX6_cut_12 : decode cX6_cut 12 = .ok (.getfield 23, 3) := by decide +kernel
theorem dX6_cut_15 : decode cX6_cut 15 = .ok (.iload_n 2, 1) := by decide +kernel
theorem dX6_cut_16 : decode cX6_cut 16 = .ok (.invokevirtual 72, 3) := by decide +kernel
theorem dX6_cut_19 : decode cX6_cut 19 = .ok (.ifCond .eq 8, 3) := by decide +kernel
theorem dX6_cut_22 : decode cX6_cut 22 = .ok (.iload_n 1, 1) := by decide +kernel
theorem dX6_cut_23 : decode cX6_cut 23 = .ok (.iload_n 2, 1) := by decide +kernel
theorem dX6_cut_24 : decode cX6_cut 24 = .ok (.if_icmp .ne 7, 3) := by decide +kernel
theorem dX6_cut_27 : decode cX6_cut 27 = .ok (.ldc2_w 100, 3) := by decide +kernel
theorem dX6_cut_30 : decode cX6_cut 30 = .ok (.lreturn, 1) := by decide +kernel
theorem dX6_cut_31 : decode cX6_cut 31 = .ok (.aload_n 0, 1) := by decide +kernel
theorem dX6_cut_32 : decode cX6_cut 32 = .ok (.getfield 46, 3) := by decide +kernel
theorem dX6_cut_35 : decode cX6_cut 35 = .ok (.iload_n 1, 1) := by decide +kernel
theorem dX6_cut_36 : decode cX6_cut 36 = .ok (.iload_n 2, 1) := by decide +kernel
theorem dX6_cut_37 : decode cX6_cut 37 = .ok (.invokevirtual 102, 3) := by decide +kernel
theorem dX6_cut_40 : decode cX6_cut 40 = .ok (.lreturn, 1) := by decide +kernel
set_option maxRecDepth 20000 in
theorem ggX6_postman_X5_leastWay : GoodIn wsX6_postman wsX5_leastWay := goodIn_r _ [7, 8, 9, 10, 11, 12, 13, 14, 15, 16, 17, 18, 19, 20, 21, 22, 23, 24, 25, 26, 27, 28, 29, 30, 31, 32, 33, 6, 34, 35, 36, 37, 38, 39, 40, 41, 42, 43, 44, 45, 46, 47, 48, 49, 50, 51, 52, 53, 54, 55, 56, 57, 58, 59, 60, 61, 62, 146, 147, 148, 149, 150, 151, 152, 153] (by decide +kernel) (by decide +kernel)
set_option maxRecDepth 20000 in
theorem gX6_postman_X5_leastWay : GoodIn wsX6_postman (wsV RX6 106 RX5 yX5_leastWay wsX5_leastWay) := goodIn_app (goodIn_of _ (by decide +kernel)) ggX6_postman_X5_leastWay
set_option maxRecDepth 20000 in
theorem ggX6_postman_X4_leastWay : GoodIn wsX6_postman wsX4_leastWay := goodIn_r _ [67, 68, 69, 70, 71, 72, 73, 14, 74, 22, 17, 18, 19, 20, 21, 23, 24, 25, 26, 27, 28, 29, 30, 75, 76, 77, 66, 78, 79, 80, 81, 82, 83, 84, 85, 86, 87, 88, 89, 90, 91, 92, 93, 94, 95, 96, 97, 98, 99, 100, 101, 102, 103, 104, 105, 106, 107, 108, 109, 110, 111, 112, 113, 114, 115, 116, 117, 118, 119, 120, 121, 122, 123, 124, 125, 126, 127, 128, 129, 130, 131, 132, 133, 134, 135, 136, 137, 154, 155, 156, 157, 158, 159, 160, 151, 152, 153] (by decide +kernel) (by decide +kernel)
set_option maxRecDepth 20000 in
theorem gX6_postman_X4_leastWay : GoodIn wsX6_postman (wsV RX6 109 RX4 yX4_leastWay wsX4_leastWay) := goodIn_app (goodIn_of _ (by decide +kernel)) ggX6_postman_X4_leastWay
theorem dX6_postman_0 : decode cX6_postman 0 = .ok (.iload_n 1, 1) := by decide +kernel
theorem dX6_postman_1 : decode cX6_postman 1 = .ok (.ifCond .eq 13, 3) := by decide +kernel
theorem dX6_postman_4 : decode cX6_postman 4 = .ok (.aload_n 0, 1) := by decide +kernel
theorem dX6_postman_5 : decode cX6_postman 5 = .ok (.getfield 60, 3) := by decide +kernel
theorem dX6_postman_8 : decode cX6_postman 8 = .ok (.invokevirtual 106, 3) := by decide +kernel
theorem dX6_postman_11 : decode cX6_postman 11 = .ok (.goto 10, 3) := by decide +kernel
theorem dX6_postman_14 : decode cX6_postman 14 = .ok (.aload_n 0, 1) := by decide +kernel
theorem dX6_postman_15 : decode cX6_postman 15 = .ok (.getfield 53, 3) := by decide +kernel
theorem dX6_postman_18 : decode cX6_postman 18 = .ok (.invokevirtual 109, 3) := by decide +kernel
theorem dX6_postman_21 : decode cX6_postman 21 = .ok (.lreturn, 1) := by decide +kernel
set_option maxRecDepth 20000 in
theorem ggX6_pair_X4_member : GoodIn wsX6_pair wsX4_member := goodIn_r _ [6, 7, 8, 17, 18, 19, 20, 21, 22, 23] (by decide +kernel) (by decide +kernel)
set_option maxRecDepth 20000 in
theorem gX6_pair_X4_member : GoodIn wsX6_pair (wsV RX6 110 RX4 yX4_member wsX4_member) := goodIn_app (goodIn_of _ (by decide +kernel)) ggX6_pair_X4_member
theorem dX6_pair_0 : decode cX6_pair 0 = .ok (.aload_n 0, 1) := by decide +kernel
theorem dX6_pair_1 : decode cX6_pair 1 = .ok (.getfield 53, 3) := by decide +kernel
theorem dX6_pair_4 : decode cX6_pair 4 = .ok (.iload_n 1, 1) := by decide +kernel
theorem dX6_pair_5 : decode cX6_pair 5 = .ok (.iload_n 2, 1) := by decide +kernel
theorem dX6_pair_6 : decode cX6_pair 6 = .ok (.invokevirtual 110, 3) := by decide +kernel
theorem dX6_pair_9 : decode cX6_pair 9 = .ok (.ireturn, 1) := by decide +kernel
set_option maxRecDepth 20000 in
theorem ggX6_greatest_X2_bound : GoodIn wsX6_greatest wsX2_bound := goodIn_r _ [12, 13, 14, 15, 16, 17, 18, 19, 20, 21, 22, 23, 24, 11, 25, 26, 27, 28, 29, 30, 31, 32, 33, 34, 35, 36, 37, 38, 39, 40, 41, 42, 43, 44, 45, 46, 47, 48, 49, 50, 51, 52, 53, 54, 55, 111, 112, 113, 114, 115, 116, 117, 118, 119] (by decide +kernel) (by decide +kernel)
set_option maxRecDepth 20000 in
theorem gX6_greatest_X2_bound : GoodIn wsX6_greatest (wsV RX6 89 RX2 yX2_bound wsX2_bound) := goodIn_app (goodIn_of _ (by decide +kernel)) ggX6_greatest_X2_bound
set_option maxRecDepth 20000 in
theorem ggX6_greatest_X0_leastSum : GoodIn wsX6_greatest wsX0_leastSum := goodIn_r _ [60, 61, 62, 63, 64, 65, 66, 20, 67, 68, 19, 21, 69, 70, 71, 59, 72, 73, 74, 75, 76, 77, 78, 79, 80, 81, 82, 83, 84, 85, 86, 87, 88, 89, 90, 91, 92, 93, 94, 95, 96, 97, 98, 99, 100, 101, 102, 120, 121, 122, 123, 124, 125, 126, 117, 118, 119] (by decide +kernel) (by decide +kernel)
set_option maxRecDepth 20000 in
theorem gX6_greatest_X0_leastSum : GoodIn wsX6_greatest (wsV RX6 96 RX0 yX0_leastSum wsX0_leastSum) := goodIn_app (goodIn_of _ (by decide +kernel)) ggX6_greatest_X0_leastSum
theorem dX6_greatest_0 : decode cX6_greatest 0 = .ok (.aload_n 0, 1) := by decide +kernel
theorem dX6_greatest_1 : decode cX6_greatest 1 = .ok (.getfield 32, 3) := by decide +kernel
theorem dX6_greatest_4 : decode cX6_greatest 4 = .ok (.bipush 50, 2) := by decide +kernel
theorem dX6_greatest_6 : decode cX6_greatest 6 = .ok (.invokevirtual 89, 3) := by decide +kernel
theorem dX6_greatest_9 : decode cX6_greatest 9 = .ok (.lstore_n 1, 1) := by decide +kernel
theorem dX6_greatest_10 : decode cX6_greatest 10 = .ok (.aload_n 0, 1) := by decide +kernel
theorem dX6_greatest_11 : decode cX6_greatest 11 = .ok (.getfield 39, 3) := by decide +kernel
theorem dX6_greatest_14 : decode cX6_greatest 14 = .ok (.invokevirtual 96, 3) := by decide +kernel
theorem dX6_greatest_17 : decode cX6_greatest 17 = .ok (.lstore_n 3, 1) := by decide +kernel
theorem dX6_greatest_18 : decode cX6_greatest 18 = .ok (.lload_n 1, 1) := by decide +kernel
theorem dX6_greatest_19 : decode cX6_greatest 19 = .ok (.ldc2_w 100, 3) := by decide +kernel
theorem dX6_greatest_22 : decode cX6_greatest 22 = .ok (.lcmp, 1) := by decide +kernel
theorem dX6_greatest_23 : decode cX6_greatest 23 = .ok (.ifCond .eq 11, 3) := by decide +kernel
theorem dX6_greatest_26 : decode cX6_greatest 26 = .ok (.lload_n 3, 1) := by decide +kernel
theorem dX6_greatest_27 : decode cX6_greatest 27 = .ok (.ldc2_w 100, 3) := by decide +kernel
theorem dX6_greatest_30 : decode cX6_greatest 30 = .ok (.lcmp, 1) := by decide +kernel
theorem dX6_greatest_31 : decode cX6_greatest 31 = .ok (.ifCond .ne 7, 3) := by decide +kernel
theorem dX6_greatest_34 : decode cX6_greatest 34 = .ok (.ldc2_w 100, 3) := by decide +kernel
theorem dX6_greatest_37 : decode cX6_greatest 37 = .ok (.lreturn, 1) := by decide +kernel
theorem dX6_greatest_38 : decode cX6_greatest 38 = .ok (.lload_n 1, 1) := by decide +kernel
theorem dX6_greatest_39 : decode cX6_greatest 39 = .ok (.lload_n 3, 1) := by decide +kernel
theorem dX6_greatest_40 : decode cX6_greatest 40 = .ok (.invokestatic 113, 3) := by decide +kernel
theorem dX6_greatest_43 : decode cX6_greatest 43 = .ok (.lreturn, 1) := by decide +kernel
theorem dX6_linear_0 : decode cX6_linear 0 = .ok (.aload_n 0, 1) := by decide +kernel
theorem dX6_linear_1 : decode cX6_linear 1 = .ok (.invokevirtual 116, 3) := by decide +kernel
theorem dX6_linear_4 : decode cX6_linear 4 = .ok (.lstore_n 2, 1) := by decide +kernel
theorem dX6_linear_5 : decode cX6_linear 5 = .ok (.lload_n 2, 1) := by decide +kernel
theorem dX6_linear_6 : decode cX6_linear 6 = .ok (.ldc2_w 100, 3) := by decide +kernel
theorem dX6_linear_9 : decode cX6_linear 9 = .ok (.lcmp, 1) := by decide +kernel
theorem dX6_linear_10 : decode cX6_linear 10 = .ok (.ifCond .ne 7, 3) := by decide +kernel
theorem dX6_linear_13 : decode cX6_linear 13 = .ok (.ldc2_w 100, 3) := by decide +kernel
theorem dX6_linear_16 : decode cX6_linear 16 = .ok (.lreturn, 1) := by decide +kernel
theorem dX6_linear_17 : decode cX6_linear 17 = .ok (.iload_n 1, 1) := by decide +kernel
theorem dX6_linear_18 : decode cX6_linear 18 = .ok (.ifCond .ne 13, 3) := by decide +kernel
theorem dX6_linear_21 : decode cX6_linear 21 = .ok (.new 119, 3) := by decide +kernel
theorem dX6_linear_24 : decode cX6_linear 24 = .ok (.dup, 1) := by decide +kernel
theorem dX6_linear_25 : decode cX6_linear 25 = .ok (.ldc 121, 2) := by decide +kernel
theorem dX6_linear_27 : decode cX6_linear 27 = .ok (.invokespecial 123, 3) := by decide +kernel
theorem dX6_linear_30 : decode cX6_linear 30 = .ok (.athrow, 1) := by decide +kernel
theorem dX6_linear_31 : decode cX6_linear 31 = .ok (.ldc2_w 124, 3) := by decide +kernel
theorem dX6_linear_34 : decode cX6_linear 34 = .ok (.lload_n 2, 1) := by decide +kernel
theorem dX6_linear_35 : decode cX6_linear 35 = .ok (.lmul, 1) := by decide +kernel
theorem dX6_linear_36 : decode cX6_linear 36 = .ok (.iload_n 1, 1) := by decide +kernel
theorem dX6_linear_37 : decode cX6_linear 37 = .ok (.i2l, 1) := by decide +kernel
theorem dX6_linear_38 : decode cX6_linear 38 = .ok (.ldiv, 1) := by decide +kernel
theorem dX6_linear_39 : decode cX6_linear 39 = .ok (.lreturn, 1) := by decide +kernel
set_option maxRecDepth 20000 in
theorem ggX6_certificate_X6_pickRow : GoodIn wsX6_certificate wsX6_pickRow := goodIn_r _ [9, 10, 111, 112, 113, 114, 115, 116, 117, 118] (by decide +kernel) (by decide +kernel)
set_option maxRecDepth 20000 in
theorem gX6_certificate_X6_pickRow : GoodIn wsX6_certificate (wsV RX6 127 RX6 yX6_pickRow wsX6_pickRow) := goodIn_app (goodIn_of _ (by decide +kernel)) ggX6_certificate_X6_pickRow
set_option maxRecDepth 20000 in
theorem ggX6_certificate_X6_lengthOfRow : GoodIn wsX6_certificate wsX6_lengthOfRow := goodIn_r _ [14, 10, 15, 2, 111, 112, 113, 114, 115, 116, 117, 118, 119, 120, 121] (by decide +kernel) (by decide +kernel)
set_option maxRecDepth 20000 in
theorem gX6_certificate_X6_lengthOfRow : GoodIn wsX6_certificate (wsV RX6 130 RX6 yX6_lengthOfRow wsX6_lengthOfRow) := goodIn_app (goodIn_of _ (by decide +kernel)) ggX6_certificate_X6_lengthOfRow
set_option maxRecDepth 20000 in
theorem ggX6_certificate_X2_bound : GoodIn wsX6_certificate wsX2_bound := goodIn_r _ [20, 21, 22, 23, 24, 25, 26, 27, 28, 29, 30, 31, 32, 19, 33, 34, 35, 36, 37, 38, 39, 40, 41, 42, 43, 44, 45, 46, 47, 48, 49, 50, 51, 52, 53, 54, 55, 56, 57, 58, 59, 60, 61, 62, 63, 122, 123, 124, 125, 126, 127, 119, 120, 121] (by decide +kernel) (by decide +kernel)
set_option maxRecDepth 20000 in
theorem gX6_certificate_X2_bound : GoodIn wsX6_certificate (wsV RX6 89 RX2 yX2_bound wsX2_bound) := goodIn_app (goodIn_of _ (by decide +kernel)) ggX6_certificate_X2_bound
set_option maxRecDepth 20000 in
theorem ggX6_certificate_X0_leastSum : GoodIn wsX6_certificate wsX0_leastSum := goodIn_r _ [68, 69, 70, 71, 72, 73, 74, 28, 75, 76, 27, 29, 77, 78, 79, 67, 80, 81, 82, 83, 84, 85, 86, 87, 88, 89, 90, 91, 92, 93, 94, 95, 96, 97, 98, 99, 100, 101, 102, 103, 104, 105, 106, 107, 108, 109, 110, 128, 129, 130, 131, 132, 133, 134, 119, 120, 121] (by decide +kernel) (by decide +kernel)
set_option maxRecDepth 20000 in
theorem gX6_certificate_X0_leastSum : GoodIn wsX6_certificate (wsV RX6 96 RX0 yX0_leastSum wsX0_leastSum) := goodIn_app (goodIn_of _ (by decide +kernel)) ggX6_certificate_X0_leastSum
theorem dX6_certificate_0 : decode cX6_certificate 0 = .ok (.aload_n 0, 1) := by decide +kernel
theorem dX6_certificate_1 : decode cX6_certificate 1 = .ok (.iload_n 1, 1) := by decide +kernel
theorem dX6_certificate_2 : decode cX6_certificate 2 = .ok (.ldc 126, 2) := by decide +kernel
theorem dX6_certificate_4 : decode cX6_certificate 4 = .ok (.iand, 1) := by decide +kernel
theorem dX6_certificate_5 : decode cX6_certificate 5 = .ok (.invokevirtual 127, 3) := by decide +kernel
theorem dX6_certificate_8 : decode cX6_certificate 8 = .ok (.aload_n 0, 1) := by decide +kernel
theorem dX6_certificate_9 : decode cX6_certificate 9 = .ok (.invokevirtual 130, 3) := by decide +kernel
theorem dX6_certificate_12 : decode cX6_certificate 12 = .ok (.lstore_n 2, 1) := by decide +kernel
theorem dX6_certificate_13 : decode cX6_certificate 13 = .ok (.lload_n 2, 1) := by decide +kernel
theorem dX6_certificate_14 : decode cX6_certificate 14 = .ok (.ldc2_w 100, 3) := by decide +kernel
theorem dX6_certificate_17 : decode cX6_certificate 17 = .ok (.lcmp, 1) := by decide +kernel
theorem dX6_certificate_18 : decode cX6_certificate 18 = .ok (.ifCond .eq 33, 3) := by decide +kernel
theorem dX6_certificate_21 : decode cX6_certificate 21 = .ok (.lload_n 2, 1) := by decide +kernel
theorem dX6_certificate_22 : decode cX6_certificate 22 = .ok (.aload_n 0, 1) := by decide +kernel
theorem dX6_certificate_23 : decode cX6_certificate 23 = .ok (.getfield 32, 3) := by decide +kernel
