theorem dX6_certificate_26 : decode cX6_certificate 26 = .ok (.bipush 50, 2) := by decide +kernel
theorem dX6_certificate_28 : decode cX6_certificate 28 = .ok (.invokevirtual 89, 3) := by decide +kernel
theorem dX6_certificate_31 : decode cX6_certificate 31 = .ok (.lcmp, 1) := by decide +kernel
theorem dX6_certificate_32 : decode cX6_certificate 32 = .ok (.ifCond .lt 19, 3) := by decide +kernel
theorem dX6_certificate_35 : decode cX6_certificate 35 = .ok (.lload_n 2, 1) := by decide +kernel
theorem dX6_certificate_36 : decode cX6_certificate 36 = .ok (.aload_n 0, 1) := by decide +kernel
theorem dX6_certificate_37 : decode cX6_certificate 37 = .ok (.getfield 39, 3) := by decide +kernel
theorem dX6_certificate_40 : decode cX6_certificate 40 = .ok (.invokevirtual 96, 3) := by decide +kernel
theorem dX6_certificate_43 : decode cX6_certificate 43 = .ok (.lcmp, 1) := by decide +kernel
theorem dX6_certificate_44 : decode cX6_certificate 44 = .ok (.ifCond .lt 7, 3) := by decide +kernel
theorem dX6_certificate_47 : decode cX6_certificate 47 = .ok (.iconst 1, 1) := by decide +kernel
theorem dX6_certificate_48 : decode cX6_certificate 48 = .ok (.goto 4, 3) := by decide +kernel
theorem dX6_certificate_51 : decode cX6_certificate 51 = .ok (.iconst 0, 1) := by decide +kernel
theorem dX6_certificate_52 : decode cX6_certificate 52 = .ok (.ireturn, 1) := by decide +kernel
theorem dX6_pickRow_0 : decode cX6_pickRow 0 = .ok (.aload_n 0, 1) := by decide +kernel
theorem dX6_pickRow_1 : decode cX6_pickRow 1 = .ok (.getfield 64, 3) := by decide +kernel
theorem dX6_pickRow_4 : decode cX6_pickRow 4 = .ok (.arraylength, 1) := by decide +kernel
theorem dX6_pickRow_5 : decode cX6_pickRow 5 = .ok (.istore_n 2, 1) := by decide +kernel
theorem dX6_pickRow_6 : decode cX6_pickRow 6 = .ok (.iload_n 1, 1) := by decide +kernel
theorem dX6_pickRow_7 : decode cX6_pickRow 7 = .ok (.istore_n 3, 1) := by decide +kernel
theorem dX6_pickRow_8 : decode cX6_pickRow 8 = .ok (.iload_n 2, 1) := by decide +kernel
theorem dX6_pickRow_9 : decode cX6_pickRow 9 = .ok (.iconst 1, 1) := by decide +kernel
theorem dX6_pickRow_10 : decode cX6_pickRow 10 = .ok (.isub, 1) := by decide +kernel
theorem dX6_pickRow_11 : decode cX6_pickRow 11 = .ok (.istore 4, 2) := by decide +kernel
theorem dX6_pickRow_13 : decode cX6_pickRow 13 = .ok (.iload 4, 2) := by decide +kernel
theorem dX6_pickRow_15 : decode cX6_pickRow 15 = .ok (.iconst 1, 1) := by decide +kernel
theorem dX6_pickRow_16 : decode cX6_pickRow 16 = .ok (.if_icmp .lt 79, 3) := by decide +kernel
theorem dX6_pickRow_19 : decode cX6_pickRow 19 = .ok (.iload_n 2, 1) := by decide +kernel
theorem dX6_pickRow_20 : decode cX6_pickRow 20 = .ok (.iload 4, 2) := by decide +kernel
theorem dX6_pickRow_22 : decode cX6_pickRow 22 = .ok (.isub, 1) := by decide +kernel
theorem dX6_pickRow_23 : decode cX6_pickRow 23 = .ok (.istore 5, 2) := by decide +kernel
theorem dX6_pickRow_25 : decode cX6_pickRow 25 = .ok (.aload_n 0, 1) := by decide +kernel
theorem dX6_pickRow_26 : decode cX6_pickRow 26 = .ok (.getfield 64, 3) := by decide +kernel
theorem dX6_pickRow_29 : decode cX6_pickRow 29 = .ok (.iload 4, 2) := by decide +kernel
theorem dX6_pickRow_31 : decode cX6_pickRow 31 = .ok (.iconst 1, 1) := by decide +kernel
theorem dX6_pickRow_32 : decode cX6_pickRow 32 = .ok (.iload_n 3, 1) := by decide +kernel
theorem dX6_pickRow_33 : decode cX6_pickRow 33 = .ok (.iload 5, 2) := by decide +kernel
theorem dX6_pickRow_35 : decode cX6_pickRow 35 = .ok (.irem, 1) := by decide +kernel
theorem dX6_pickRow_36 : decode cX6_pickRow 36 = .ok (.iadd, 1) := by decide +kernel
theorem dX6_pickRow_37 : decode cX6_pickRow 37 = .ok (.iastore, 1) := by decide +kernel
theorem dX6_pickRow_38 : decode cX6_pickRow 38 = .ok (.iload_n 3, 1) := by decide +kernel
theorem dX6_pickRow_39 : decode cX6_pickRow 39 = .ok (.iload 5, 2) := by decide +kernel
theorem dX6_pickRow_41 : decode cX6_pickRow 41 = .ok (.idiv, 1) := by decide +kernel
theorem dX6_pickRow_42 : decode cX6_pickRow 42 = .ok (.istore_n 3, 1) := by decide +kernel
theorem dX6_pickRow_43 : decode cX6_pickRow 43 = .ok (.iload 4, 2) := by decide +kernel
theorem dX6_pickRow_45 : decode cX6_pickRow 45 = .ok (.iconst 1, 1) := by decide +kernel
theorem dX6_pickRow_46 : decode cX6_pickRow 46 = .ok (.iadd, 1) := by decide +kernel
theorem dX6_pickRow_47 : decode cX6_pickRow 47 = .ok (.istore 6, 2) := by decide +kernel
theorem dX6_pickRow_49 : decode cX6_pickRow 49 = .ok (.iload 6, 2) := by decide +kernel
theorem dX6_pickRow_51 : decode cX6_pickRow 51 = .ok (.iload_n 2, 1) := by decide +kernel
theorem dX6_pickRow_52 : decode cX6_pickRow 52 = .ok (.if_icmp .ge 37, 3) := by decide +kernel
theorem dX6_pickRow_55 : decode cX6_pickRow 55 = .ok (.aload_n 0, 1) := by decide +kernel
theorem dX6_pickRow_56 : decode cX6_pickRow 56 = .ok (.getfield 64, 3) := by decide +kernel
theorem dX6_pickRow_59 : decode cX6_pickRow 59 = .ok (.iload 6, 2) := by decide +kernel
theorem dX6_pickRow_61 : decode cX6_pickRow 61 = .ok (.iaload, 1) := by decide +kernel
theorem dX6_pickRow_62 : decode cX6_pickRow 62 = .ok (.aload_n 0, 1) := by decide +kernel
theorem dX6_pickRow_63 : decode cX6_pickRow 63 = .ok (.getfield 64, 3) := by decide +kernel
theorem dX6_pickRow_66 : decode cX6_pickRow 66 = .ok (.iload 4, 2) := by decide +kernel
theorem dX6_pickRow_68 : decode cX6_pickRow 68 = .ok (.iaload, 1) := by decide +kernel
theorem dX6_pickRow_69 : decode cX6_pickRow 69 = .ok (.if_icmp .lt 14, 3) := by decide +kernel
theorem dX6_pickRow_72 : decode cX6_pickRow 72 = .ok (.aload_n 0, 1) := by decide +kernel
theorem dX6_pickRow_73 : decode cX6_pickRow 73 = .ok (.getfield 64, 3) := by decide +kernel
theorem dX6_pickRow_76 : decode cX6_pickRow 76 = .ok (.iload 6, 2) := by decide +kernel
theorem dX6_pickRow_78 : decode cX6_pickRow 78 = .ok (.dup2, 1) := by decide +kernel
theorem dX6_pickRow_79 : decode cX6_pickRow 79 = .ok (.iaload, 1) := by decide +kernel
theorem dX6_pickRow_80 : decode cX6_pickRow 80 = .ok (.iconst 1, 1) := by decide +kernel
theorem dX6_pickRow_81 : decode cX6_pickRow 81 = .ok (.iadd, 1) := by decide +kernel
theorem dX6_pickRow_82 : decode cX6_pickRow 82 = .ok (.iastore, 1) := by decide +kernel
theorem dX6_pickRow_83 : decode cX6_pickRow 83 = .ok (.iinc 6 1, 3) := by decide +kernel
theorem dX6_pickRow_86 : decode cX6_pickRow 86 = .ok (.goto (-37), 3) := by decide +kernel
theorem dX6_pickRow_89 : decode cX6_pickRow 89 = .ok (.iinc 4 (-1), 3) := by decide +kernel
theorem dX6_pickRow_92 : decode cX6_pickRow 92 = .ok (.goto (-79), 3) := by decide +kernel
theorem dX6_pickRow_95 : decode cX6_pickRow 95 = .ok (.aload_n 0, 1) := by decide +kernel
theorem dX6_pickRow_96 : decode cX6_pickRow 96 = .ok (.getfield 64, 3) := by decide +kernel
theorem dX6_pickRow_99 : decode cX6_pickRow 99 = .ok (.iconst 0, 1) := by decide +kernel
theorem dX6_pickRow_100 : decode cX6_pickRow 100 = .ok (.iconst 0, 1) := by decide +kernel
theorem dX6_pickRow_101 : decode cX6_pickRow 101 = .ok (.iastore, 1) := by decide +kernel
theorem dX6_pickRow_102 : decode cX6_pickRow 102 = .ok (.return_, 1) := by decide +kernel
theorem dX6_lengthOfRow_0 : decode cX6_lengthOfRow 0 = .ok (.aload_n 0, 1) := by decide +kernel
theorem dX6_lengthOfRow_1 : decode cX6_lengthOfRow 1 = .ok (.getfield 64, 3) := by decide +kernel
theorem dX6_lengthOfRow_4 : decode cX6_lengthOfRow 4 = .ok (.arraylength, 1) := by decide +kernel
theorem dX6_lengthOfRow_5 : decode cX6_lengthOfRow 5 = .ok (.istore_n 1, 1) := by decide +kernel
theorem dX6_lengthOfRow_6 : decode cX6_lengthOfRow 6 = .ok (.lconst 0, 1) := by decide +kernel
theorem dX6_lengthOfRow_7 : decode cX6_lengthOfRow 7 = .ok (.lstore_n 2, 1) := by decide +kernel
theorem dX6_lengthOfRow_8 : decode cX6_lengthOfRow 8 = .ok (.iconst 0, 1) := by decide +kernel
theorem dX6_lengthOfRow_9 : decode cX6_lengthOfRow 9 = .ok (.istore 4, 2) := by decide +kernel
theorem dX6_lengthOfRow_11 : decode cX6_lengthOfRow 11 = .ok (.iload 4, 2) := by decide +kernel
theorem dX6_lengthOfRow_13 : decode cX6_lengthOfRow 13 = .ok (.iload_n 1, 1) := by decide +kernel
theorem dX6_lengthOfRow_14 : decode cX6_lengthOfRow 14 = .ok (.if_icmp .ge 73, 3) := by decide +kernel
theorem dX6_lengthOfRow_17 : decode cX6_lengthOfRow 17 = .ok (.iload 4, 2) := by decide +kernel
theorem dX6_lengthOfRow_19 : decode cX6_lengthOfRow 19 = .ok (.iconst 1, 1) := by decide +kernel
theorem dX6_lengthOfRow_20 : decode cX6_lengthOfRow 20 = .ok (.iadd, 1) := by decide +kernel
theorem dX6_lengthOfRow_21 : decode cX6_lengthOfRow 21 = .ok (.iload_n 1, 1) := by decide +kernel
theorem dX6_lengthOfRow_22 : decode cX6_lengthOfRow 22 = .ok (.if_icmp .ge 15, 3) := by decide +kernel
theorem dX6_lengthOfRow_25 : decode cX6_lengthOfRow 25 = .ok (.aload_n 0, 1) := by decide +kernel
theorem dX6_lengthOfRow_26 : decode cX6_lengthOfRow 26 = .ok (.getfield 64, 3) := by decide +kernel
theorem dX6_lengthOfRow_29 : decode cX6_lengthOfRow 29 = .ok (.iload 4, 2) := by decide +kernel
theorem dX6_lengthOfRow_31 : decode cX6_lengthOfRow 31 = .ok (.iconst 1, 1) := by decide +kernel
theorem dX6_lengthOfRow_32 : decode cX6_lengthOfRow 32 = .ok (.iadd, 1) := by decide +kernel
theorem dX6_lengthOfRow_33 : decode cX6_lengthOfRow 33 = .ok (.iaload, 1) := by decide +kernel
theorem dX6_lengthOfRow_34 : decode cX6_lengthOfRow 34 = .ok (.goto 9, 3) := by decide +kernel
theorem dX6_lengthOfRow_37 : decode cX6_lengthOfRow 37 = .ok (.aload_n 0, 1) := by decide +kernel
theorem dX6_lengthOfRow_38 : decode cX6_lengthOfRow 38 = .ok (.getfield 64, 3) := by decide +kernel
theorem dX6_lengthOfRow_41 : decode cX6_lengthOfRow 41 = .ok (.iconst 0, 1) := by decide +kernel
theorem dX6_lengthOfRow_42 : decode cX6_lengthOfRow 42 = .ok (.iaload, 1) := by decide +kernel
theorem dX6_lengthOfRow_43 : decode cX6_lengthOfRow 43 = .ok (.istore 5, 2) := by decide +kernel
theorem dX6_lengthOfRow_45 : decode cX6_lengthOfRow 45 = .ok (.aload_n 0, 1) := by decide +kernel
theorem dX6_lengthOfRow_46 : decode cX6_lengthOfRow 46 = .ok (.getfield 23, 3) := by decide +kernel
theorem dX6_lengthOfRow_49 : decode cX6_lengthOfRow 49 = .ok (.getfield 133, 3) := by decide +kernel
theorem dX6_lengthOfRow_52 : decode cX6_lengthOfRow 52 = .ok (.aload_n 0, 1) := by decide +kernel
theorem dX6_lengthOfRow_53 : decode cX6_lengthOfRow 53 = .ok (.getfield 64, 3) := by decide +kernel
theorem dX6_lengthOfRow_56 : decode cX6_lengthOfRow 56 = .ok (.iload 4, 2) := by decide +kernel
theorem dX6_lengthOfRow_58 : decode cX6_lengthOfRow 58 = .ok (.iaload, 1) := by decide +kernel
theorem dX6_lengthOfRow_59 : decode cX6_lengthOfRow 59 = .ok (.aaload, 1) := by decide +kernel
theorem dX6_lengthOfRow_60 : decode cX6_lengthOfRow 60 = .ok (.iload 5, 2) := by decide +kernel
theorem dX6_lengthOfRow_62 : decode cX6_lengthOfRow 62 = .ok (.iaload, 1) := by decide +kernel
theorem dX6_lengthOfRow_63 : decode cX6_lengthOfRow 63 = .ok (.istore 6, 2) := by decide +kernel
theorem dX6_lengthOfRow_65 : decode cX6_lengthOfRow 65 = .ok (.iload 6, 2) := by decide +kernel
theorem dX6_lengthOfRow_67 : decode cX6_lengthOfRow 67 = .ok (.iconst (-1), 1) := by decide +kernel
theorem dX6_lengthOfRow_68 : decode cX6_lengthOfRow 68 = .ok (.if_icmp .ne 7, 3) := by decide +kernel
theorem dX6_lengthOfRow_71 : decode cX6_lengthOfRow 71 = .ok (.ldc2_w 100, 3) := by decide +kernel
theorem dX6_lengthOfRow_74 : decode cX6_lengthOfRow 74 = .ok (.lreturn, 1) := by decide +kernel
theorem dX6_lengthOfRow_75 : decode cX6_lengthOfRow 75 = .ok (.lload_n 2, 1) := by decide +kernel
theorem dX6_lengthOfRow_76 : decode cX6_lengthOfRow 76 = .ok (.iload 6, 2) := by decide +kernel
theorem dX6_lengthOfRow_78 : decode cX6_lengthOfRow 78 = .ok (.i2l, 1) := by decide +kernel
theorem dX6_lengthOfRow_79 : decode cX6_lengthOfRow 79 = .ok (.ladd, 1) := by decide +kernel
theorem dX6_lengthOfRow_80 : decode cX6_lengthOfRow 80 = .ok (.lstore_n 2, 1) := by decide +kernel
theorem dX6_lengthOfRow_81 : decode cX6_lengthOfRow 81 = .ok (.iinc 4 1, 3) := by decide +kernel
theorem dX6_lengthOfRow_84 : decode cX6_lengthOfRow 84 = .ok (.goto (-73), 3) := by decide +kernel
theorem dX6_lengthOfRow_87 : decode cX6_lengthOfRow 87 = .ok (.lload_n 2, 1) := by decide +kernel
theorem dX6_lengthOfRow_88 : decode cX6_lengthOfRow 88 = .ok (.lreturn, 1) := by decide +kernel
theorem dX7_init_0 : decode cX7_init 0 = .ok (.aload_n 0, 1) := by decide +kernel
theorem dX7_init_1 : decode cX7_init 1 = .ok (.invokespecial 1, 3) := by decide +kernel
theorem dX7_init_4 : decode cX7_init 4 = .ok (.aload_n 0, 1) := by decide +kernel
theorem dX7_init_5 : decode cX7_init 5 = .ok (.sipush 144, 3) := by decide +kernel
theorem dX7_init_8 : decode cX7_init 8 = .ok (.newarray .long, 2) := by decide +kernel
theorem dX7_init_10 : decode cX7_init 10 = .ok (.putfield 7, 3) := by decide +kernel
theorem dX7_init_13 : decode cX7_init 13 = .ok (.aload_n 0, 1) := by decide +kernel
theorem dX7_init_14 : decode cX7_init 14 = .ok (.bipush 12, 2) := by decide +kernel
theorem dX7_init_16 : decode cX7_init 16 = .ok (.newarray .int, 2) := by decide +kernel
theorem dX7_init_18 : decode cX7_init 18 = .ok (.putfield 13, 3) := by decide +kernel
theorem dX7_init_21 : decode cX7_init 21 = .ok (.aload_n 0, 1) := by decide +kernel
theorem dX7_init_22 : decode cX7_init 22 = .ok (.bipush 12, 2) := by decide +kernel
theorem dX7_init_24 : decode cX7_init 24 = .ok (.newarray .long, 2) := by decide +kernel
theorem dX7_init_26 : decode cX7_init 26 = .ok (.putfield 17, 3) := by decide +kernel
theorem dX7_init_29 : decode cX7_init 29 = .ok (.aload_n 0, 1) := by decide +kernel
theorem dX7_init_30 : decode cX7_init 30 = .ok (.bipush 12, 2) := by decide +kernel
theorem dX7_init_32 : decode cX7_init 32 = .ok (.newarray .int, 2) := by decide +kernel
theorem dX7_init_34 : decode cX7_init 34 = .ok (.putfield 20, 3) := by decide +kernel
theorem dX7_init_37 : decode cX7_init 37 = .ok (.aload_n 0, 1) := by decide +kernel
theorem dX7_init_38 : decode cX7_init 38 = .ok (.bipush 12, 2) := by decide +kernel
theorem dX7_init_40 : decode cX7_init 40 = .ok (.newarray .boolean, 2) := by decide +kernel
theorem dX7_init_42 : decode cX7_init 42 = .ok (.putfield 23, 3) := by decide +kernel
theorem dX7_init_45 : decode cX7_init 45 = .ok (.aload_n 0, 1) := by decide +kernel
theorem dX7_init_46 : decode cX7_init 46 = .ok (.sipush 4096, 3) := by decide +kernel
theorem dX7_init_49 : decode cX7_init 49 = .ok (.newarray .long, 2) := by decide +kernel
theorem dX7_init_51 : decode cX7_init 51 = .ok (.putfield 27, 3) := by decide +kernel
theorem dX7_init_54 : decode cX7_init 54 = .ok (.aload_n 0, 1) := by decide +kernel
theorem dX7_init_55 : decode cX7_init 55 = .ok (.sipush 144, 3) := by decide +kernel
theorem dX7_init_58 : decode cX7_init 58 = .ok (.newarray .long, 2) := by decide +kernel
theorem dX7_init_60 : decode cX7_init 60 = .ok (.putfield 30, 3) := by decide +kernel
theorem dX7_init_63 : decode cX7_init 63 = .ok (.aload_n 0, 1) := by decide +kernel
theorem dX7_init_64 : decode cX7_init 64 = .ok (.sipush 144, 3) := by decide +kernel
theorem dX7_init_67 : decode cX7_init 67 = .ok (.newarray .int, 2) := by decide +kernel
theorem dX7_init_69 : decode cX7_init 69 = .ok (.putfield 33, 3) := by decide +kernel
theorem dX7_init_72 : decode cX7_init 72 = .ok (.aload_n 0, 1) := by decide +kernel
theorem dX7_init_73 : decode cX7_init 73 = .ok (.bipush 12, 2) := by decide +kernel
theorem dX7_init_75 : decode cX7_init 75 = .ok (.newarray .int, 2) := by decide +kernel
theorem dX7_init_77 : decode cX7_init 77 = .ok (.putfield 36, 3) := by decide +kernel
theorem dX7_init_80 : decode cX7_init 80 = .ok (.aload_n 0, 1) := by decide +kernel
theorem dX7_init_81 : decode cX7_init 81 = .ok (.bipush 12, 2) := by decide +kernel
theorem dX7_init_83 : decode cX7_init 83 = .ok (.newarray .int, 2) := by decide +kernel
theorem dX7_init_85 : decode cX7_init 85 = .ok (.putfield 39, 3) := by decide +kernel
theorem dX7_init_88 : decode cX7_init 88 = .ok (.aload_n 0, 1) := by decide +kernel
theorem dX7_init_89 : decode cX7_init 89 = .ok (.bipush 24, 2) := by decide +kernel
theorem dX7_init_91 : decode cX7_init 91 = .ok (.newarray .long, 2) := by decide +kernel
theorem dX7_init_93 : decode cX7_init 93 = .ok (.putfield 42, 3) := by decide +kernel
theorem dX7_init_96 : decode cX7_init 96 = .ok (.aload_n 0, 1) := by decide +kernel
theorem dX7_init_97 : decode cX7_init 97 = .ok (.bipush 24, 2) := by decide +kernel
theorem dX7_init_99 : decode cX7_init 99 = .ok (.newarray .int, 2) := by decide +kernel
theorem dX7_init_101 : decode cX7_init 101 = .ok (.putfield 45, 3) := by decide +kernel
theorem dX7_init_104 : decode cX7_init 104 = .ok (.aload_n 0, 1) := by decide +kernel
theorem dX7_init_105 : decode cX7_init 105 = .ok (.iload_n 1, 1) := by decide +kernel
theorem dX7_init_106 : decode cX7_init 106 = .ok (.iconst 3, 1) := by decide +kernel
theorem dX7_init_107 : decode cX7_init 107 = .ok (.if_icmp .ge 7, 3) := by decide +kernel
theorem dX7_init_110 : decode cX7_init 110 = .ok (.iconst 3, 1) := by decide +kernel
theorem dX7_init_111 : decode cX7_init 111 = .ok (.goto 15, 3) := by decide +kernel
theorem dX7_init_114 : decode cX7_init 114 = .ok (.iload_n 1, 1) := by decide +kernel
theorem dX7_init_115 : decode cX7_init 115 = .ok (.bipush 12, 2) := by decide +kernel
theorem dX7_init_117 : decode cX7_init 117 = .ok (.if_icmp .le 8, 3) := by decide +kernel
theorem dX7_init_120 : decode cX7_init 120 = .ok (.bipush 12, 2) := by decide +kernel
theorem dX7_init_122 : decode cX7_init 122 = .ok (.goto 4, 3) := by decide +kernel
theorem dX7_init_125 : decode cX7_init 125 = .ok (.iload_n 1, 1) := by decide +kernel
theorem dX7_init_126 : decode cX7_init 126 = .ok (.putfield 48, 3) := by decide +kernel
theorem dX7_init_129 : decode cX7_init 129 = .ok (.iconst 0, 1) := by decide +kernel
theorem dX7_init_130 : decode cX7_init 130 = .ok (.istore_n 2, 1) := by decide +kernel
theorem dX7_init_131 : decode cX7_init 131 = .ok (.iload_n 2, 1) := by decide +kernel
theorem dX7_init_132 : decode cX7_init 132 = .ok (.sipush 144, 3) := by decide +kernel
theorem dX7_init_135 : decode cX7_init 135 = .ok (.if_icmp .ge 18, 3) := by decide +kernel
theorem dX7_init_138 : decode cX7_init 138 = .ok (.aload_n 0, 1) := by decide +kernel
theorem dX7_init_139 : decode cX7_init 139 = .ok (.getfield 7, 3) := by decide +kernel
theorem dX7_init_142 : decode cX7_init 142 = .ok (.iload_n 2, 1) := by decide +kernel
theorem dX7_init_143 : decode cX7_init 143 = .ok (.ldc2_w 52, 3) := by decide +kernel
theorem dX7_init_146 : decode cX7_init 146 = .ok (.lastore, 1) := by decide +kernel
theorem dX7_init_147 : decode cX7_init 147 = .ok (.iinc 2 1, 3) := by decide +kernel
theorem dX7_init_150 : decode cX7_init 150 = .ok (.goto (-19), 3) := by decide +kernel
theorem dX7_init_153 : decode cX7_init 153 = .ok (.return_, 1) := by decide +kernel
theorem dX7_thrown_0 : decode cX7_thrown 0 = .ok (.aload_n 0, 1) := by decide +kernel
theorem dX7_thrown_1 : decode cX7_thrown 1 = .ok (.getfield 54, 3) := by decide +kernel
theorem dX7_thrown_4 : decode cX7_thrown 4 = .ok (.ireturn, 1) := by decide +kernel
theorem dX7_isPlace_0 : decode cX7_isPlace 0 = .ok (.iload_n 1, 1) := by decide +kernel
theorem dX7_isPlace_1 : decode cX7_isPlace 1 = .ok (.ifCond .lt 15, 3) := by decide +kernel
theorem dX7_isPlace_4 : decode cX7_isPlace 4 = .ok (.iload_n 1, 1) := by decide +kernel
theorem dX7_isPlace_5 : decode cX7_isPlace 5 = .ok (.aload_n 0, 1) := by decide +kernel
theorem dX7_isPlace_6 : decode cX7_isPlace 6 = .ok (.getfield 48, 3) := by decide +kernel
theorem dX7_isPlace_9 : decode cX7_isPlace 9 = .ok (.if_icmp .ge 7, 3) := by decide +kernel
theorem dX7_isPlace_12 : decode cX7_isPlace 12 = .ok (.iconst 1, 1) := by decide +kernel
theorem dX7_isPlace_13 : decode cX7_isPlace 13 = .ok (.goto 4, 3) := by decide +kernel
theorem dX7_isPlace_16 : decode cX7_isPlace 16 = .ok (.iconst 0, 1) := by decide +kernel
theorem dX7_isPlace_17 : decode cX7_isPlace 17 = .ok (.ireturn, 1) := by decide +kernel
set_option maxRecDepth 20000 in
theorem ggX7_way_X7_isPlace : GoodIn wsX7_way wsX7_isPlace := goodIn_r _ [9, 10, 11, 12, 13, 14, 15, 16, 17, 18, 19, 20, 21, 22, 23, 24, 25, 26, 27] (by decide +kernel) (by decide +kernel)
set_option maxRecDepth 20000 in
theorem gX7_way_X7_isPlace : GoodIn wsX7_way (wsV RX7 57 RX7 yX7_isPlace wsX7_isPlace) := goodIn_app (goodIn_of _ (by decide +kernel)) ggX7_way_X7_isPlace
theorem dX7_way_0 : decode cX7_way 0 = .ok (.aload_n 0, 1) := by decide +kernel
theorem dX7_way_1 : decode cX7_way 1 = .ok (.aload_n 0, 1) := by decide +kernel
theorem dX7_way_2 : decode cX7_way 2 = .ok (.iload_n 1, 1) := by decide +kernel
theorem dX7_way_3 : decode cX7_way 3 = .ok (.invokevirtual 57, 3) := by decide +kernel
theorem dX7_way_6 : decode cX7_way 6 = .ok (.ifCond .eq 15, 3) := by decide +kernel
theorem dX7_way_9 : decode cX7_way 9 = .ok (.aload_n 0, 1) := by decide +kernel
theorem dX7_way_10 : decode cX7_way 10 = .ok (.iload_n 2, 1) := by decide +kernel
theorem dX7_way_11 : decode cX7_way 11 = .ok (.invokevirtual 57, 3) := by decide +kernel
theorem dX7_way_14 : decode cX7_way 14 = .ok (.ifCond .eq 7, 3) := by decide +kernel
theorem dX7_way_17 : decode cX7_way 17 = .ok (.iconst 0, 1) := by decide +kernel
theorem dX7_way_18 : decode cX7_way 18 = .ok (.goto 4, 3) := by decide +kernel
theorem dX7_way_21 : decode cX7_way 21 = .ok (.iconst 1, 1) := by decide +kernel
theorem dX7_way_22 : decode cX7_way 22 = .ok (.putfield 54, 3) := by decide +kernel
theorem dX7_way_25 : decode cX7_way 25 = .ok (.aload_n 0, 1) := by decide +kernel
theorem dX7_way_26 : decode cX7_way 26 = .ok (.getfield 54, 3) := by decide +kernel
theorem dX7_way_29 : decode cX7_way 29 = .ok (.ifCond .ne 40, 3) := by decide +kernel
theorem dX7_way_32 : decode cX7_way 32 = .ok (.iload_n 1, 1) := by decide +kernel
theorem dX7_way_33 : decode cX7_way 33 = .ok (.iload_n 2, 1) := by decide +kernel
theorem dX7_way_34 : decode cX7_way 34 = .ok (.if_icmp .eq 35, 3) := by decide +kernel
theorem dX7_way_37 : decode cX7_way 37 = .ok (.aload_n 0, 1) := by decide +kernel
theorem dX7_way_38 : decode cX7_way 38 = .ok (.getfield 7, 3) := by decide +kernel
theorem dX7_way_41 : decode cX7_way 41 = .ok (.bipush 12, 2) := by decide +kernel
theorem dX7_way_43 : decode cX7_way 43 = .ok (.iload_n 1, 1) := by decide +kernel
theorem dX7_way_44 : decode cX7_way 44 = .ok (.imul, 1) := by decide +kernel
theorem dX7_way_45 : decode cX7_way 45 = .ok (.iload_n 2, 1) := by decide +kernel
theorem dX7_way_46 : decode cX7_way 46 = .ok (.iadd, 1) := by decide +kernel
theorem dX7_way_47 : decode cX7_way 47 = .ok (.lload_n 3, 1) := by decide +kernel
theorem dX7_way_48 : decode cX7_way 48 = .ok (.lconst 0, 1) := by decide +kernel
theorem dX7_way_49 : decode cX7_way 49 = .ok (.lcmp, 1) := by decide +kernel
theorem dX7_way_50 : decode cX7_way 50 = .ok (.ifCond .lt 11, 3) := by decide +kernel
theorem dX7_way_53 : decode cX7_way 53 = .ok (.lload_n 3, 1) := by decide +kernel
theorem dX7_way_54 : decode cX7_way 54 = .ok (.ldc2_w 61, 3) := by decide +kernel
theorem dX7_way_57 : decode cX7_way 57 = .ok (.lcmp, 1) := by decide +kernel
theorem dX7_way_58 : decode cX7_way 58 = .ok (.ifCond .le 9, 3) := by decide +kernel
theorem dX7_way_61 : decode cX7_way 61 = .ok (.ldc2_w 52, 3) := by decide +kernel
theorem dX7_way_64 : decode cX7_way 64 = .ok (.goto 4, 3) := by decide +kernel
theorem dX7_way_67 : decode cX7_way 67 = .ok (.lload_n 3, 1) := by decide +kernel
theorem dX7_way_68 : decode cX7_way 68 = .ok (.lastore, 1) := by decide +kernel
theorem dX7_way_69 : decode cX7_way 69 = .ok (.return_, 1) := by decide +kernel
theorem dX7_way__0 : decode cX7_way_ 0 = .ok (.aload_n 0, 1) := by decide +kernel
theorem dX7_way__1 : decode cX7_way_ 1 = .ok (.getfield 7, 3) := by decide +kernel
theorem dX7_way__4 : decode cX7_way_ 4 = .ok (.bipush 12, 2) := by decide +kernel
theorem dX7_way__6 : decode cX7_way_ 6 = .ok (.iload_n 1, 1) := by decide +kernel
theorem dX7_way__7 : decode cX7_way_ 7 = .ok (.imul, 1) := by decide +kernel
theorem dX7_way__8 : decode cX7_way_ 8 = .ok (.iload_n 2, 1) := by decide +kernel
theorem dX7_way__9 : decode cX7_way_ 9 = .ok (.iadd, 1) := by decide +kernel
theorem dX7_way__10 : decode cX7_way_ 10 = .ok (.laload, 1) := by decide +kernel
theorem dX7_way__11 : decode cX7_way_ 11 = .ok (.lreturn, 1) := by decide +kernel
set_option maxRecDepth 20000 in
theorem ggX7_length_X7_way_ : GoodIn wsX7_length wsX7_way_ := goodIn_r _ [5, 6, 7, 8, 9, 10, 11, 12, 13, 14, 15, 16, 17, 18, 19, 20, 21, 22, 23] (by decide +kernel) (by decide +kernel)
set_option maxRecDepth 20000 in
theorem gX7_length_X7_way_ : GoodIn wsX7_length (wsV RX7 63 RX7 yX7_way_ wsX7_way_) := goodIn_app (goodIn_of _ (by decide +kernel)) ggX7_length_X7_way_
theorem dX7_length_0 : decode cX7_length 0 = .ok (.aload_n 0, 1) := by decide +kernel
theorem dX7_length_1 : decode cX7_length 1 = .ok (.iload_n 1, 1) := by decide +kernel
theorem dX7_length_2 : decode cX7_length 2 = .ok (.iload_n 2, 1) := by decide +kernel
theorem dX7_length_3 : decode cX7_length 3 = .ok (.invokevirtual 63, 3) := by decide +kernel
theorem dX7_length_6 : decode cX7_length 6 = .ok (.aload_n 0, 1) := by decide +kernel
theorem dX7_length_7 : decode cX7_length 7 = .ok (.iload_n 2, 1) := by decide +kernel
theorem dX7_length_8 : decode cX7_length 8 = .ok (.iload_n 1, 1) := by decide +kernel
theorem dX7_length_9 : decode cX7_length 9 = .ok (.invokevirtual 63, 3) := by decide +kernel
theorem dX7_length_12 : decode cX7_length 12 = .ok (.lcmp, 1) := by decide +kernel
theorem dX7_length_13 : decode cX7_length 13 = .ok (.ifCond .ge 12, 3) := by decide +kernel
theorem dX7_length_16 : decode cX7_length 16 = .ok (.aload_n 0, 1) := by decide +kernel
theorem dX7_length_17 : decode cX7_length 17 = .ok (.iload_n 1, 1) := by decide +kernel
theorem dX7_length_18 : decode cX7_length 18 = .ok (.iload_n 2, 1) := by decide +kernel
theorem dX7_length_19 : decode cX7_length 19 = .ok (.invokevirtual 63, 3) := by decide +kernel
theorem dX7_length_22 : decode cX7_length 22 = .ok (.goto 9, 3) := by decide +kernel
theorem dX7_length_25 : decode cX7_length 25 = .ok (.aload_n 0, 1) := by decide +kernel
theorem dX7_length_26 : decode cX7_length 26 = .ok (.iload_n 2, 1) := by decide +kernel
theorem dX7_length_27 : decode cX7_length 27 = .ok (.iload_n 1, 1) := by decide +kernel
theorem dX7_length_28 : decode cX7_length 28 = .ok (.invokevirtual 63, 3) := by decide +kernel
theorem dX7_length_31 : decode cX7_length 31 = .ok (.lreturn, 1) := by decide +kernel
set_option maxRecDepth 20000 in
theorem ggX7_price_X7_length : GoodIn wsX7_price wsX7_length := goodIn_r _ [8, 9, 10, 11, 7, 12, 13, 14, 15, 16, 17, 18, 19, 20, 21, 22, 23, 24, 25, 26, 27, 28, 29, 30] (by decide +kernel) (by decide +kernel)
set_option maxRecDepth 20000 in
theorem gX7_price_X7_length : GoodIn wsX7_price (wsV RX7 67 RX7 yX7_length wsX7_length) := goodIn_app (goodIn_of _ (by decide +kernel)) ggX7_price_X7_length
theorem dX7_price_0 : decode cX7_price 0 = .ok (.aload_n 0, 1) := by decide +kernel
theorem dX7_price_1 : decode cX7_price 1 = .ok (.iload_n 1, 1) := by decide +kernel
theorem dX7_price_2 : decode cX7_price 2 = .ok (.iload_n 2, 1) := by decide +kernel
theorem dX7_price_3 : decode cX7_price 3 = .ok (.invokevirtual 67, 3) := by decide +kernel
theorem dX7_price_6 : decode cX7_price 6 = .ok (.ldc2_w 52, 3) := by decide +kernel
theorem dX7_price_9 : decode cX7_price 9 = .ok (.lcmp, 1) := by decide +kernel
theorem dX7_price_10 : decode cX7_price 10 = .ok (.ifCond .ne 9, 3) := by decide +kernel
theorem dX7_price_13 : decode cX7_price 13 = .ok (.ldc2_w 52, 3) := by decide +kernel
theorem dX7_price_16 : decode cX7_price 16 = .ok (.goto 27, 3) := by decide +kernel
theorem dX7_price_19 : decode cX7_price 19 = .ok (.ldc2_w 70, 3) := by decide +kernel
theorem dX7_price_22 : decode cX7_price 22 = .ok (.aload_n 0, 1) := by decide +kernel
theorem dX7_price_23 : decode cX7_price 23 = .ok (.iload_n 1, 1) := by decide +kernel
theorem dX7_price_24 : decode cX7_price 24 = .ok (.iload_n 2, 1) := by decide +kernel
theorem dX7_price_25 : decode cX7_price 25 = .ok (.invokevirtual 67, 3) := by decide +kernel
theorem dX7_price_28 : decode cX7_price 28 = .ok (.lmul, 1) := by decide +kernel
theorem dX7_price_29 : decode cX7_price 29 = .ok (.aload_n 0, 1) := by decide +kernel
theorem dX7_price_30 : decode cX7_price 30 = .ok (.getfield 17, 3) := by decide +kernel
theorem dX7_price_33 : decode cX7_price 33 = .ok (.iload_n 1, 1) := by decide +kernel
theorem dX7_price_34 : decode cX7_price 34 = .ok (.laload, 1) := by decide +kernel
theorem dX7_price_35 : decode cX7_price 35 = .ok (.ladd, 1) := by decide +kernel
theorem dX7_price_36 : decode cX7_price 36 = .ok (.aload_n 0, 1) := by decide +kernel
theorem dX7_price_37 : decode cX7_price 37 = .ok (.getfield 17, 3) := by decide +kernel
theorem dX7_price_40 : decode cX7_price 40 = .ok (.iload_n 2, 1) := by decide +kernel
theorem dX7_price_41 : decode cX7_price 41 = .ok (.laload, 1) := by decide +kernel
theorem dX7_price_42 : decode cX7_price 42 = .ok (.ladd, 1) := by decide +kernel
theorem dX7_price_43 : decode cX7_price 43 = .ok (.lreturn, 1) := by decide +kernel
set_option maxRecDepth 20000 in
theorem ggX7_isBefore_X7_price : GoodIn wsX7_isBefore wsX7_price := goodIn_r _ [5, 6, 7, 8, 9, 10, 11, 4, 12, 13, 14, 15, 16, 17, 18, 19, 20, 21, 22, 23, 24, 25, 26, 27, 28, 29, 30, 31, 32, 33, 34] (by decide +kernel) (by decide +kernel)
set_option maxRecDepth 20000 in
theorem gX7_isBefore_X7_price : GoodIn wsX7_isBefore (wsV RX7 72 RX7 yX7_price wsX7_price) := goodIn_app (goodIn_of _ (by decide +kernel)) ggX7_isBefore_X7_price
theorem dX7_isBefore_0 : decode cX7_isBefore 0 = .ok (.aload_n 0, 1) := by decide +kernel
theorem dX7_isBefore_1 : decode cX7_isBefore 1 = .ok (.iload_n 1, 1) := by decide +kernel
theorem dX7_isBefore_2 : decode cX7_isBefore 2 = .ok (.iload_n 2, 1) := by decide +kernel
theorem dX7_isBefore_3 : decode cX7_isBefore 3 = .ok (.invokevirtual 72, 3) := by decide +kernel
theorem dX7_isBefore_6 : decode cX7_isBefore 6 = .ok (.aload_n 0, 1) := by decide +kernel
theorem dX7_isBefore_7 : decode cX7_isBefore 7 = .ok (.iload_n 3, 1) := by decide +kernel
theorem dX7_isBefore_8 : decode cX7_isBefore 8 = .ok (.iload 4, 2) := by decide +kernel
theorem dX7_isBefore_10 : decode cX7_isBefore 10 = .ok (.invokevirtual 72, 3) := by decide +kernel
theorem dX7_isBefore_13 : decode cX7_isBefore 13 = .ok (.lcmp, 1) := by decide +kernel
theorem dX7_isBefore_14 : decode cX7_isBefore 14 = .ok (.ifCond .eq 26, 3) := by decide +kernel
theorem dX7_isBefore_17 : decode cX7_isBefore 17 = .ok (.aload_n 0, 1) := by decide +kernel
theorem dX7_isBefore_18 : decode cX7_isBefore 18 = .ok (.iload_n 1, 1) := by decide +kernel
theorem dX7_isBefore_19 : decode cX7_isBefore 19 = .ok (.iload_n 2, 1) := by decide +kernel
theorem dX7_isBefore_20 : decode cX7_isBefore 20 = .ok (.invokevirtual 72, 3) := by decide +kernel
theorem dX7_isBefore_23 : decode cX7_isBefore 23 = .ok (.aload_n 0, 1) := by decide +kernel
theorem dX7_isBefore_24 : decode cX7_isBefore 24 = .ok (.iload_n 3, 1) := by decide +kernel
theorem dX7_isBefore_25 : decode cX7_isBefore 25 = .ok (.iload 4, 2) := by decide +kernel
theorem dX7_isBefore_27 : decode cX7_isBefore 27 = .ok (.invokevirtual 72, 3) := by decide +kernel
theorem dX7_isBefore_30 : decode cX7_isBefore 30 = .ok (.lcmp, 1) := by decide +kernel
theorem dX7_isBefore_31 : decode cX7_isBefore 31 = .ok (.ifCond .ge 7, 3) := by decide +kernel
theorem dX7_isBefore_34 : decode cX7_isBefore 34 = .ok (.iconst 1, 1) := by decide +kernel
theorem dX7_isBefore_35 : decode cX7_isBefore 35 = .ok (.goto 4, 3) := by decide +kernel
theorem dX7_isBefore_38 : decode cX7_isBefore 38 = .ok (.iconst 0, 1) := by decide +kernel
theorem dX7_isBefore_39 : decode cX7_isBefore 39 = .ok (.ireturn, 1) := by decide +kernel
theorem dX7_isBefore_40 : decode cX7_isBefore 40 = .ok (.iload_n 1, 1) := by decide +kernel
theorem dX7_isBefore_41 : decode cX7_isBefore 41 = .ok (.iload_n 2, 1) := by decide +kernel
theorem dX7_isBefore_42 : decode cX7_isBefore 42 = .ok (.if_icmp .ge 7, 3) := by decide +kernel
theorem dX7_isBefore_45 : decode cX7_isBefore 45 = .ok (.iload_n 1, 1) := by decide +kernel
theorem dX7_isBefore_46 : decode cX7_isBefore 46 = .ok (.goto 4, 3) := by decide +kernel
theorem dX7_isBefore_49 : decode cX7_isBefore 49 = .ok (.iload_n 2, 1) := by decide +kernel
theorem dX7_isBefore_50 : decode cX7_isBefore 50 = .ok (.istore 5, 2) := by decide +kernel
theorem dX7_isBefore_52 : decode cX7_isBefore 52 = .ok (.iload_n 3, 1) := by decide +kernel
theorem dX7_isBefore_53 : decode cX7_isBefore 53 = .ok (.iload 4, 2) := by decide +kernel
theorem dX7_isBefore_55 : decode cX7_isBefore 55 = .ok (.if_icmp .ge 7, 3) := by decide +kernel
theorem dX7_isBefore_58 : decode cX7_isBefore 58 = .ok (.iload_n 3, 1) := by decide +kernel
theorem dX7_isBefore_59 : decode cX7_isBefore 59 = .ok (.goto 5, 3) := by decide +kernel
theorem dX7_isBefore_62 : decode cX7_isBefore 62 = .ok (.iload 4, 2) := by decide +kernel
theorem dX7_isBefore_64 : decode cX7_isBefore 64 = .ok (.istore 6, 2) := by decide +kernel
theorem dX7_isBefore_66 : decode cX7_isBefore 66 = .ok (.iload 5, 2) := by decide +kernel
theorem dX7_isBefore_68 : decode cX7_isBefore 68 = .ok (.iload 6, 2) := by decide +kernel
theorem dX7_isBefore_70 : decode cX7_isBefore 70 = .ok (.if_icmp .eq 18, 3) := by decide +kernel
theorem dX7_isBefore_73 : decode cX7_isBefore 73 = .ok (.iload 5, 2) := by decide +kernel
theorem dX7_isBefore_75 : decode cX7_isBefore 75 = .ok (.iload 6, 2) := by decide +kernel
theorem dX7_isBefore_77 : decode cX7_isBefore 77 = .ok (.if_icmp .ge 7, 3) := by decide +kernel
theorem dX7_isBefore_80 : decode cX7_isBefore 80 = .ok (.iconst 1, 1) := by decide +kernel
theorem dX7_isBefore_81 : decode cX7_isBefore 81 = .ok (.goto 37, 3) := by decide +kernel
theorem dX7_isBefore_84 : decode cX7_isBefore 84 = .ok (.iconst 0, 1) := by decide +kernel
theorem dX7_isBefore_85 : decode cX7_isBefore 85 = .ok (.goto 33, 3) := by decide +kernel
theorem dX7_isBefore_88 : decode cX7_isBefore 88 = .ok (.iload_n 1, 1) := by decide +kernel
theorem dX7_isBefore_89 : decode cX7_isBefore 89 = .ok (.iload_n 2, 1) := by decide +kernel
theorem dX7_isBefore_90 : decode cX7_isBefore 90 = .ok (.if_icmp .ge 7, 3) := by decide +kernel
theorem dX7_isBefore_93 : decode cX7_isBefore 93 = .ok (.iload_n 2, 1) := by decide +kernel
theorem dX7_isBefore_94 : decode cX7_isBefore 94 = .ok (.goto 4, 3) := by decide +kernel
theorem dX7_isBefore_97 : decode cX7_isBefore 97 = .ok (.iload_n 1, 1) := by decide +kernel
theorem dX7_isBefore_98 : decode cX7_isBefore 98 = .ok (.iload_n 3, 1) := by decide +kernel
theorem dX7_isBefore_99 : decode cX7_isBefore 99 = .ok (.iload 4, 2) := by decide +kernel
theorem dX7_isBefore_101 : decode cX7_isBefore 101 = .ok (.if_icmp .ge 8, 3) := by decide +kernel
theorem dX7_isBefore_104 : decode cX7_isBefore 104 = .ok (.iload 4, 2) := by decide +kernel
theorem dX7_isBefore_106 : decode cX7_isBefore 106 = .ok (.goto 4, 3) := by decide +kernel
theorem dX7_isBefore_109 : decode cX7_isBefore 109 = .ok (.iload_n 3, 1) := by decide +kernel
theorem dX7_isBefore_110 : decode cX7_isBefore 110 = .ok (.if_icmp .ge 7, 3) := by decide +kernel
theorem dX7_isBefore_113 : decode cX7_isBefore 113 = .ok (.iconst 1, 1) := by decide +kernel
theorem dX7_isBefore_114 : decode cX7_isBefore 114 = .ok (.goto 4, 3) := by decide +kernel
theorem dX7_isBefore_117 : decode cX7_isBefore 117 = .ok (.iconst 0, 1) := by decide +kernel
theorem dX7_isBefore_118 : decode cX7_isBefore 118 = .ok (.ireturn, 1) := by decide +kernel
set_option maxRecDepth 20000 in
theorem ggX7_take_X7_price : GoodIn wsX7_take wsX7_price := goodIn_r _ [7, 8, 9, 10, 11, 12, 13, 6, 14, 15, 16, 17, 18, 19, 20, 21, 22, 23, 24, 25, 26, 27, 28, 29, 30, 31, 32, 33, 34, 35, 36] (by decide +kernel) (by decide +kernel)
set_option maxRecDepth 20000 in
theorem gX7_take_X7_price : GoodIn wsX7_take (wsV RX7 72 RX7 yX7_price wsX7_price) := goodIn_app (goodIn_of _ (by decide +kernel)) ggX7_take_X7_price
theorem dX7_take_0 : decode cX7_take 0 = .ok (.aload_n 0, 1) := by decide +kernel
theorem dX7_take_1 : decode cX7_take 1 = .ok (.getfield 20, 3) := by decide +kernel
theorem dX7_take_4 : decode cX7_take 4 = .ok (.iload_n 1, 1) := by decide +kernel
theorem dX7_take_5 : decode cX7_take 5 = .ok (.dup2, 1) := by decide +kernel
theorem dX7_take_6 : decode cX7_take 6 = .ok (.iaload, 1) := by decide +kernel
theorem dX7_take_7 : decode cX7_take 7 = .ok (.iconst 1, 1) := by decide +kernel
theorem dX7_take_8 : decode cX7_take 8 = .ok (.iadd, 1) := by decide +kernel
theorem dX7_take_9 : decode cX7_take 9 = .ok (.iastore, 1) := by decide +kernel
theorem dX7_take_10 : decode cX7_take 10 = .ok (.aload_n 0, 1) := by decide +kernel
theorem dX7_take_11 : decode cX7_take 11 = .ok (.getfield 20, 3) := by decide +kernel
theorem dX7_take_14 : decode cX7_take 14 = .ok (.iload_n 2, 1) := by decide +kernel
theorem dX7_take_15 : decode cX7_take 15 = .ok (.dup2, 1) := by decide +kernel
theorem dX7_take_16 : decode cX7_take 16 = .ok (.iaload, 1) := by decide +kernel
theorem dX7_take_17 : decode cX7_take 17 = .ok (.iconst 1, 1) := by decide +kernel
theorem dX7_take_18 : decode cX7_take 18 = .ok (.iadd, 1) := by decide +kernel
theorem dX7_take_19 : decode cX7_take 19 = .ok (.iastore, 1) := by decide +kernel
theorem dX7_take_20 : decode cX7_take 20 = .ok (.aload_n 0, 1) := by decide +kernel
theorem dX7_take_21 : decode cX7_take 21 = .ok (.aload_n 0, 1) := by decide +kernel
theorem dX7_take_22 : decode cX7_take 22 = .ok (.getfield 75, 3) := by decide +kernel
theorem dX7_take_25 : decode cX7_take 25 = .ok (.aload_n 0, 1) := by decide +kernel
theorem dX7_take_26 : decode cX7_take 26 = .ok (.iload_n 1, 1) := by decide +kernel
theorem dX7_take_27 : decode cX7_take 27 = .ok (.iload_n 2, 1) := by decide +kernel
theorem dX7_take_28 : decode cX7_take 28 = .ok (.invokevirtual 72, 3) := by decide +kernel
theorem dX7_take_31 : decode cX7_take 31 = .ok (.ladd, 1) := by decide +kernel
theorem dX7_take_32 : decode cX7_take 32 = .ok (.putfield 75, 3) := by decide +kernel
theorem dX7_take_35 : decode cX7_take 35 = .ok (.return_, 1) := by decide +kernel
set_option maxRecDepth 20000 in
theorem ggX7_link_X7_length : GoodIn wsX7_link wsX7_length := goodIn_r _ [12, 13, 14, 15, 11, 16, 17, 30, 31, 32, 33, 34, 35, 36, 37, 38, 39, 40, 41, 42, 43, 44, 45, 46] (by decide +kernel) (by decide +kernel)
set_option maxRecDepth 20000 in
theorem gX7_link_X7_length : GoodIn wsX7_link (wsV RX7 67 RX7 yX7_length wsX7_length) := goodIn_app (goodIn_of _ (by decide +kernel)) ggX7_link_X7_length
set_option maxRecDepth 20000 in
theorem ggX7_link_X7_isBefore : GoodIn wsX7_link wsX7_isBefore := goodIn_r _ [21, 22, 23, 24, 11, 25, 5, 6, 7, 8, 9, 10, 12, 13, 14, 15, 16, 17, 30, 31, 32, 33, 34, 35, 36, 37, 38, 39, 40, 41, 42, 43, 44, 45, 46] (by decide +kernel) (by decide +kernel)
set_option maxRecDepth 20000 in
theorem gX7_link_X7_isBefore : GoodIn wsX7_link (wsV RX7 79 RX7 yX7_isBefore wsX7_isBefore) := goodIn_app (goodIn_of _ (by decide +kernel)) ggX7_link_X7_isBefore
set_option maxRecDepth 20000 in
theorem ggX7_link_X7_take : GoodIn wsX7_link wsX7_take := goodIn_r _ [29, 3, 1, 22, 23, 24, 11, 25, 5, 6, 7, 8, 9, 10, 12, 13, 14, 15, 16, 17, 30, 31, 32, 33, 34, 35, 36, 37, 38, 39, 40, 41, 42, 43, 44, 45, 46] (by decide +kernel) (by decide +kernel)
set_option maxRecDepth 20000 in
theorem gX7_link_X7_take : GoodIn wsX7_link (wsV RX7 83 RX7 yX7_take wsX7_take) := goodIn_app (goodIn_of _ (by decide +kernel)) ggX7_link_X7_take
theorem dX7_link_0 : decode cX7_link 0 = .ok (.aload_n 0, 1) := by decide +kernel
theorem dX7_link_1 : decode cX7_link 1 = .ok (.lconst 0, 1) := by decide +kernel
theorem dX7_link_2 : decode cX7_link 2 = .ok (.putfield 75, 3) := by decide +kernel
theorem dX7_link_5 : decode cX7_link 5 = .ok (.iconst 0, 1) := by decide +kernel
theorem dX7_link_6 : decode cX7_link 6 = .ok (.istore_n 1, 1) := by decide +kernel
theorem dX7_link_7 : decode cX7_link 7 = .ok (.iload_n 1, 1) := by decide +kernel
theorem dX7_link_8 : decode cX7_link 8 = .ok (.aload_n 0, 1) := by decide +kernel
theorem dX7_link_9 : decode cX7_link 9 = .ok (.getfield 48, 3) := by decide +kernel
theorem dX7_link_12 : decode cX7_link 12 = .ok (.if_icmp .ge 32, 3) := by decide +kernel
theorem dX7_link_15 : decode cX7_link 15 = .ok (.aload_n 0, 1) := by decide +kernel
theorem dX7_link_16 : decode cX7_link 16 = .ok (.getfield 20, 3) := by decide +kernel
theorem dX7_link_19 : decode cX7_link 19 = .ok (.iload_n 1, 1) := by decide +kernel
theorem dX7_link_20 : decode cX7_link 20 = .ok (.iconst 0, 1) := by decide +kernel
theorem dX7_link_21 : decode cX7_link 21 = .ok (.iastore, 1) := by decide +kernel
theorem dX7_link_22 : decode cX7_link 22 = .ok (.aload_n 0, 1) := by decide +kernel
theorem dX7_link_23 : decode cX7_link 23 = .ok (.getfield 23, 3) := by decide +kernel
theorem dX7_link_26 : decode cX7_link 26 = .ok (.iload_n 1, 1) := by decide +kernel
theorem dX7_link_27 : decode cX7_link 27 = .ok (.iload_n 1, 1) := by decide +kernel
theorem dX7_link_28 : decode cX7_link 28 = .ok (.iconst 1, 1) := by decide +kernel
theorem dX7_link_29 : decode cX7_link 29 = .ok (.if_icmp .ne 7, 3) := by decide +kernel
theorem dX7_link_32 : decode cX7_link 32 = .ok (.iconst 1, 1) := by decide +kernel
theorem dX7_link_33 : decode cX7_link 33 = .ok (.goto 4, 3) := by decide +kernel
theorem dX7_link_36 : decode cX7_link 36 = .ok (.iconst 0, 1) := by decide +kernel
theorem dX7_link_37 : decode cX7_link 37 = .ok (.bastore, 1) := by decide +kernel
theorem dX7_link_38 : decode cX7_link 38 = .ok (.iinc 1 1, 3) := by decide +kernel
theorem dX7_link_41 : decode cX7_link 41 = .ok (.goto (-34), 3) := by decide +kernel
theorem dX7_link_44 : decode cX7_link 44 = .ok (.iconst 2, 1) := by decide +kernel
theorem dX7_link_45 : decode cX7_link 45 = .ok (.istore_n 1, 1) := by decide +kernel
theorem dX7_link_46 : decode cX7_link 46 = .ok (.iload_n 1, 1) := by decide +kernel
theorem dX7_link_47 : decode cX7_link 47 = .ok (.aload_n 0, 1) := by decide +kernel
theorem dX7_link_48 : decode cX7_link 48 = .ok (.getfield 48, 3) := by decide +kernel
theorem dX7_link_51 : decode cX7_link 51 = .ok (.if_icmp .ge 126, 3) := by decide +kernel
theorem dX7_link_54 : decode cX7_link 54 = .ok (.iconst 0, 1) := by decide +kernel
theorem dX7_link_55 : decode cX7_link 55 = .ok (.istore_n 2, 1) := by decide +kernel
theorem dX7_link_56 : decode cX7_link 56 = .ok (.iconst 0, 1) := by decide +kernel
theorem dX7_link_57 : decode cX7_link 57 = .ok (.istore_n 3, 1) := by decide +kernel
theorem dX7_link_58 : decode cX7_link 58 = .ok (.iconst 1, 1) := by decide +kernel
theorem dX7_link_59 : decode cX7_link 59 = .ok (.istore 4, 2) := by decide +kernel
theorem dX7_link_61 : decode cX7_link 61 = .ok (.iload 4, 2) := by decide +kernel
theorem dX7_link_63 : decode cX7_link 63 = .ok (.aload_n 0, 1) := by decide +kernel
theorem dX7_link_64 : decode cX7_link 64 = .ok (.getfield 48, 3) := by decide +kernel
theorem dX7_link_67 : decode cX7_link 67 = .ok (.if_icmp .ge 85, 3) := by decide +kernel
theorem dX7_link_70 : decode cX7_link 70 = .ok (.iconst 1, 1) := by decide +kernel
theorem dX7_link_71 : decode cX7_link 71 = .ok (.istore 5, 2) := by decide +kernel
theorem dX7_link_73 : decode cX7_link 73 = .ok (.iload 5, 2) := by decide +kernel
theorem dX7_link_75 : decode cX7_link 75 = .ok (.aload_n 0, 1) := by decide +kernel
theorem dX7_link_76 : decode cX7_link 76 = .ok (.getfield 48, 3) := by decide +kernel
theorem dX7_link_79 : decode cX7_link 79 = .ok (.if_icmp .ge 67, 3) := by decide +kernel
theorem dX7_link_82 : decode cX7_link 82 = .ok (.aload_n 0, 1) := by decide +kernel
theorem dX7_link_83 : decode cX7_link 83 = .ok (.getfield 23, 3) := by decide +kernel
theorem dX7_link_86 : decode cX7_link 86 = .ok (.iload 4, 2) := by decide +kernel
theorem dX7_link_88 : decode cX7_link 88 = .ok (.baload, 1) := by decide +kernel
theorem dX7_link_89 : decode cX7_link 89 = .ok (.ifCond .eq 51, 3) := by decide +kernel
theorem dX7_link_92 : decode cX7_link 92 = .ok (.aload_n 0, 1) := by decide +kernel
theorem dX7_link_93 : decode cX7_link 93 = .ok (.getfield 23, 3) := by decide +kernel
theorem dX7_link_96 : decode cX7_link 96 = .ok (.iload 5, 2) := by decide +kernel
theorem dX7_link_98 : decode cX7_link 98 = .ok (.baload, 1) := by decide +kernel
theorem dX7_link_99 : decode cX7_link 99 = .ok (.ifCond .ne 41, 3) := by decide +kernel
theorem dX7_link_102 : decode cX7_link 102 = .ok (.aload_n 0, 1) := by decide +kernel
theorem dX7_link_103 : decode cX7_link 103 = .ok (.iload 4, 2) := by decide +kernel
theorem dX7_link_105 : decode cX7_link 105 = .ok (.iload 5, 2) := by decide +kernel
theorem dX7_link_107 : decode cX7_link 107 = .ok (.invokevirtual 67, 3) := by decide +kernel
theorem dX7_link_110 : decode cX7_link 110 = .ok (.ldc2_w 52, 3) := by decide +kernel
theorem dX7_link_113 : decode cX7_link 113 = .ok (.lcmp, 1) := by decide +kernel
theorem dX7_link_114 : decode cX7_link 114 = .ok (.ifCond .ge 26, 3) := by decide +kernel
theorem dX7_link_117 : decode cX7_link 117 = .ok (.iload_n 3, 1) := by decide +kernel
theorem dX7_link_118 : decode cX7_link 118 = .ok (.ifCond .eq 16, 3) := by decide +kernel
theorem dX7_link_121 : decode cX7_link 121 = .ok (.aload_n 0, 1) := by decide +kernel
theorem dX7_link_122 : decode cX7_link 122 = .ok (.iload 4, 2) := by decide +kernel
theorem dX7_link_124 : decode cX7_link 124 = .ok (.iload 5, 2) := by decide +kernel
theorem dX7_link_126 : decode cX7_link 126 = .ok (.iload_n 2, 1) := by decide +kernel
theorem dX7_link_127 : decode cX7_link 127 = .ok (.iload_n 3, 1) := by decide +kernel
theorem dX7_link_128 : decode cX7_link 128 = .ok (.invokevirtual 79, 3) := by decide +kernel
theorem dX7_link_131 : decode cX7_link 131 = .ok (.ifCond .eq 9, 3) := by decide +kernel
theorem dX7_link_134 : decode cX7_link 134 = .ok (.iload 4, 2) := by decide +kernel
theorem dX7_link_136 : decode cX7_link 136 = .ok (.istore_n 2, 1) := by decide +kernel
theorem dX7_link_137 : decode cX7_link 137 = .ok (.iload 5, 2) := by decide +kernel
theorem dX7_link_139 : decode cX7_link 139 = .ok (.istore_n 3, 1) := by decide +kernel
theorem dX7_link_140 : decode cX7_link 140 = .ok (.iinc 5 1, 3) := by decide +kernel
theorem dX7_link_143 : decode cX7_link 143 = .ok (.goto (-70), 3) := by decide +kernel
theorem dX7_link_146 : decode cX7_link 146 = .ok (.iinc 4 1, 3) := by decide +kernel
theorem dX7_link_149 : decode cX7_link 149 = .ok (.goto (-88), 3) := by decide +kernel
theorem dX7_link_152 : decode cX7_link 152 = .ok (.iload_n 3, 1) := by decide +kernel
theorem dX7_link_153 : decode cX7_link 153 = .ok (.ifCond .ne 5, 3) := by decide +kernel
theorem dX7_link_156 : decode cX7_link 156 = .ok (.iconst 0, 1) := by decide +kernel
theorem dX7_link_157 : decode cX7_link 157 = .ok (.ireturn, 1) := by decide +kernel
theorem dX7_link_158 : decode cX7_link 158 = .ok (.aload_n 0, 1) := by decide +kernel
theorem dX7_link_159 : decode cX7_link 159 = .ok (.getfield 23, 3) := by decide +kernel
theorem dX7_link_162 : decode cX7_link 162 = .ok (.iload_n 3, 1) := by decide +kernel
theorem dX7_link_163 : decode cX7_link 163 = .ok (.iconst 1, 1) := by decide +kernel
theorem dX7_link_164 : decode cX7_link 164 = .ok (.bastore, 1) := by decide +kernel
theorem dX7_link_165 : decode cX7_link 165 = .ok (.aload_n 0, 1) := by decide +kernel
theorem dX7_link_166 : decode cX7_link 166 = .ok (.iload_n 2, 1) := by decide +kernel
theorem dX7_link_167 : decode cX7_link 167 = .ok (.iload_n 3, 1) := by decide +kernel
theorem dX7_link_168 : decode cX7_link 168 = .ok (.invokevirtual 83, 3) := by decide +kernel
theorem dX7_link_171 : decode cX7_link 171 = .ok (.iinc 1 1, 3) := by decide +kernel
theorem dX7_link_174 : decode cX7_link 174 = .ok (.goto (-128), 3) := by decide +kernel
theorem dX7_link_177 : decode cX7_link 177 = .ok (.iconst 0, 1) := by decide +kernel
theorem dX7_link_178 : decode cX7_link 178 = .ok (.istore_n 1, 1) := by decide +kernel
theorem dX7_link_179 : decode cX7_link 179 = .ok (.iconst 0, 1) := by decide +kernel
theorem dX7_link_180 : decode cX7_link 180 = .ok (.istore_n 2, 1) := by decide +kernel
theorem dX7_link_181 : decode cX7_link 181 = .ok (.iload_n 2, 1) := by decide +kernel
theorem dX7_link_182 : decode cX7_link 182 = .ok (.iconst 2, 1) := by decide +kernel
theorem dX7_link_183 : decode cX7_link 183 = .ok (.if_icmp .ge 82, 3) := by decide +kernel
theorem dX7_link_186 : decode cX7_link 186 = .ok (.iconst 0, 1) := by decide +kernel
theorem dX7_link_187 : decode cX7_link 187 = .ok (.istore_n 3, 1) := by decide +kernel
theorem dX7_link_188 : decode cX7_link 188 = .ok (.iconst 1, 1) := by decide +kernel
theorem dX7_link_189 : decode cX7_link 189 = .ok (.istore 4, 2) := by decide +kernel
theorem dX7_link_191 : decode cX7_link 191 = .ok (.iload 4, 2) := by decide +kernel
theorem dX7_link_193 : decode cX7_link 193 = .ok (.aload_n 0, 1) := by decide +kernel
theorem dX7_link_194 : decode cX7_link 194 = .ok (.getfield 48, 3) := by decide +kernel
theorem dX7_link_197 : decode cX7_link 197 = .ok (.if_icmp .ge 48, 3) := by decide +kernel
theorem dX7_link_200 : decode cX7_link 200 = .ok (.aload_n 0, 1) := by decide +kernel
theorem dX7_link_201 : decode cX7_link 201 = .ok (.iconst 0, 1) := by decide +kernel
theorem dX7_link_202 : decode cX7_link 202 = .ok (.iload 4, 2) := by decide +kernel
theorem dX7_link_204 : decode cX7_link 204 = .ok (.invokevirtual 67, 3) := by decide +kernel
theorem dX7_link_207 : decode cX7_link 207 = .ok (.ldc2_w 52, 3) := by decide +kernel
theorem dX7_link_210 : decode cX7_link 210 = .ok (.lcmp, 1) := by decide +kernel
theorem dX7_link_211 : decode cX7_link 211 = .ok (.ifCond .ge 28, 3) := by decide +kernel
theorem dX7_link_214 : decode cX7_link 214 = .ok (.iload 4, 2) := by decide +kernel
theorem dX7_link_216 : decode cX7_link 216 = .ok (.iload_n 1, 1) := by decide +kernel
theorem dX7_link_217 : decode cX7_link 217 = .ok (.if_icmp .eq 22, 3) := by decide +kernel
theorem dX7_link_220 : decode cX7_link 220 = .ok (.iload_n 3, 1) := by decide +kernel
theorem dX7_link_221 : decode cX7_link 221 = .ok (.ifCond .eq 15, 3) := by decide +kernel
theorem dX7_link_224 : decode cX7_link 224 = .ok (.aload_n 0, 1) := by decide +kernel
theorem dX7_link_225 : decode cX7_link 225 = .ok (.iconst 0, 1) := by decide +kernel
theorem dX7_link_226 : decode cX7_link 226 = .ok (.iload 4, 2) := by decide +kernel
theorem dX7_link_228 : decode cX7_link 228 = .ok (.iconst 0, 1) := by decide +kernel
theorem dX7_link_229 : decode cX7_link 229 = .ok (.iload_n 3, 1) := by decide +kernel
theorem dX7_link_230 : decode cX7_link 230 = .ok (.invokevirtual 79, 3) := by decide +kernel
theorem dX7_link_233 : decode cX7_link 233 = .ok (.ifCond .eq 6, 3) := by decide +kernel
theorem dX7_link_236 : decode cX7_link 236 = .ok (.iload 4, 2) := by decide +kernel
theorem dX7_link_238 : decode cX7_link 238 = .ok (.istore_n 3, 1) := by decide +kernel
theorem dX7_link_239 : decode cX7_link 239 = .ok (.iinc 4 1, 3) := by decide +kernel
theorem dX7_link_242 : decode cX7_link 242 = .ok (.goto (-51), 3) := by decide +kernel
theorem dX7_link_245 : decode cX7_link 245 = .ok (.iload_n 3, 1) := by decide +kernel
theorem dX7_link_246 : decode cX7_link 246 = .ok (.ifCond .ne 5, 3) := by decide +kernel
theorem dX7_link_249 : decode cX7_link 249 = .ok (.iconst 0, 1) := by decide +kernel
theorem dX7_link_250 : decode cX7_link 250 = .ok (.ireturn, 1) := by decide +kernel
theorem dX7_link_251 : decode cX7_link 251 = .ok (.aload_n 0, 1) := by decide +kernel
theorem dX7_link_252 : decode cX7_link 252 = .ok (.iconst 0, 1) := by decide +kernel
theorem dX7_link_253 : decode cX7_link 253 = .ok (.iload_n 3, 1) := by decide +kernel
theorem dX7_link_254 : decode cX7_link 254 = .ok (.invokevirtual 83, 3) := by decide +kernel
theorem dX7_link_257 : decode cX7_link 257 = .ok (.iload_n 3, 1) := by decide +kernel
theorem dX7_link_258 : decode cX7_link 258 = .ok (.istore_n 1, 1) := by decide +kernel
theorem dX7_link_259 : decode cX7_link 259 = .ok (.iinc 2 1, 3) := by decide +kernel
theorem dX7_link_262 : decode cX7_link 262 = .ok (.goto (-81), 3) := by decide +kernel
theorem dX7_link_265 : decode cX7_link 265 = .ok (.iconst 0, 1) := by decide +kernel
theorem dX7_link_266 : decode cX7_link 266 = .ok (.istore_n 2, 1) := by decide +kernel
theorem dX7_link_267 : decode cX7_link 267 = .ok (.iload_n 2, 1) := by decide +kernel
theorem dX7_link_268 : decode cX7_link 268 = .ok (.aload_n 0, 1) := by decide +kernel
theorem dX7_link_269 : decode cX7_link 269 = .ok (.getfield 48, 3) := by decide +kernel
theorem dX7_link_272 : decode cX7_link 272 = .ok (.if_icmp .ge 28, 3) := by decide +kernel
theorem dX7_link_275 : decode cX7_link 275 = .ok (.aload_n 0, 1) := by decide +kernel
theorem dX7_link_276 : decode cX7_link 276 = .ok (.aload_n 0, 1) := by decide +kernel
theorem dX7_link_277 : decode cX7_link 277 = .ok (.getfield 75, 3) := by decide +kernel
theorem dX7_link_280 : decode cX7_link 280 = .ok (.ldc2_w 70, 3) := by decide +kernel
theorem dX7_link_283 : decode cX7_link 283 = .ok (.aload_n 0, 1) := by decide +kernel
theorem dX7_link_284 : decode cX7_link 284 = .ok (.getfield 17, 3) := by decide +kernel
theorem dX7_link_287 : decode cX7_link 287 = .ok (.iload_n 2, 1) := by decide +kernel
theorem dX7_link_288 : decode cX7_link 288 = .ok (.laload, 1) := by decide +kernel
theorem dX7_link_289 : decode cX7_link 289 = .ok (.lmul, 1) := by decide +kernel
theorem dX7_link_290 : decode cX7_link 290 = .ok (.lsub, 1) := by decide +kernel
theorem dX7_link_291 : decode cX7_link 291 = .ok (.putfield 75, 3) := by decide +kernel
theorem dX7_link_294 : decode cX7_link 294 = .ok (.iinc 2 1, 3) := by decide +kernel
theorem dX7_link_297 : decode cX7_link 297 = .ok (.goto (-30), 3) := by decide +kernel
theorem dX7_link_300 : decode cX7_link 300 = .ok (.iconst 1, 1) := by decide +kernel
theorem dX7_link_301 : decode cX7_link 301 = .ok (.ireturn, 1) := by decide +kernel
set_option maxRecDepth 20000 in
theorem ggX7_grow_X7_link : GoodIn wsX7_grow wsX7_link := goodIn_r _ [12, 6, 1, 7, 13, 5, 14, 2, 15, 16, 17, 11, 18, 19, 20, 21, 22, 23, 24, 25, 26, 27, 28, 29, 30, 31, 32, 33, 34, 35, 36, 37, 38, 39, 40, 41, 42, 43, 44, 45, 46, 47, 48, 49, 50, 51, 52] (by decide +kernel) (by decide +kernel)
set_option maxRecDepth 20000 in
theorem gX7_grow_X7_link : GoodIn wsX7_grow (wsV RX7 92 RX7 yX7_link wsX7_link) := goodIn_app (goodIn_of _ (by decide +kernel)) ggX7_grow_X7_link
theorem dX7_grow_0 : decode cX7_grow 0 = .ok (.iconst 0, 1) := by decide +kernel
theorem dX7_grow_1 : decode cX7_grow 1 = .ok (.istore_n 2, 1) := by decide +kernel
theorem dX7_grow_2 : decode cX7_grow 2 = .ok (.iload_n 2, 1) := by decide +kernel
theorem dX7_grow_3 : decode cX7_grow 3 = .ok (.aload_n 0, 1) := by decide +kernel
theorem dX7_grow_4 : decode cX7_grow 4 = .ok (.getfield 48, 3) := by decide +kernel
theorem dX7_grow_7 : decode cX7_grow 7 = .ok (.if_icmp .ge 16, 3) := by decide +kernel
theorem dX7_grow_10 : decode cX7_grow 10 = .ok (.aload_n 0, 1) := by decide +kernel
theorem dX7_grow_11 : decode cX7_grow 11 = .ok (.getfield 17, 3) := by decide +kernel
theorem dX7_grow_14 : decode cX7_grow 14 = .ok (.iload_n 2, 1) := by decide +kernel
theorem dX7_grow_15 : decode cX7_grow 15 = .ok (.lconst 0, 1) := by decide +kernel
theorem dX7_grow_16 : decode cX7_grow 16 = .ok (.lastore, 1) := by decide +kernel
theorem dX7_grow_17 : decode cX7_grow 17 = .ok (.iinc 2 1, 3) := by decide +kernel
theorem dX7_grow_20 : decode cX7_grow 20 = .ok (.goto (-18), 3) := by decide +kernel
theorem dX7_grow_23 : decode cX7_grow 23 = .ok (.ldc2_w 87, 3) := by decide +kernel
theorem dX7_grow_26 : decode cX7_grow 26 = .ok (.lstore_n 2, 1) := by decide +kernel
theorem dX7_grow_27 : decode cX7_grow 27 = .ok (.aload_n 0, 1) := by decide +kernel
theorem dX7_grow_28 : decode cX7_grow 28 = .ok (.iconst 0, 1) := by decide +kernel
theorem dX7_grow_29 : decode cX7_grow 29 = .ok (.putfield 89, 3) := by decide +kernel
theorem dX7_grow_32 : decode cX7_grow 32 = .ok (.iconst 1, 1) := by decide +kernel
theorem dX7_grow_33 : decode cX7_grow 33 = .ok (.istore 4, 2) := by decide +kernel
theorem dX7_grow_35 : decode cX7_grow 35 = .ok (.iload 4, 2) := by decide +kernel
theorem dX7_grow_37 : decode cX7_grow 37 = .ok (.iload_n 1, 1) := by decide +kernel
theorem dX7_grow_38 : decode cX7_grow 38 = .ok (.if_icmp .gt 134, 3) := by decide +kernel
theorem dX7_grow_41 : decode cX7_grow 41 = .ok (.aload_n 0, 1) := by decide +kernel
theorem dX7_grow_42 : decode cX7_grow 42 = .ok (.invokevirtual 92, 3) := by decide +kernel
theorem dX7_grow_45 : decode cX7_grow 45 = .ok (.ifCond .ne 7, 3) := by decide +kernel
theorem dX7_grow_48 : decode cX7_grow 48 = .ok (.ldc2_w 52, 3) := by decide +kernel
theorem dX7_grow_51 : decode cX7_grow 51 = .ok (.lreturn, 1) := by decide +kernel
theorem dX7_grow_52 : decode cX7_grow 52 = .ok (.aload_n 0, 1) := by decide +kernel
theorem dX7_grow_53 : decode cX7_grow 53 = .ok (.getfield 75, 3) := by decide +kernel
theorem dX7_grow_56 : decode cX7_grow 56 = .ok (.lload_n 2, 1) := by decide +kernel
theorem dX7_grow_57 : decode cX7_grow 57 = .ok (.lcmp, 1) := by decide +kernel
theorem dX7_grow_58 : decode cX7_grow 58 = .ok (.ifCond .le 14, 3) := by decide +kernel
theorem dX7_grow_61 : decode cX7_grow 61 = .ok (.aload_n 0, 1) := by decide +kernel
theorem dX7_grow_62 : decode cX7_grow 62 = .ok (.getfield 75, 3) := by decide +kernel
theorem dX7_grow_65 : decode cX7_grow 65 = .ok (.lstore_n 2, 1) := by decide +kernel
theorem dX7_grow_66 : decode cX7_grow 66 = .ok (.aload_n 0, 1) := by decide +kernel
theorem dX7_grow_67 : decode cX7_grow 67 = .ok (.iload 4, 2) := by decide +kernel
theorem dX7_grow_69 : decode cX7_grow 69 = .ok (.putfield 89, 3) := by decide +kernel
theorem dX7_grow_72 : decode cX7_grow 72 = .ok (.iload 4, 2) := by decide +kernel
theorem dX7_grow_74 : decode cX7_grow 74 = .ok (.iconst 5, 1) := by decide +kernel
theorem dX7_grow_75 : decode cX7_grow 75 = .ok (.if_icmp .ge 8, 3) := by decide +kernel
theorem dX7_grow_78 : decode cX7_grow 78 = .ok (.bipush 16, 2) := by decide +kernel
theorem dX7_grow_80 : decode cX7_grow 80 = .ok (.goto 38, 3) := by decide +kernel
theorem dX7_grow_83 : decode cX7_grow 83 = .ok (.iload 4, 2) := by decide +kernel
theorem dX7_grow_85 : decode cX7_grow 85 = .ok (.bipush 9, 2) := by decide +kernel
theorem dX7_grow_87 : decode cX7_grow 87 = .ok (.if_icmp .ge 8, 3) := by decide +kernel
theorem dX7_grow_90 : decode cX7_grow 90 = .ok (.bipush 8, 2) := by decide +kernel
theorem dX7_grow_92 : decode cX7_grow 92 = .ok (.goto 26, 3) := by decide +kernel
theorem dX7_grow_95 : decode cX7_grow 95 = .ok (.iload 4, 2) := by decide +kernel
theorem dX7_grow_97 : decode cX7_grow 97 = .ok (.bipush 13, 2) := by decide +kernel
theorem dX7_grow_99 : decode cX7_grow 99 = .ok (.if_icmp .ge 7, 3) := by decide +kernel
theorem dX7_grow_102 : decode cX7_grow 102 = .ok (.iconst 4, 1) := by decide +kernel
theorem dX7_grow_103 : decode cX7_grow 103 = .ok (.goto 15, 3) := by decide +kernel
theorem dX7_grow_106 : decode cX7_grow 106 = .ok (.iload 4, 2) := by decide +kernel
theorem dX7_grow_108 : decode cX7_grow 108 = .ok (.bipush 17, 2) := by decide +kernel
theorem dX7_grow_110 : decode cX7_grow 110 = .ok (.if_icmp .ge 7, 3) := by decide +kernel
theorem dX7_grow_113 : decode cX7_grow 113 = .ok (.iconst 2, 1) := by decide +kernel
theorem dX7_grow_114 : decode cX7_grow 114 = .ok (.goto 4, 3) := by decide +kernel
theorem dX7_grow_117 : decode cX7_grow 117 = .ok (.iconst 1, 1) := by decide +kernel
theorem dX7_grow_118 : decode cX7_grow 118 = .ok (.istore 5, 2) := by decide +kernel
theorem dX7_grow_120 : decode cX7_grow 120 = .ok (.iconst 0, 1) := by decide +kernel
theorem dX7_grow_121 : decode cX7_grow 121 = .ok (.istore 6, 2) := by decide +kernel
theorem dX7_grow_123 : decode cX7_grow 123 = .ok (.iload 6, 2) := by decide +kernel
theorem dX7_grow_125 : decode cX7_grow 125 = .ok (.aload_n 0, 1) := by decide +kernel
theorem dX7_grow_126 : decode cX7_grow 126 = .ok (.getfield 48, 3) := by decide +kernel
theorem dX7_grow_129 : decode cX7_grow 129 = .ok (.if_icmp .ge 37, 3) := by decide +kernel
theorem dX7_grow_132 : decode cX7_grow 132 = .ok (.aload_n 0, 1) := by decide +kernel
theorem dX7_grow_133 : decode cX7_grow 133 = .ok (.getfield 17, 3) := by decide +kernel
theorem dX7_grow_136 : decode cX7_grow 136 = .ok (.iload 6, 2) := by decide +kernel
theorem dX7_grow_138 : decode cX7_grow 138 = .ok (.aload_n 0, 1) := by decide +kernel
theorem dX7_grow_139 : decode cX7_grow 139 = .ok (.getfield 17, 3) := by decide +kernel
theorem dX7_grow_142 : decode cX7_grow 142 = .ok (.iload 6, 2) := by decide +kernel
theorem dX7_grow_144 : decode cX7_grow 144 = .ok (.laload, 1) := by decide +kernel
theorem dX7_grow_145 : decode cX7_grow 145 = .ok (.aload_n 0, 1) := by decide +kernel
theorem dX7_grow_146 : decode cX7_grow 146 = .ok (.getfield 20, 3) := by decide +kernel
theorem dX7_grow_149 : decode cX7_grow 149 = .ok (.iload 6, 2) := by decide +kernel
theorem dX7_grow_151 : decode cX7_grow 151 = .ok (.iaload, 1) := by decide +kernel
theorem dX7_grow_152 : decode cX7_grow 152 = .ok (.iconst 2, 1) := by decide +kernel
theorem dX7_grow_153 : decode cX7_grow 153 = .ok (.isub, 1) := by decide +kernel
theorem dX7_grow_154 : decode cX7_grow 154 = .ok (.iload 5, 2) := by decide +kernel
theorem dX7_grow_156 : decode cX7_grow 156 = .ok (.imul, 1) := by decide +kernel
theorem dX7_grow_157 : decode cX7_grow 157 = .ok (.i2l, 1) := by decide +kernel
theorem dX7_grow_158 : decode cX7_grow 158 = .ok (.ladd, 1) := by decide +kernel
theorem dX7_grow_159 : decode cX7_grow 159 = .ok (.lastore, 1) := by decide +kernel
theorem dX7_grow_160 : decode cX7_grow 160 = .ok (.iinc 6 1, 3) := by decide +kernel
theorem dX7_grow_163 : decode cX7_grow 163 = .ok (.goto (-40), 3) := by decide +kernel
theorem dX7_grow_166 : decode cX7_grow 166 = .ok (.iinc 4 1, 3) := by decide +kernel
theorem dX7_grow_169 : decode cX7_grow 169 = .ok (.goto (-134), 3) := by decide +kernel
theorem dX7_grow_172 : decode cX7_grow 172 = .ok (.lload_n 2, 1) := by decide +kernel
theorem dX7_grow_173 : decode cX7_grow 173 = .ok (.lreturn, 1) := by decide +kernel
theorem dX7_half_0 : decode cX7_half 0 = .ok (.lload_n 0, 1) := by decide +kernel
theorem dX7_half_1 : decode cX7_half 1 = .ok (.ldc2_w 52, 3) := by decide +kernel
theorem dX7_half_4 : decode cX7_half 4 = .ok (.lcmp, 1) := by decide +kernel
theorem dX7_half_5 : decode cX7_half 5 = .ok (.ifCond .ne 9, 3) := by decide +kernel
theorem dX7_half_8 : decode cX7_half 8 = .ok (.ldc2_w 96, 3) := by decide +kernel
theorem dX7_half_11 : decode cX7_half 11 = .ok (.goto 20, 3) := by decide +kernel
theorem dX7_half_14 : decode cX7_half 14 = .ok (.lload_n 0, 1) := by decide +kernel
theorem dX7_half_15 : decode cX7_half 15 = .ok (.lconst 0, 1) := by decide +kernel
theorem dX7_half_16 : decode cX7_half 16 = .ok (.lcmp, 1) := by decide +kernel
theorem dX7_half_17 : decode cX7_half 17 = .ok (.ifCond .ge 7, 3) := by decide +kernel
theorem dX7_half_20 : decode cX7_half 20 = .ok (.lconst 0, 1) := by decide +kernel
theorem dX7_half_21 : decode cX7_half 21 = .ok (.goto 10, 3) := by decide +kernel
theorem dX7_half_24 : decode cX7_half 24 = .ok (.lload_n 0, 1) := by decide +kernel
theorem dX7_half_25 : decode cX7_half 25 = .ok (.lconst 1, 1) := by decide +kernel
theorem dX7_half_26 : decode cX7_half 26 = .ok (.ladd, 1) := by decide +kernel
theorem dX7_half_27 : decode cX7_half 27 = .ok (.ldc2_w 70, 3) := by decide +kernel
theorem dX7_half_30 : decode cX7_half 30 = .ok (.ldiv, 1) := by decide +kernel
theorem dX7_half_31 : decode cX7_half 31 = .ok (.lreturn, 1) := by decide +kernel
set_option maxRecDepth 20000 in
theorem ggX7_tree_X7_grow : GoodIn wsX7_tree wsX7_grow := goodIn_r _ [6, 7, 8, 9, 10, 11, 12, 13, 14, 15, 16, 5, 17, 18, 19, 20, 21, 22, 23, 24, 25, 26, 27, 28, 29, 30, 31, 32, 33, 34, 35, 36, 37, 38, 39, 40, 45, 46, 47, 48, 49, 50, 51, 52, 53, 54, 55, 56, 57, 58, 59, 60, 61] (by decide +kernel) (by decide +kernel)
set_option maxRecDepth 20000 in
theorem gX7_tree_X7_grow : GoodIn wsX7_tree (wsV RX7 98 RX7 yX7_grow wsX7_grow) := goodIn_app (goodIn_of _ (by decide +kernel)) ggX7_tree_X7_grow
set_option maxRecDepth 20000 in
theorem ggX7_tree_X7_half : GoodIn wsX7_tree wsX7_half := goodIn_r _ [43, 11, 44, 19] (by decide +kernel) (by decide +kernel)
set_option maxRecDepth 20000 in
theorem gX7_tree_X7_half : GoodIn wsX7_tree (va_wsS RX7 102 yX7_half wsX7_half) := goodIn_app (goodIn_of _ (by decide +kernel)) ggX7_tree_X7_half
theorem dX7_tree_0 : decode cX7_tree 0 = .ok (.aload_n 0, 1) := by decide +kernel
theorem dX7_tree_1 : decode cX7_tree 1 = .ok (.iconst 0, 1) := by decide +kernel
theorem dX7_tree_2 : decode cX7_tree 2 = .ok (.putfield 54, 3) := by decide +kernel
theorem dX7_tree_5 : decode cX7_tree 5 = .ok (.aload_n 0, 1) := by decide +kernel
theorem dX7_tree_6 : decode cX7_tree 6 = .ok (.iload_n 1, 1) := by decide +kernel
theorem dX7_tree_7 : decode cX7_tree 7 = .ok (.iconst 1, 1) := by decide +kernel
theorem dX7_tree_8 : decode cX7_tree 8 = .ok (.if_icmp .ge 7, 3) := by decide +kernel
theorem dX7_tree_11 : decode cX7_tree 11 = .ok (.iconst 1, 1) := by decide +kernel
theorem dX7_tree_12 : decode cX7_tree 12 = .ok (.goto 15, 3) := by decide +kernel
theorem dX7_tree_15 : decode cX7_tree 15 = .ok (.iload_n 1, 1) := by decide +kernel
theorem dX7_tree_16 : decode cX7_tree 16 = .ok (.bipush 50, 2) := by decide +kernel
theorem dX7_tree_18 : decode cX7_tree 18 = .ok (.if_icmp .le 8, 3) := by decide +kernel
theorem dX7_tree_21 : decode cX7_tree 21 = .ok (.bipush 50, 2) := by decide +kernel
theorem dX7_tree_23 : decode cX7_tree 23 = .ok (.goto 4, 3) := by decide +kernel
theorem dX7_tree_26 : decode cX7_tree 26 = .ok (.iload_n 1, 1) := by decide +kernel
theorem dX7_tree_27 : decode cX7_tree 27 = .ok (.invokevirtual 98, 3) := by decide +kernel
theorem dX7_tree_30 : decode cX7_tree 30 = .ok (.invokestatic 102, 3) := by decide +kernel
theorem dX7_tree_33 : decode cX7_tree 33 = .ok (.lreturn, 1) := by decide +kernel
theorem dX7_rounds_0 : decode cX7_rounds 0 = .ok (.aload_n 0, 1) := by decide +kernel
theorem dX7_rounds_1 : decode cX7_rounds 1 = .ok (.iconst 0, 1) := by decide +kernel
theorem dX7_rounds_2 : decode cX7_rounds 2 = .ok (.putfield 54, 3) := by decide +kernel
theorem dX7_rounds_5 : decode cX7_rounds 5 = .ok (.aload_n 0, 1) := by decide +kernel
theorem dX7_rounds_6 : decode cX7_rounds 6 = .ok (.getfield 89, 3) := by decide +kernel
theorem dX7_rounds_9 : decode cX7_rounds 9 = .ok (.ireturn, 1) := by decide +kernel
set_option maxRecDepth 20000 in
theorem ggX7_assignNow_X7_way_ : GoodIn wsX7_assignNow wsX7_way_ := goodIn_r _ [9, 10, 11, 12, 13, 14, 15, 16, 17, 18, 19, 20, 21, 22, 23, 24, 25, 26, 27] (by decide +kernel) (by decide +kernel)
set_option maxRecDepth 20000 in
theorem gX7_assignNow_X7_way_ : GoodIn wsX7_assignNow (wsV RX7 63 RX7 yX7_way_ wsX7_way_) := goodIn_app (goodIn_of _ (by decide +kernel)) ggX7_assignNow_X7_way_
theorem dX7_assignNow_0 : decode cX7_assignNow 0 = .ok (.iconst 1, 1) := by decide +kernel
theorem dX7_assignNow_1 : decode cX7_assignNow 1 = .ok (.aload_n 0, 1) := by decide +kernel
theorem dX7_assignNow_2 : decode cX7_assignNow 2 = .ok (.getfield 48, 3) := by decide +kernel
theorem dX7_assignNow_5 : decode cX7_assignNow 5 = .ok (.ishl, 1) := by decide +kernel
theorem dX7_assignNow_6 : decode cX7_assignNow 6 = .ok (.istore_n 1, 1) := by decide +kernel
theorem dX7_assignNow_7 : decode cX7_assignNow 7 = .ok (.iconst 0, 1) := by decide +kernel
theorem dX7_assignNow_8 : decode cX7_assignNow 8 = .ok (.istore_n 2, 1) := by decide +kernel
theorem dX7_assignNow_9 : decode cX7_assignNow 9 = .ok (.iload_n 2, 1) := by decide +kernel
theorem dX7_assignNow_10 : decode cX7_assignNow 10 = .ok (.iload_n 1, 1) := by decide +kernel
theorem dX7_assignNow_11 : decode cX7_assignNow 11 = .ok (.if_icmp .ge 26, 3) := by decide +kernel
theorem dX7_assignNow_14 : decode cX7_assignNow 14 = .ok (.aload_n 0, 1) := by decide +kernel
theorem dX7_assignNow_15 : decode cX7_assignNow 15 = .ok (.getfield 27, 3) := by decide +kernel
theorem dX7_assignNow_18 : decode cX7_assignNow 18 = .ok (.iload_n 2, 1) := by decide +kernel
theorem dX7_assignNow_19 : decode cX7_assignNow 19 = .ok (.iload_n 2, 1) := by decide +kernel
theorem dX7_assignNow_20 : decode cX7_assignNow 20 = .ok (.ifCond .ne 7, 3) := by decide +kernel
theorem dX7_assignNow_23 : decode cX7_assignNow 23 = .ok (.lconst 0, 1) := by decide +kernel
theorem dX7_assignNow_24 : decode cX7_assignNow 24 = .ok (.goto 6, 3) := by decide +kernel
theorem dX7_assignNow_27 : decode cX7_assignNow 27 = .ok (.ldc2_w 52, 3) := by decide +kernel
theorem dX7_assignNow_30 : decode cX7_assignNow 30 = .ok (.lastore, 1) := by decide +kernel
theorem dX7_assignNow_31 : decode cX7_assignNow 31 = .ok (.iinc 2 1, 3) := by decide +kernel
theorem dX7_assignNow_34 : decode cX7_assignNow 34 = .ok (.goto (-25), 3) := by decide +kernel
theorem dX7_assignNow_37 : decode cX7_assignNow 37 = .ok (.iconst 0, 1) := by decide +kernel
theorem dX7_assignNow_38 : decode cX7_assignNow 38 = .ok (.istore_n 2, 1) := by decide +kernel
theorem dX7_assignNow_39 : decode cX7_assignNow 39 = .ok (.iload_n 2, 1) := by decide +kernel
theorem dX7_assignNow_40 : decode cX7_assignNow 40 = .ok (.iload_n 1, 1) := by decide +kernel
theorem dX7_assignNow_41 : decode cX7_assignNow 41 = .ok (.if_icmp .ge 147, 3) := by decide +kernel
theorem dX7_assignNow_44 : decode cX7_assignNow 44 = .ok (.iconst 0, 1) := by decide +kernel
theorem dX7_assignNow_45 : decode cX7_assignNow 45 = .ok (.istore_n 3, 1) := by decide +kernel
theorem dX7_assignNow_46 : decode cX7_assignNow 46 = .ok (.iconst 0, 1) := by decide +kernel
theorem dX7_assignNow_47 : decode cX7_assignNow 47 = .ok (.istore 4, 2) := by decide +kernel
theorem dX7_assignNow_49 : decode cX7_assignNow 49 = .ok (.iload 4, 2) := by decide +kernel
theorem dX7_assignNow_51 : decode cX7_assignNow 51 = .ok (.aload_n 0, 1) := by decide +kernel
theorem dX7_assignNow_52 : decode cX7_assignNow 52 = .ok (.getfield 48, 3) := by decide +kernel
theorem dX7_assignNow_55 : decode cX7_assignNow 55 = .ok (.if_icmp .ge 18, 3) := by decide +kernel
theorem dX7_assignNow_58 : decode cX7_assignNow 58 = .ok (.iload_n 3, 1) := by decide +kernel
theorem dX7_assignNow_59 : decode cX7_assignNow 59 = .ok (.iload_n 2, 1) := by decide +kernel
theorem dX7_assignNow_60 : decode cX7_assignNow 60 = .ok (.iload 4, 2) := by decide +kernel
theorem dX7_assignNow_62 : decode cX7_assignNow 62 = .ok (.ishr, 1) := by decide +kernel
theorem dX7_assignNow_63 : decode cX7_assignNow 63 = .ok (.iconst 1, 1) := by decide +kernel
theorem dX7_assignNow_64 : decode cX7_assignNow 64 = .ok (.iand, 1) := by decide +kernel
theorem dX7_assignNow_65 : decode cX7_assignNow 65 = .ok (.iadd, 1) := by decide +kernel
theorem dX7_assignNow_66 : decode cX7_assignNow 66 = .ok (.istore_n 3, 1) := by decide +kernel
theorem dX7_assignNow_67 : decode cX7_assignNow 67 = .ok (.iinc 4 1, 3) := by decide +kernel
theorem dX7_assignNow_70 : decode cX7_assignNow 70 = .ok (.goto (-21), 3) := by decide +kernel
theorem dX7_assignNow_73 : decode cX7_assignNow 73 = .ok (.iconst 0, 1) := by decide +kernel
theorem dX7_assignNow_74 : decode cX7_assignNow 74 = .ok (.istore 4, 2) := by decide +kernel
theorem dX7_assignNow_76 : decode cX7_assignNow 76 = .ok (.iload 4, 2) := by decide +kernel
theorem dX7_assignNow_78 : decode cX7_assignNow 78 = .ok (.aload_n 0, 1) := by decide +kernel
theorem dX7_assignNow_79 : decode cX7_assignNow 79 = .ok (.getfield 48, 3) := by decide +kernel
theorem dX7_assignNow_82 : decode cX7_assignNow 82 = .ok (.if_icmp .ge 100, 3) := by decide +kernel
theorem dX7_assignNow_85 : decode cX7_assignNow 85 = .ok (.iload_n 3, 1) := by decide +kernel
theorem dX7_assignNow_86 : decode cX7_assignNow 86 = .ok (.aload_n 0, 1) := by decide +kernel
theorem dX7_assignNow_87 : decode cX7_assignNow 87 = .ok (.getfield 48, 3) := by decide +kernel
theorem dX7_assignNow_90 : decode cX7_assignNow 90 = .ok (.if_icmp .ge 92, 3) := by decide +kernel
theorem dX7_assignNow_93 : decode cX7_assignNow 93 = .ok (.iload_n 2, 1) := by decide +kernel
theorem dX7_assignNow_94 : decode cX7_assignNow 94 = .ok (.iload 4, 2) := by decide +kernel
theorem dX7_assignNow_96 : decode cX7_assignNow 96 = .ok (.ishr, 1) := by decide +kernel
theorem dX7_assignNow_97 : decode cX7_assignNow 97 = .ok (.iconst 1, 1) := by decide +kernel
theorem dX7_assignNow_98 : decode cX7_assignNow 98 = .ok (.iand, 1) := by decide +kernel
theorem dX7_assignNow_99 : decode cX7_assignNow 99 = .ok (.ifCond .ne 77, 3) := by decide +kernel
theorem dX7_assignNow_102 : decode cX7_assignNow 102 = .ok (.iload 4, 2) := by decide +kernel
theorem dX7_assignNow_104 : decode cX7_assignNow 104 = .ok (.iload_n 3, 1) := by decide +kernel
theorem dX7_assignNow_105 : decode cX7_assignNow 105 = .ok (.if_icmp .eq 71, 3) := by decide +kernel
theorem dX7_assignNow_108 : decode cX7_assignNow 108 = .ok (.aload_n 0, 1) := by decide +kernel
theorem dX7_assignNow_109 : decode cX7_assignNow 109 = .ok (.iload_n 3, 1) := by decide +kernel
theorem dX7_assignNow_110 : decode cX7_assignNow 110 = .ok (.iload 4, 2) := by decide +kernel
theorem dX7_assignNow_112 : decode cX7_assignNow 112 = .ok (.invokevirtual 63, 3) := by decide +kernel
theorem dX7_assignNow_115 : decode cX7_assignNow 115 = .ok (.ldc2_w 52, 3) := by decide +kernel
theorem dX7_assignNow_118 : decode cX7_assignNow 118 = .ok (.lcmp, 1) := by decide +kernel
theorem dX7_assignNow_119 : decode cX7_assignNow 119 = .ok (.ifCond .ge 57, 3) := by decide +kernel
theorem dX7_assignNow_122 : decode cX7_assignNow 122 = .ok (.aload_n 0, 1) := by decide +kernel
theorem dX7_assignNow_123 : decode cX7_assignNow 123 = .ok (.getfield 27, 3) := by decide +kernel
theorem dX7_assignNow_126 : decode cX7_assignNow 126 = .ok (.iload_n 2, 1) := by decide +kernel
theorem dX7_assignNow_127 : decode cX7_assignNow 127 = .ok (.laload, 1) := by decide +kernel
theorem dX7_assignNow_128 : decode cX7_assignNow 128 = .ok (.aload_n 0, 1) := by decide +kernel
theorem dX7_assignNow_129 : decode cX7_assignNow 129 = .ok (.iload_n 3, 1) := by decide +kernel
theorem dX7_assignNow_130 : decode cX7_assignNow 130 = .ok (.iload 4, 2) := by decide +kernel
theorem dX7_assignNow_132 : decode cX7_assignNow 132 = .ok (.invokevirtual 63, 3) := by decide +kernel
theorem dX7_assignNow_135 : decode cX7_assignNow 135 = .ok (.ladd, 1) := by decide +kernel
theorem dX7_assignNow_136 : decode cX7_assignNow 136 = .ok (.aload_n 0, 1) := by decide +kernel
theorem dX7_assignNow_137 : decode cX7_assignNow 137 = .ok (.getfield 27, 3) := by decide +kernel
theorem dX7_assignNow_140 : decode cX7_assignNow 140 = .ok (.iload_n 2, 1) := by decide +kernel
theorem dX7_assignNow_141 : decode cX7_assignNow 141 = .ok (.iconst 1, 1) := by decide +kernel
theorem dX7_assignNow_142 : decode cX7_assignNow 142 = .ok (.iload 4, 2) := by decide +kernel
theorem dX7_assignNow_144 : decode cX7_assignNow 144 = .ok (.ishl, 1) := by decide +kernel
theorem dX7_assignNow_145 : decode cX7_assignNow 145 = .ok (.ior, 1) := by decide +kernel
theorem dX7_assignNow_146 : decode cX7_assignNow 146 = .ok (.laload, 1) := by decide +kernel
theorem dX7_assignNow_147 : decode cX7_assignNow 147 = .ok (.lcmp, 1) := by decide +kernel
theorem dX7_assignNow_148 : decode cX7_assignNow 148 = .ok (.ifCond .ge 28, 3) := by decide +kernel
theorem dX7_assignNow_151 : decode cX7_assignNow 151 = .ok (.aload_n 0, 1) := by decide +kernel
theorem dX7_assignNow_152 : decode cX7_assignNow 152 = .ok (.getfield 27, 3) := by decide +kernel
theorem dX7_assignNow_155 : decode cX7_assignNow 155 = .ok (.iload_n 2, 1) := by decide +kernel
theorem dX7_assignNow_156 : decode cX7_assignNow 156 = .ok (.iconst 1, 1) := by decide +kernel
theorem dX7_assignNow_157 : decode cX7_assignNow 157 = .ok (.iload 4, 2) := by decide +kernel
theorem dX7_assignNow_159 : decode cX7_assignNow 159 = .ok (.ishl, 1) := by decide +kernel
theorem dX7_assignNow_160 : decode cX7_assignNow 160 = .ok (.ior, 1) := by decide +kernel
theorem dX7_assignNow_161 : decode cX7_assignNow 161 = .ok (.aload_n 0, 1) := by decide +kernel
theorem dX7_assignNow_162 : decode cX7_assignNow 162 = .ok (.getfield 27, 3) := by decide +kernel
theorem dX7_assignNow_165 : decode cX7_assignNow 165 = .ok (.iload_n 2, 1) := by decide +kernel
theorem dX7_assignNow_166 : decode cX7_assignNow 166 = .ok (.laload, 1) := by decide +kernel
theorem dX7_assignNow_167 : decode cX7_assignNow 167 = .ok (.aload_n 0, 1) := by decide +kernel
theorem dX7_assignNow_168 : decode cX7_assignNow 168 = .ok (.iload_n 3, 1) := by decide +kernel
theorem dX7_assignNow_169 : decode cX7_assignNow 169 = .ok (.iload 4, 2) := by decide +kernel
theorem dX7_assignNow_171 : decode cX7_assignNow 171 = .ok (.invokevirtual 63, 3) := by decide +kernel
theorem dX7_assignNow_174 : decode cX7_assignNow 174 = .ok (.ladd, 1) := by decide +kernel
theorem dX7_assignNow_175 : decode cX7_assignNow 175 = .ok (.lastore, 1) := by decide +kernel
theorem dX7_assignNow_176 : decode cX7_assignNow 176 = .ok (.iinc 4 1, 3) := by decide +kernel
theorem dX7_assignNow_179 : decode cX7_assignNow 179 = .ok (.goto (-103), 3) := by decide +kernel
theorem dX7_assignNow_182 : decode cX7_assignNow 182 = .ok (.iinc 2 1, 3) := by decide +kernel
theorem dX7_assignNow_185 : decode cX7_assignNow 185 = .ok (.goto (-146), 3) := by decide +kernel
theorem dX7_assignNow_188 : decode cX7_assignNow 188 = .ok (.aload_n 0, 1) := by decide +kernel
theorem dX7_assignNow_189 : decode cX7_assignNow 189 = .ok (.getfield 27, 3) := by decide +kernel
theorem dX7_assignNow_192 : decode cX7_assignNow 192 = .ok (.iload_n 1, 1) := by decide +kernel
theorem dX7_assignNow_193 : decode cX7_assignNow 193 = .ok (.iconst 1, 1) := by decide +kernel
theorem dX7_assignNow_194 : decode cX7_assignNow 194 = .ok (.isub, 1) := by decide +kernel
theorem dX7_assignNow_195 : decode cX7_assignNow 195 = .ok (.laload, 1) := by decide +kernel
theorem dX7_assignNow_196 : decode cX7_assignNow 196 = .ok (.ldc2_w 52, 3) := by decide +kernel
theorem dX7_assignNow_199 : decode cX7_assignNow 199 = .ok (.lcmp, 1) := by decide +kernel
theorem dX7_assignNow_200 : decode cX7_assignNow 200 = .ok (.ifCond .ne 9, 3) := by decide +kernel
theorem dX7_assignNow_203 : decode cX7_assignNow 203 = .ok (.ldc2_w 96, 3) := by decide +kernel
theorem dX7_assignNow_206 : decode cX7_assignNow 206 = .ok (.goto 11, 3) := by decide +kernel
theorem dX7_assignNow_209 : decode cX7_assignNow 209 = .ok (.aload_n 0, 1) := by decide +kernel
theorem dX7_assignNow_210 : decode cX7_assignNow 210 = .ok (.getfield 27, 3) := by decide +kernel
theorem dX7_assignNow_213 : decode cX7_assignNow 213 = .ok (.iload_n 1, 1) := by decide +kernel
theorem dX7_assignNow_214 : decode cX7_assignNow 214 = .ok (.iconst 1, 1) := by decide +kernel
theorem dX7_assignNow_215 : decode cX7_assignNow 215 = .ok (.isub, 1) := by decide +kernel
theorem dX7_assignNow_216 : decode cX7_assignNow 216 = .ok (.laload, 1) := by decide +kernel
theorem dX7_assignNow_217 : decode cX7_assignNow 217 = .ok (.lreturn, 1) := by decide +kernel
set_option maxRecDepth 20000 in
theorem ggX7_assign_X7_assignNow : GoodIn wsX7_assign wsX7_assignNow := goodIn_r _ [6, 7, 8, 9, 10, 11, 12, 13, 5, 14, 15, 16, 17, 18, 19, 20, 21, 22, 23, 24, 25, 26, 27, 28, 29, 30, 31, 32] (by decide +kernel) (by decide +kernel)
set_option maxRecDepth 20000 in
theorem gX7_assign_X7_assignNow : GoodIn wsX7_assign (wsV RX7 106 RX7 yX7_assignNow wsX7_assignNow) := goodIn_app (goodIn_of _ (by decide +kernel)) ggX7_assign_X7_assignNow
theorem dX7_assign_0 : decode cX7_assign 0 = .ok (.aload_n 0, 1) := by decide +kernel
theorem dX7_assign_1 : decode cX7_assign 1 = .ok (.iconst 0, 1) := by decide +kernel
theorem dX7_assign_2 : decode cX7_assign 2 = .ok (.putfield 54, 3) := by decide +kernel
theorem dX7_assign_5 : decode cX7_assign 5 = .ok (.aload_n 0, 1) := by decide +kernel
theorem dX7_assign_6 : decode cX7_assign 6 = .ok (.invokevirtual 106, 3) := by decide +kernel
theorem dX7_assign_9 : decode cX7_assign 9 = .ok (.lreturn, 1) := by decide +kernel
set_option maxRecDepth 20000 in
theorem ggX7_cut_X7_isPlace : GoodIn wsX7_cut wsX7_isPlace := goodIn_r _ [9, 4, 19, 20, 21, 22, 23, 24, 25, 26, 27, 28, 29, 30, 31, 32, 33, 34, 35] (by decide +kernel) (by decide +kernel)
set_option maxRecDepth 20000 in
theorem gX7_cut_X7_isPlace : GoodIn wsX7_cut (wsV RX7 57 RX7 yX7_isPlace wsX7_isPlace) := goodIn_app (goodIn_of _ (by decide +kernel)) ggX7_cut_X7_isPlace
set_option maxRecDepth 20000 in
theorem ggX7_cut_X7_length : GoodIn wsX7_cut wsX7_length := goodIn_r _ [13, 14, 15, 16, 8, 17, 18, 19, 20, 21, 22, 23, 24, 25, 26, 27, 28, 29, 30, 31, 32, 33, 34, 35] (by decide +kernel) (by decide +kernel)
set_option maxRecDepth 20000 in
theorem gX7_cut_X7_length : GoodIn wsX7_cut (wsV RX7 67 RX7 yX7_length wsX7_length) := goodIn_app (goodIn_of _ (by decide +kernel)) ggX7_cut_X7_length
theorem dX7_cut_0 : decode cX7_cut 0 = .ok (.aload_n 0, 1) := by decide +kernel
theorem dX7_cut_1 : decode cX7_cut 1 = .ok (.iconst 0, 1) := by decide +kernel
theorem dX7_cut_2 : decode cX7_cut 2 = .ok (.putfield 54, 3) := by decide +kernel
theorem dX7_cut_5 : decode cX7_cut 5 = .ok (.aload_n 0, 1) := by decide +kernel
theorem dX7_cut_6 : decode cX7_cut 6 = .ok (.iload_n 1, 1) := by decide +kernel
theorem dX7_cut_7 : decode cX7_cut 7 = .ok (.invokevirtual 57, 3) := by decide +kernel
theorem dX7_cut_10 : decode cX7_cut 10 = .ok (.ifCond .eq 16, 3) := by decide +kernel
theorem dX7_cut_13 : decode cX7_cut 13 = .ok (.aload_n 0, 1) := by decide +kernel
theorem dX7_cut_14 : decode cX7_cut 14 = .ok (.iload_n 2, 1) := by decide +kernel
theorem dX7_cut_15 : decode cX7_cut 15 = .ok (.invokevirtual 57, 3) := by decide +kernel
theorem dX7_cut_18 : decode cX7_cut 18 = .ok (.ifCond .eq 8, 3) := by decide +kernel
theorem dX7_cut_21 : decode cX7_cut 21 = .ok (.iload_n 1, 1) := by decide +kernel
theorem dX7_cut_22 : decode cX7_cut 22 = .ok (.iload_n 2, 1) := by decide +kernel
theorem dX7_cut_23 : decode cX7_cut 23 = .ok (.if_icmp .ne 7, 3) := by decide +kernel
theorem dX7_cut_26 : decode cX7_cut 26 = .ok (.ldc2_w 96, 3) := by decide +kernel
theorem dX7_cut_29 : decode cX7_cut 29 = .ok (.lreturn, 1) := by decide +kernel
theorem dX7_cut_30 : decode cX7_cut 30 = .ok (.ldc2_w 52, 3) := by decide +kernel
theorem dX7_cut_33 : decode cX7_cut 33 = .ok (.lstore_n 3, 1) := by decide +kernel
theorem dX7_cut_34 : decode cX7_cut 34 = .ok (.iconst 0, 1) := by decide +kernel
theorem dX7_cut_35 : decode cX7_cut 35 = .ok (.istore 5, 2) := by decide +kernel
theorem dX7_cut_37 : decode cX7_cut 37 = .ok (.iload 5, 2) := by decide +kernel
theorem dX7_cut_39 : decode cX7_cut 39 = .ok (.iconst 1, 1) := by decide +kernel
theorem dX7_cut_40 : decode cX7_cut 40 = .ok (.aload_n 0, 1) := by decide +kernel
theorem dX7_cut_41 : decode cX7_cut 41 = .ok (.getfield 48, 3) := by decide +kernel
theorem dX7_cut_44 : decode cX7_cut 44 = .ok (.ishl, 1) := by decide +kernel
theorem dX7_cut_45 : decode cX7_cut 45 = .ok (.if_icmp .ge 147, 3) := by decide +kernel
theorem dX7_cut_48 : decode cX7_cut 48 = .ok (.iload 5, 2) := by decide +kernel
theorem dX7_cut_50 : decode cX7_cut 50 = .ok (.iload_n 1, 1) := by decide +kernel
theorem dX7_cut_51 : decode cX7_cut 51 = .ok (.ishr, 1) := by decide +kernel
theorem dX7_cut_52 : decode cX7_cut 52 = .ok (.iconst 1, 1) := by decide +kernel
theorem dX7_cut_53 : decode cX7_cut 53 = .ok (.iand, 1) := by decide +kernel
theorem dX7_cut_54 : decode cX7_cut 54 = .ok (.iconst 1, 1) := by decide +kernel
theorem dX7_cut_55 : decode cX7_cut 55 = .ok (.if_icmp .ne 131, 3) := by decide +kernel
theorem dX7_cut_58 : decode cX7_cut 58 = .ok (.iload 5, 2) := by decide +kernel
theorem dX7_cut_60 : decode cX7_cut 60 = .ok (.iload_n 2, 1) := by decide +kernel
theorem dX7_cut_61 : decode cX7_cut 61 = .ok (.ishr, 1) := by decide +kernel
theorem dX7_cut_62 : decode cX7_cut 62 = .ok (.iconst 1, 1) := by decide +kernel
theorem dX7_cut_63 : decode cX7_cut 63 = .ok (.iand, 1) := by decide +kernel
theorem dX7_cut_64 : decode cX7_cut 64 = .ok (.ifCond .ne 122, 3) := by decide +kernel
theorem dX7_cut_67 : decode cX7_cut 67 = .ok (.lconst 0, 1) := by decide +kernel
theorem dX7_cut_68 : decode cX7_cut 68 = .ok (.lstore 6, 2) := by decide +kernel
theorem dX7_cut_70 : decode cX7_cut 70 = .ok (.iconst 0, 1) := by decide +kernel
theorem dX7_cut_71 : decode cX7_cut 71 = .ok (.istore 8, 2) := by decide +kernel
theorem dX7_cut_73 : decode cX7_cut 73 = .ok (.iload 8, 2) := by decide +kernel
theorem dX7_cut_75 : decode cX7_cut 75 = .ok (.aload_n 0, 1) := by decide +kernel
theorem dX7_cut_76 : decode cX7_cut 76 = .ok (.getfield 48, 3) := by decide +kernel
theorem dX7_cut_79 : decode cX7_cut 79 = .ok (.if_icmp .ge 93, 3) := by decide +kernel
theorem dX7_cut_82 : decode cX7_cut 82 = .ok (.iconst 0, 1) := by decide +kernel
theorem dX7_cut_83 : decode cX7_cut 83 = .ok (.istore 9, 2) := by decide +kernel
theorem dX7_cut_85 : decode cX7_cut 85 = .ok (.iload 9, 2) := by decide +kernel
theorem dX7_cut_87 : decode cX7_cut 87 = .ok (.aload_n 0, 1) := by decide +kernel
theorem dX7_cut_88 : decode cX7_cut 88 = .ok (.getfield 48, 3) := by decide +kernel
theorem dX7_cut_91 : decode cX7_cut 91 = .ok (.if_icmp .ge 75, 3) := by decide +kernel
theorem dX7_cut_94 : decode cX7_cut 94 = .ok (.iload 5, 2) := by decide +kernel
theorem dX7_cut_96 : decode cX7_cut 96 = .ok (.iload 8, 2) := by decide +kernel
theorem dX7_cut_98 : decode cX7_cut 98 = .ok (.ishr, 1) := by decide +kernel
theorem dX7_cut_99 : decode cX7_cut 99 = .ok (.iconst 1, 1) := by decide +kernel
theorem dX7_cut_100 : decode cX7_cut 100 = .ok (.iand, 1) := by decide +kernel
theorem dX7_cut_101 : decode cX7_cut 101 = .ok (.iconst 1, 1) := by decide +kernel
theorem dX7_cut_102 : decode cX7_cut 102 = .ok (.if_icmp .ne 32, 3) := by decide +kernel
theorem dX7_cut_105 : decode cX7_cut 105 = .ok (.iload 5, 2) := by decide +kernel
theorem dX7_cut_107 : decode cX7_cut 107 = .ok (.iload 9, 2) := by decide +kernel
theorem dX7_cut_109 : decode cX7_cut 109 = .ok (.ishr, 1) := by decide +kernel
theorem dX7_cut_110 : decode cX7_cut 110 = .ok (.iconst 1, 1) := by decide +kernel
theorem dX7_cut_111 : decode cX7_cut 111 = .ok (.iand, 1) := by decide +kernel
theorem dX7_cut_112 : decode cX7_cut 112 = .ok (.ifCond .ne 22, 3) := by decide +kernel
theorem dX7_cut_115 : decode cX7_cut 115 = .ok (.aload_n 0, 1) := by decide +kernel
theorem dX7_cut_116 : decode cX7_cut 116 = .ok (.iload 8, 2) := by decide +kernel
theorem dX7_cut_118 : decode cX7_cut 118 = .ok (.iload 9, 2) := by decide +kernel
theorem dX7_cut_120 : decode cX7_cut 120 = .ok (.invokevirtual 67, 3) := by decide +kernel
theorem dX7_cut_123 : decode cX7_cut 123 = .ok (.ldc2_w 52, 3) := by decide +kernel
theorem dX7_cut_126 : decode cX7_cut 126 = .ok (.lcmp, 1) := by decide +kernel
theorem dX7_cut_127 : decode cX7_cut 127 = .ok (.ifCond .ge 7, 3) := by decide +kernel
theorem dX7_cut_130 : decode cX7_cut 130 = .ok (.iconst 1, 1) := by decide +kernel
theorem dX7_cut_131 : decode cX7_cut 131 = .ok (.goto 4, 3) := by decide +kernel
theorem dX7_cut_134 : decode cX7_cut 134 = .ok (.iconst 0, 1) := by decide +kernel
theorem dX7_cut_135 : decode cX7_cut 135 = .ok (.istore 10, 2) := by decide +kernel
theorem dX7_cut_137 : decode cX7_cut 137 = .ok (.iload 10, 2) := by decide +kernel
theorem dX7_cut_139 : decode cX7_cut 139 = .ok (.ifCond .eq 17, 3) := by decide +kernel
theorem dX7_cut_142 : decode cX7_cut 142 = .ok (.lload 6, 2) := by decide +kernel
theorem dX7_cut_144 : decode cX7_cut 144 = .ok (.aload_n 0, 1) := by decide +kernel
theorem dX7_cut_145 : decode cX7_cut 145 = .ok (.iload 8, 2) := by decide +kernel
theorem dX7_cut_147 : decode cX7_cut 147 = .ok (.iload 9, 2) := by decide +kernel
theorem dX7_cut_149 : decode cX7_cut 149 = .ok (.invokevirtual 67, 3) := by decide +kernel
theorem dX7_cut_152 : decode cX7_cut 152 = .ok (.ladd, 1) := by decide +kernel
theorem dX7_cut_153 : decode cX7_cut 153 = .ok (.goto 5, 3) := by decide +kernel
theorem dX7_cut_156 : decode cX7_cut 156 = .ok (.lload 6, 2) := by decide +kernel
theorem dX7_cut_158 : decode cX7_cut 158 = .ok (.lstore 6, 2) := by decide +kernel
theorem dX7_cut_160 : decode cX7_cut 160 = .ok (.iinc 9 1, 3) := by decide +kernel
theorem dX7_cut_163 : decode cX7_cut 163 = .ok (.goto (-78), 3) := by decide +kernel
theorem dX7_cut_166 : decode cX7_cut 166 = .ok (.iinc 8 1, 3) := by decide +kernel
theorem dX7_cut_169 : decode cX7_cut 169 = .ok (.goto (-96), 3) := by decide +kernel
theorem dX7_cut_172 : decode cX7_cut 172 = .ok (.lload 6, 2) := by decide +kernel
theorem dX7_cut_174 : decode cX7_cut 174 = .ok (.lload_n 3, 1) := by decide +kernel
theorem dX7_cut_175 : decode cX7_cut 175 = .ok (.lcmp, 1) := by decide +kernel
theorem dX7_cut_176 : decode cX7_cut 176 = .ok (.ifCond .ge 8, 3) := by decide +kernel
theorem dX7_cut_179 : decode cX7_cut 179 = .ok (.lload 6, 2) := by decide +kernel
theorem dX7_cut_181 : decode cX7_cut 181 = .ok (.goto 4, 3) := by decide +kernel
theorem dX7_cut_184 : decode cX7_cut 184 = .ok (.lload_n 3, 1) := by decide +kernel
theorem dX7_cut_185 : decode cX7_cut 185 = .ok (.lstore_n 3, 1) := by decide +kernel
theorem dX7_cut_186 : decode cX7_cut 186 = .ok (.iinc 5 1, 3) := by decide +kernel
theorem dX7_cut_189 : decode cX7_cut 189 = .ok (.goto (-152), 3) := by decide +kernel
theorem dX7_cut_192 : decode cX7_cut 192 = .ok (.lload_n 3, 1) := by decide +kernel
theorem dX7_cut_193 : decode cX7_cut 193 = .ok (.lreturn, 1) := by decide +kernel
set_option maxRecDepth 20000 in
theorem ggX7_has_X7_length : GoodIn wsX7_has wsX7_length := goodIn_r _ [7, 8, 9, 10, 6, 11, 12, 13, 14, 15, 16, 17, 18, 19, 20, 21, 22, 23, 24, 25, 26, 27, 28, 29] (by decide +kernel) (by decide +kernel)
set_option maxRecDepth 20000 in
theorem gX7_has_X7_length : GoodIn wsX7_has (wsV RX7 67 RX7 yX7_length wsX7_length) := goodIn_app (goodIn_of _ (by decide +kernel)) ggX7_has_X7_length
theorem dX7_has_0 : decode cX7_has 0 = .ok (.iconst 0, 1) := by decide +kernel
theorem dX7_has_1 : decode cX7_has 1 = .ok (.istore_n 3, 1) := by decide +kernel
theorem dX7_has_2 : decode cX7_has 2 = .ok (.iconst 0, 1) := by decide +kernel
theorem dX7_has_3 : decode cX7_has 3 = .ok (.istore 4, 2) := by decide +kernel
theorem dX7_has_5 : decode cX7_has 5 = .ok (.iload 4, 2) := by decide +kernel
theorem dX7_has_7 : decode cX7_has 7 = .ok (.aload_n 0, 1) := by decide +kernel
theorem dX7_has_8 : decode cX7_has 8 = .ok (.getfield 48, 3) := by decide +kernel
theorem dX7_has_11 : decode cX7_has 11 = .ok (.if_icmp .ge 39, 3) := by decide +kernel
theorem dX7_has_14 : decode cX7_has 14 = .ok (.iload_n 3, 1) := by decide +kernel
theorem dX7_has_15 : decode cX7_has 15 = .ok (.ifCond .ne 23, 3) := by decide +kernel
theorem dX7_has_18 : decode cX7_has 18 = .ok (.iload 4, 2) := by decide +kernel
theorem dX7_has_20 : decode cX7_has 20 = .ok (.iload_n 1, 1) := by decide +kernel
theorem dX7_has_21 : decode cX7_has 21 = .ok (.if_icmp .eq 21, 3) := by decide +kernel
theorem dX7_has_24 : decode cX7_has 24 = .ok (.aload_n 0, 1) := by decide +kernel
theorem dX7_has_25 : decode cX7_has 25 = .ok (.iload_n 1, 1) := by decide +kernel
theorem dX7_has_26 : decode cX7_has 26 = .ok (.iload 4, 2) := by decide +kernel
theorem dX7_has_28 : decode cX7_has 28 = .ok (.invokevirtual 67, 3) := by decide +kernel
theorem dX7_has_31 : decode cX7_has 31 = .ok (.ldc2_w 52, 3) := by decide +kernel
theorem dX7_has_34 : decode cX7_has 34 = .ok (.lcmp, 1) := by decide +kernel
theorem dX7_has_35 : decode cX7_has 35 = .ok (.ifCond .ge 7, 3) := by decide +kernel
theorem dX7_has_38 : decode cX7_has 38 = .ok (.iconst 1, 1) := by decide +kernel
theorem dX7_has_39 : decode cX7_has 39 = .ok (.goto 4, 3) := by decide +kernel
theorem dX7_has_42 : decode cX7_has 42 = .ok (.iconst 0, 1) := by decide +kernel
theorem dX7_has_43 : decode cX7_has 43 = .ok (.istore_n 3, 1) := by decide +kernel
theorem dX7_has_44 : decode cX7_has 44 = .ok (.iinc 4 1, 3) := by decide +kernel
theorem dX7_has_47 : decode cX7_has 47 = .ok (.goto (-42), 3) := by decide +kernel
theorem dX7_has_50 : decode cX7_has 50 = .ok (.iload_n 3, 1) := by decide +kernel
theorem dX7_has_51 : decode cX7_has 51 = .ok (.ireturn, 1) := by decide +kernel
set_option maxRecDepth 20000 in
theorem ggX7_shorten_X7_way_ : GoodIn wsX7_shorten wsX7_way_ := goodIn_r _ [8, 9, 18, 19, 20, 21, 22, 23, 24, 25, 26, 27, 28, 29, 30, 31, 32, 33, 34] (by decide +kernel) (by decide +kernel)
set_option maxRecDepth 20000 in
theorem gX7_shorten_X7_way_ : GoodIn wsX7_shorten (wsV RX7 63 RX7 yX7_way_ wsX7_way_) := goodIn_app (goodIn_of _ (by decide +kernel)) ggX7_shorten_X7_way_
set_option maxRecDepth 20000 in
theorem ggX7_shorten_X7_length : GoodIn wsX7_shorten wsX7_length := goodIn_r _ [13, 4, 5, 6, 7, 8, 9, 18, 19, 20, 21, 22, 23, 24, 25, 26, 27, 28, 29, 30, 31, 32, 33, 34] (by decide +kernel) (by decide +kernel)
set_option maxRecDepth 20000 in
theorem gX7_shorten_X7_length : GoodIn wsX7_shorten (wsV RX7 67 RX7 yX7_length wsX7_length) := goodIn_app (goodIn_of _ (by decide +kernel)) ggX7_shorten_X7_length
set_option maxRecDepth 20000 in
theorem ggX7_shorten_X7_has : GoodIn wsX7_shorten wsX7_has := goodIn_r _ [17, 2, 3, 10, 11, 12, 7, 13, 4, 5, 6, 8, 9, 18, 19, 20, 21, 22, 23, 24, 25, 26, 27, 28, 29, 30, 31, 32, 33, 34] (by decide +kernel) (by decide +kernel)
set_option maxRecDepth 20000 in
theorem gX7_shorten_X7_has : GoodIn wsX7_shorten (wsV RX7 110 RX7 yX7_has wsX7_has) := goodIn_app (goodIn_of _ (by decide +kernel)) ggX7_shorten_X7_has
theorem dX7_shorten_0 : decode cX7_shorten 0 = .ok (.iconst 0, 1) := by decide +kernel
theorem dX7_shorten_1 : decode cX7_shorten 1 = .ok (.istore_n 2, 1) := by decide +kernel
theorem dX7_shorten_2 : decode cX7_shorten 2 = .ok (.iload_n 2, 1) := by decide +kernel
theorem dX7_shorten_3 : decode cX7_shorten 3 = .ok (.sipush 144, 3) := by decide +kernel
theorem dX7_shorten_6 : decode cX7_shorten 6 = .ok (.if_icmp .ge 57, 3) := by decide +kernel
theorem dX7_shorten_9 : decode cX7_shorten 9 = .ok (.iload_n 2, 1) := by decide +kernel
theorem dX7_shorten_10 : decode cX7_shorten 10 = .ok (.bipush 12, 2) := by decide +kernel
theorem dX7_shorten_12 : decode cX7_shorten 12 = .ok (.idiv, 1) := by decide +kernel
theorem dX7_shorten_13 : decode cX7_shorten 13 = .ok (.istore_n 3, 1) := by decide +kernel
theorem dX7_shorten_14 : decode cX7_shorten 14 = .ok (.iload_n 2, 1) := by decide +kernel
theorem dX7_shorten_15 : decode cX7_shorten 15 = .ok (.bipush 12, 2) := by decide +kernel
theorem dX7_shorten_17 : decode cX7_shorten 17 = .ok (.irem, 1) := by decide +kernel
theorem dX7_shorten_18 : decode cX7_shorten 18 = .ok (.istore 4, 2) := by decide +kernel
theorem dX7_shorten_20 : decode cX7_shorten 20 = .ok (.aload_n 0, 1) := by decide +kernel
theorem dX7_shorten_21 : decode cX7_shorten 21 = .ok (.getfield 30, 3) := by decide +kernel
theorem dX7_shorten_24 : decode cX7_shorten 24 = .ok (.iload_n 2, 1) := by decide +kernel
theorem dX7_shorten_25 : decode cX7_shorten 25 = .ok (.iload_n 3, 1) := by decide +kernel
theorem dX7_shorten_26 : decode cX7_shorten 26 = .ok (.iload 4, 2) := by decide +kernel
theorem dX7_shorten_28 : decode cX7_shorten 28 = .ok (.if_icmp .ne 7, 3) := by decide +kernel
theorem dX7_shorten_31 : decode cX7_shorten 31 = .ok (.lconst 0, 1) := by decide +kernel
theorem dX7_shorten_32 : decode cX7_shorten 32 = .ok (.goto 24, 3) := by decide +kernel
theorem dX7_shorten_35 : decode cX7_shorten 35 = .ok (.iload_n 1, 1) := by decide +kernel
theorem dX7_shorten_36 : decode cX7_shorten 36 = .ok (.ifCond .eq 13, 3) := by decide +kernel
theorem dX7_shorten_39 : decode cX7_shorten 39 = .ok (.aload_n 0, 1) := by decide +kernel
theorem dX7_shorten_40 : decode cX7_shorten 40 = .ok (.iload_n 3, 1) := by decide +kernel
theorem dX7_shorten_41 : decode cX7_shorten 41 = .ok (.iload 4, 2) := by decide +kernel
theorem dX7_shorten_43 : decode cX7_shorten 43 = .ok (.invokevirtual 63, 3) := by decide +kernel
theorem dX7_shorten_46 : decode cX7_shorten 46 = .ok (.goto 10, 3) := by decide +kernel
theorem dX7_shorten_49 : decode cX7_shorten 49 = .ok (.aload_n 0, 1) := by decide +kernel
theorem dX7_shorten_50 : decode cX7_shorten 50 = .ok (.iload_n 3, 1) := by decide +kernel
theorem dX7_shorten_51 : decode cX7_shorten 51 = .ok (.iload 4, 2) := by decide +kernel
theorem dX7_shorten_53 : decode cX7_shorten 53 = .ok (.invokevirtual 67, 3) := by decide +kernel
theorem dX7_shorten_56 : decode cX7_shorten 56 = .ok (.lastore, 1) := by decide +kernel
theorem dX7_shorten_57 : decode cX7_shorten 57 = .ok (.iinc 2 1, 3) := by decide +kernel
theorem dX7_shorten_60 : decode cX7_shorten 60 = .ok (.goto (-58), 3) := by decide +kernel
theorem dX7_shorten_63 : decode cX7_shorten 63 = .ok (.iconst 1, 1) := by decide +kernel
theorem dX7_shorten_64 : decode cX7_shorten 64 = .ok (.istore_n 2, 1) := by decide +kernel
theorem dX7_shorten_65 : decode cX7_shorten 65 = .ok (.iload_n 2, 1) := by decide +kernel
theorem dX7_shorten_66 : decode cX7_shorten 66 = .ok (.ifCond .eq 142, 3) := by decide +kernel
theorem dX7_shorten_69 : decode cX7_shorten 69 = .ok (.iconst 0, 1) := by decide +kernel
theorem dX7_shorten_70 : decode cX7_shorten 70 = .ok (.istore_n 2, 1) := by decide +kernel
theorem dX7_shorten_71 : decode cX7_shorten 71 = .ok (.iconst 0, 1) := by decide +kernel
theorem dX7_shorten_72 : decode cX7_shorten 72 = .ok (.istore_n 3, 1) := by decide +kernel
theorem dX7_shorten_73 : decode cX7_shorten 73 = .ok (.iload_n 3, 1) := by decide +kernel
theorem dX7_shorten_74 : decode cX7_shorten 74 = .ok (.aload_n 0, 1) := by decide +kernel
theorem dX7_shorten_75 : decode cX7_shorten 75 = .ok (.getfield 48, 3) := by decide +kernel
theorem dX7_shorten_78 : decode cX7_shorten 78 = .ok (.aload_n 0, 1) := by decide +kernel
theorem dX7_shorten_79 : decode cX7_shorten 79 = .ok (.getfield 48, 3) := by decide +kernel
theorem dX7_shorten_82 : decode cX7_shorten 82 = .ok (.imul, 1) := by decide +kernel
theorem dX7_shorten_83 : decode cX7_shorten 83 = .ok (.aload_n 0, 1) := by decide +kernel
theorem dX7_shorten_84 : decode cX7_shorten 84 = .ok (.getfield 48, 3) := by decide +kernel
theorem dX7_shorten_87 : decode cX7_shorten 87 = .ok (.imul, 1) := by decide +kernel
theorem dX7_shorten_88 : decode cX7_shorten 88 = .ok (.if_icmp .ge 117, 3) := by decide +kernel
theorem dX7_shorten_91 : decode cX7_shorten 91 = .ok (.iload_n 3, 1) := by decide +kernel
theorem dX7_shorten_92 : decode cX7_shorten 92 = .ok (.aload_n 0, 1) := by decide +kernel
theorem dX7_shorten_93 : decode cX7_shorten 93 = .ok (.getfield 48, 3) := by decide +kernel
theorem dX7_shorten_96 : decode cX7_shorten 96 = .ok (.idiv, 1) := by decide +kernel
theorem dX7_shorten_97 : decode cX7_shorten 97 = .ok (.aload_n 0, 1) := by decide +kernel
theorem dX7_shorten_98 : decode cX7_shorten 98 = .ok (.getfield 48, 3) := by decide +kernel
theorem dX7_shorten_101 : decode cX7_shorten 101 = .ok (.idiv, 1) := by decide +kernel
theorem dX7_shorten_102 : decode cX7_shorten 102 = .ok (.istore 4, 2) := by decide +kernel
theorem dX7_shorten_104 : decode cX7_shorten 104 = .ok (.iload_n 3, 1) := by decide +kernel
theorem dX7_shorten_105 : decode cX7_shorten 105 = .ok (.aload_n 0, 1) := by decide +kernel
theorem dX7_shorten_106 : decode cX7_shorten 106 = .ok (.getfield 48, 3) := by decide +kernel
theorem dX7_shorten_109 : decode cX7_shorten 109 = .ok (.idiv, 1) := by decide +kernel
theorem dX7_shorten_110 : decode cX7_shorten 110 = .ok (.aload_n 0, 1) := by decide +kernel
theorem dX7_shorten_111 : decode cX7_shorten 111 = .ok (.getfield 48, 3) := by decide +kernel
theorem dX7_shorten_114 : decode cX7_shorten 114 = .ok (.irem, 1) := by decide +kernel
theorem dX7_shorten_115 : decode cX7_shorten 115 = .ok (.istore 5, 2) := by decide +kernel
theorem dX7_shorten_117 : decode cX7_shorten 117 = .ok (.iload_n 3, 1) := by decide +kernel
theorem dX7_shorten_118 : decode cX7_shorten 118 = .ok (.aload_n 0, 1) := by decide +kernel
theorem dX7_shorten_119 : decode cX7_shorten 119 = .ok (.getfield 48, 3) := by decide +kernel
theorem dX7_shorten_122 : decode cX7_shorten 122 = .ok (.irem, 1) := by decide +kernel
theorem dX7_shorten_123 : decode cX7_shorten 123 = .ok (.istore 6, 2) := by decide +kernel
theorem dX7_shorten_125 : decode cX7_shorten 125 = .ok (.aload_n 0, 1) := by decide +kernel
theorem dX7_shorten_126 : decode cX7_shorten 126 = .ok (.getfield 30, 3) := by decide +kernel
theorem dX7_shorten_129 : decode cX7_shorten 129 = .ok (.bipush 12, 2) := by decide +kernel
theorem dX7_shorten_131 : decode cX7_shorten 131 = .ok (.iload 4, 2) := by decide +kernel
theorem dX7_shorten_133 : decode cX7_shorten 133 = .ok (.imul, 1) := by decide +kernel
theorem dX7_shorten_134 : decode cX7_shorten 134 = .ok (.iload 5, 2) := by decide +kernel
theorem dX7_shorten_136 : decode cX7_shorten 136 = .ok (.iadd, 1) := by decide +kernel
theorem dX7_shorten_137 : decode cX7_shorten 137 = .ok (.laload, 1) := by decide +kernel
theorem dX7_shorten_138 : decode cX7_shorten 138 = .ok (.aload_n 0, 1) := by decide +kernel
theorem dX7_shorten_139 : decode cX7_shorten 139 = .ok (.getfield 30, 3) := by decide +kernel
theorem dX7_shorten_142 : decode cX7_shorten 142 = .ok (.bipush 12, 2) := by decide +kernel
theorem dX7_shorten_144 : decode cX7_shorten 144 = .ok (.iload 5, 2) := by decide +kernel
theorem dX7_shorten_146 : decode cX7_shorten 146 = .ok (.imul, 1) := by decide +kernel
theorem dX7_shorten_147 : decode cX7_shorten 147 = .ok (.iload 6, 2) := by decide +kernel
theorem dX7_shorten_149 : decode cX7_shorten 149 = .ok (.iadd, 1) := by decide +kernel
theorem dX7_shorten_150 : decode cX7_shorten 150 = .ok (.laload, 1) := by decide +kernel
theorem dX7_shorten_151 : decode cX7_shorten 151 = .ok (.ladd, 1) := by decide +kernel
theorem dX7_shorten_152 : decode cX7_shorten 152 = .ok (.lstore 7, 2) := by decide +kernel
theorem dX7_shorten_154 : decode cX7_shorten 154 = .ok (.lload 7, 2) := by decide +kernel
theorem dX7_shorten_156 : decode cX7_shorten 156 = .ok (.aload_n 0, 1) := by decide +kernel
theorem dX7_shorten_157 : decode cX7_shorten 157 = .ok (.getfield 30, 3) := by decide +kernel
theorem dX7_shorten_160 : decode cX7_shorten 160 = .ok (.bipush 12, 2) := by decide +kernel
theorem dX7_shorten_162 : decode cX7_shorten 162 = .ok (.iload 4, 2) := by decide +kernel
theorem dX7_shorten_164 : decode cX7_shorten 164 = .ok (.imul, 1) := by decide +kernel
theorem dX7_shorten_165 : decode cX7_shorten 165 = .ok (.iload 6, 2) := by decide +kernel
theorem dX7_shorten_167 : decode cX7_shorten 167 = .ok (.iadd, 1) := by decide +kernel
theorem dX7_shorten_168 : decode cX7_shorten 168 = .ok (.laload, 1) := by decide +kernel
theorem dX7_shorten_169 : decode cX7_shorten 169 = .ok (.lcmp, 1) := by decide +kernel
theorem dX7_shorten_170 : decode cX7_shorten 170 = .ok (.ifCond .ge 29, 3) := by decide +kernel
theorem dX7_shorten_173 : decode cX7_shorten 173 = .ok (.lload 7, 2) := by decide +kernel
theorem dX7_shorten_175 : decode cX7_shorten 175 = .ok (.ldc2_w 52, 3) := by decide +kernel
theorem dX7_shorten_178 : decode cX7_shorten 178 = .ok (.lcmp, 1) := by decide +kernel
theorem dX7_shorten_179 : decode cX7_shorten 179 = .ok (.ifCond .ge 20, 3) := by decide +kernel
theorem dX7_shorten_182 : decode cX7_shorten 182 = .ok (.aload_n 0, 1) := by decide +kernel
theorem dX7_shorten_183 : decode cX7_shorten 183 = .ok (.getfield 30, 3) := by decide +kernel
theorem dX7_shorten_186 : decode cX7_shorten 186 = .ok (.bipush 12, 2) := by decide +kernel
theorem dX7_shorten_188 : decode cX7_shorten 188 = .ok (.iload 4, 2) := by decide +kernel
theorem dX7_shorten_190 : decode cX7_shorten 190 = .ok (.imul, 1) := by decide +kernel
theorem dX7_shorten_191 : decode cX7_shorten 191 = .ok (.iload 6, 2) := by decide +kernel
theorem dX7_shorten_193 : decode cX7_shorten 193 = .ok (.iadd, 1) := by decide +kernel
theorem dX7_shorten_194 : decode cX7_shorten 194 = .ok (.lload 7, 2) := by decide +kernel
theorem dX7_shorten_196 : decode cX7_shorten 196 = .ok (.lastore, 1) := by decide +kernel
theorem dX7_shorten_197 : decode cX7_shorten 197 = .ok (.iconst 1, 1) := by decide +kernel
theorem dX7_shorten_198 : decode cX7_shorten 198 = .ok (.istore_n 2, 1) := by decide +kernel
theorem dX7_shorten_199 : decode cX7_shorten 199 = .ok (.iinc 3 1, 3) := by decide +kernel
theorem dX7_shorten_202 : decode cX7_shorten 202 = .ok (.goto (-129), 3) := by decide +kernel
theorem dX7_shorten_205 : decode cX7_shorten 205 = .ok (.goto (-140), 3) := by decide +kernel
theorem dX7_shorten_208 : decode cX7_shorten 208 = .ok (.iconst 1, 1) := by decide +kernel
theorem dX7_shorten_209 : decode cX7_shorten 209 = .ok (.istore_n 3, 1) := by decide +kernel
theorem dX7_shorten_210 : decode cX7_shorten 210 = .ok (.iconst 0, 1) := by decide +kernel
theorem dX7_shorten_211 : decode cX7_shorten 211 = .ok (.istore 4, 2) := by decide +kernel
theorem dX7_shorten_213 : decode cX7_shorten 213 = .ok (.iload 4, 2) := by decide +kernel
theorem dX7_shorten_215 : decode cX7_shorten 215 = .ok (.aload_n 0, 1) := by decide +kernel
theorem dX7_shorten_216 : decode cX7_shorten 216 = .ok (.getfield 48, 3) := by decide +kernel
theorem dX7_shorten_219 : decode cX7_shorten 219 = .ok (.if_icmp .ge 77, 3) := by decide +kernel
theorem dX7_shorten_222 : decode cX7_shorten 222 = .ok (.iconst 0, 1) := by decide +kernel
theorem dX7_shorten_223 : decode cX7_shorten 223 = .ok (.istore 5, 2) := by decide +kernel
theorem dX7_shorten_225 : decode cX7_shorten 225 = .ok (.iload 5, 2) := by decide +kernel
theorem dX7_shorten_227 : decode cX7_shorten 227 = .ok (.aload_n 0, 1) := by decide +kernel
theorem dX7_shorten_228 : decode cX7_shorten 228 = .ok (.getfield 48, 3) := by decide +kernel
theorem dX7_shorten_231 : decode cX7_shorten 231 = .ok (.if_icmp .ge 59, 3) := by decide +kernel
theorem dX7_shorten_234 : decode cX7_shorten 234 = .ok (.iload_n 3, 1) := by decide +kernel
theorem dX7_shorten_235 : decode cX7_shorten 235 = .ok (.ifCond .eq 47, 3) := by decide +kernel
theorem dX7_shorten_238 : decode cX7_shorten 238 = .ok (.aload_n 0, 1) := by decide +kernel
theorem dX7_shorten_239 : decode cX7_shorten 239 = .ok (.iload 4, 2) := by decide +kernel
theorem dX7_shorten_241 : decode cX7_shorten 241 = .ok (.iload_n 1, 1) := by decide +kernel
theorem dX7_shorten_242 : decode cX7_shorten 242 = .ok (.invokevirtual 110, 3) := by decide +kernel
theorem dX7_shorten_245 : decode cX7_shorten 245 = .ok (.ifCond .eq 33, 3) := by decide +kernel
theorem dX7_shorten_248 : decode cX7_shorten 248 = .ok (.aload_n 0, 1) := by decide +kernel
theorem dX7_shorten_249 : decode cX7_shorten 249 = .ok (.iload 5, 2) := by decide +kernel
theorem dX7_shorten_251 : decode cX7_shorten 251 = .ok (.iload_n 1, 1) := by decide +kernel
theorem dX7_shorten_252 : decode cX7_shorten 252 = .ok (.invokevirtual 110, 3) := by decide +kernel
theorem dX7_shorten_255 : decode cX7_shorten 255 = .ok (.ifCond .eq 23, 3) := by decide +kernel
theorem dX7_shorten_258 : decode cX7_shorten 258 = .ok (.aload_n 0, 1) := by decide +kernel
theorem dX7_shorten_259 : decode cX7_shorten 259 = .ok (.getfield 30, 3) := by decide +kernel
theorem dX7_shorten_262 : decode cX7_shorten 262 = .ok (.bipush 12, 2) := by decide +kernel
theorem dX7_shorten_264 : decode cX7_shorten 264 = .ok (.iload 4, 2) := by decide +kernel
theorem dX7_shorten_266 : decode cX7_shorten 266 = .ok (.imul, 1) := by decide +kernel
theorem dX7_shorten_267 : decode cX7_shorten 267 = .ok (.iload 5, 2) := by decide +kernel
theorem dX7_shorten_269 : decode cX7_shorten 269 = .ok (.iadd, 1) := by decide +kernel
theorem dX7_shorten_270 : decode cX7_shorten 270 = .ok (.laload, 1) := by decide +kernel
theorem dX7_shorten_271 : decode cX7_shorten 271 = .ok (.ldc2_w 52, 3) := by decide +kernel
theorem dX7_shorten_274 : decode cX7_shorten 274 = .ok (.lcmp, 1) := by decide +kernel
theorem dX7_shorten_275 : decode cX7_shorten 275 = .ok (.ifCond .ge 7, 3) := by decide +kernel
theorem dX7_shorten_278 : decode cX7_shorten 278 = .ok (.iconst 1, 1) := by decide +kernel
theorem dX7_shorten_279 : decode cX7_shorten 279 = .ok (.goto 4, 3) := by decide +kernel
theorem dX7_shorten_282 : decode cX7_shorten 282 = .ok (.iconst 0, 1) := by decide +kernel
theorem dX7_shorten_283 : decode cX7_shorten 283 = .ok (.istore_n 3, 1) := by decide +kernel
theorem dX7_shorten_284 : decode cX7_shorten 284 = .ok (.iinc 5 1, 3) := by decide +kernel
theorem dX7_shorten_287 : decode cX7_shorten 287 = .ok (.goto (-62), 3) := by decide +kernel
theorem dX7_shorten_290 : decode cX7_shorten 290 = .ok (.iinc 4 1, 3) := by decide +kernel
theorem dX7_shorten_293 : decode cX7_shorten 293 = .ok (.goto (-80), 3) := by decide +kernel
theorem dX7_shorten_296 : decode cX7_shorten 296 = .ok (.iload_n 3, 1) := by decide +kernel
theorem dX7_shorten_297 : decode cX7_shorten 297 = .ok (.ireturn, 1) := by decide +kernel
theorem dX7_least_0 : decode cX7_least 0 = .ok (.iconst 0, 1) := by decide +kernel
theorem dX7_least_1 : decode cX7_least 1 = .ok (.istore_n 2, 1) := by decide +kernel
theorem dX7_least_2 : decode cX7_least 2 = .ok (.iload_n 1, 1) := by decide +kernel
theorem dX7_least_3 : decode cX7_least 3 = .ok (.iload_n 2, 1) := by decide +kernel
theorem dX7_least_4 : decode cX7_least 4 = .ok (.ishr, 1) := by decide +kernel
theorem dX7_least_5 : decode cX7_least 5 = .ok (.iconst 1, 1) := by decide +kernel
theorem dX7_least_6 : decode cX7_least 6 = .ok (.iand, 1) := by decide +kernel
theorem dX7_least_7 : decode cX7_least 7 = .ok (.ifCond .ne 9, 3) := by decide +kernel
theorem dX7_least_10 : decode cX7_least 10 = .ok (.iinc 2 1, 3) := by decide +kernel
theorem dX7_least_13 : decode cX7_least 13 = .ok (.goto (-11), 3) := by decide +kernel
theorem dX7_least_16 : decode cX7_least 16 = .ok (.iload_n 2, 1) := by decide +kernel
theorem dX7_least_17 : decode cX7_least 17 = .ok (.ireturn, 1) := by decide +kernel
set_option maxRecDepth 20000 in
theorem ggX7_both_X7_length : GoodIn wsX7_both wsX7_length := goodIn_r _ [11, 12, 13, 14, 10, 15, 16, 21, 22, 23, 24, 25, 26, 27, 28, 29, 30, 31, 32, 33, 34, 35, 36, 37] (by decide +kernel) (by decide +kernel)
set_option maxRecDepth 20000 in
theorem gX7_both_X7_length : GoodIn wsX7_both (wsV RX7 67 RX7 yX7_length wsX7_length) := goodIn_app (goodIn_of _ (by decide +kernel)) ggX7_both_X7_length
set_option maxRecDepth 20000 in
theorem ggX7_both_X7_least : GoodIn wsX7_both wsX7_least := goodIn_r _ [20] (by decide +kernel) (by decide +kernel)
set_option maxRecDepth 20000 in
theorem gX7_both_X7_least : GoodIn wsX7_both (wsV RX7 114 RX7 yX7_least wsX7_least) := goodIn_app (goodIn_of _ (by decide +kernel)) ggX7_both_X7_least
theorem dX7_both_0 : decode cX7_both 0 = .ok (.lconst 0, 1) := by decide +kernel
theorem dX7_both_1 : decode cX7_both 1 = .ok (.lstore_n 1, 1) := by decide +kernel
theorem dX7_both_2 : decode cX7_both 2 = .ok (.iconst 0, 1) := by decide +kernel
theorem dX7_both_3 : decode cX7_both 3 = .ok (.istore_n 3, 1) := by decide +kernel
theorem dX7_both_4 : decode cX7_both 4 = .ok (.iconst 0, 1) := by decide +kernel
theorem dX7_both_5 : decode cX7_both 5 = .ok (.istore 4, 2) := by decide +kernel
theorem dX7_both_7 : decode cX7_both 7 = .ok (.iload 4, 2) := by decide +kernel
theorem dX7_both_9 : decode cX7_both 9 = .ok (.aload_n 0, 1) := by decide +kernel
theorem dX7_both_10 : decode cX7_both 10 = .ok (.getfield 48, 3) := by decide +kernel
theorem dX7_both_13 : decode cX7_both 13 = .ok (.if_icmp .ge 110, 3) := by decide +kernel
theorem dX7_both_16 : decode cX7_both 16 = .ok (.iconst 0, 1) := by decide +kernel
theorem dX7_both_17 : decode cX7_both 17 = .ok (.istore 5, 2) := by decide +kernel
theorem dX7_both_19 : decode cX7_both 19 = .ok (.iconst 0, 1) := by decide +kernel
theorem dX7_both_20 : decode cX7_both 20 = .ok (.istore 6, 2) := by decide +kernel
theorem dX7_both_22 : decode cX7_both 22 = .ok (.iload 6, 2) := by decide +kernel
theorem dX7_both_24 : decode cX7_both 24 = .ok (.aload_n 0, 1) := by decide +kernel
theorem dX7_both_25 : decode cX7_both 25 = .ok (.getfield 48, 3) := by decide +kernel
theorem dX7_both_28 : decode cX7_both 28 = .ok (.if_icmp .ge 79, 3) := by decide +kernel
theorem dX7_both_31 : decode cX7_both 31 = .ok (.iload 4, 2) := by decide +kernel
theorem dX7_both_33 : decode cX7_both 33 = .ok (.iload 6, 2) := by decide +kernel
theorem dX7_both_35 : decode cX7_both 35 = .ok (.if_icmp .eq 25, 3) := by decide +kernel
theorem dX7_both_38 : decode cX7_both 38 = .ok (.aload_n 0, 1) := by decide +kernel
theorem dX7_both_39 : decode cX7_both 39 = .ok (.iload 4, 2) := by decide +kernel
theorem dX7_both_41 : decode cX7_both 41 = .ok (.iload 6, 2) := by decide +kernel
theorem dX7_both_43 : decode cX7_both 43 = .ok (.invokevirtual 67, 3) := by decide +kernel
theorem dX7_both_46 : decode cX7_both 46 = .ok (.ldc2_w 52, 3) := by decide +kernel
theorem dX7_both_49 : decode cX7_both 49 = .ok (.lcmp, 1) := by decide +kernel
theorem dX7_both_50 : decode cX7_both 50 = .ok (.ifCond .ge 10, 3) := by decide +kernel
theorem dX7_both_53 : decode cX7_both 53 = .ok (.iload 5, 2) := by decide +kernel
theorem dX7_both_55 : decode cX7_both 55 = .ok (.iconst 1, 1) := by decide +kernel
theorem dX7_both_56 : decode cX7_both 56 = .ok (.iadd, 1) := by decide +kernel
theorem dX7_both_57 : decode cX7_both 57 = .ok (.goto 5, 3) := by decide +kernel
theorem dX7_both_60 : decode cX7_both 60 = .ok (.iload 5, 2) := by decide +kernel
theorem dX7_both_62 : decode cX7_both 62 = .ok (.istore 5, 2) := by decide +kernel
theorem dX7_both_64 : decode cX7_both 64 = .ok (.iload 4, 2) := by decide +kernel
theorem dX7_both_66 : decode cX7_both 66 = .ok (.iload 6, 2) := by decide +kernel
theorem dX7_both_68 : decode cX7_both 68 = .ok (.if_icmp .ge 31, 3) := by decide +kernel
theorem dX7_both_71 : decode cX7_both 71 = .ok (.aload_n 0, 1) := by decide +kernel
theorem dX7_both_72 : decode cX7_both 72 = .ok (.iload 4, 2) := by decide +kernel
theorem dX7_both_74 : decode cX7_both 74 = .ok (.iload 6, 2) := by decide +kernel
theorem dX7_both_76 : decode cX7_both 76 = .ok (.invokevirtual 67, 3) := by decide +kernel
theorem dX7_both_79 : decode cX7_both 79 = .ok (.ldc2_w 52, 3) := by decide +kernel
theorem dX7_both_82 : decode cX7_both 82 = .ok (.lcmp, 1) := by decide +kernel
theorem dX7_both_83 : decode cX7_both 83 = .ok (.ifCond .ge 16, 3) := by decide +kernel
theorem dX7_both_86 : decode cX7_both 86 = .ok (.lload_n 1, 1) := by decide +kernel
theorem dX7_both_87 : decode cX7_both 87 = .ok (.aload_n 0, 1) := by decide +kernel
theorem dX7_both_88 : decode cX7_both 88 = .ok (.iload 4, 2) := by decide +kernel
theorem dX7_both_90 : decode cX7_both 90 = .ok (.iload 6, 2) := by decide +kernel
theorem dX7_both_92 : decode cX7_both 92 = .ok (.invokevirtual 67, 3) := by decide +kernel
theorem dX7_both_95 : decode cX7_both 95 = .ok (.ladd, 1) := by decide +kernel
theorem dX7_both_96 : decode cX7_both 96 = .ok (.goto 4, 3) := by decide +kernel
theorem dX7_both_99 : decode cX7_both 99 = .ok (.lload_n 1, 1) := by decide +kernel
theorem dX7_both_100 : decode cX7_both 100 = .ok (.lstore_n 1, 1) := by decide +kernel
theorem dX7_both_101 : decode cX7_both 101 = .ok (.iinc 6 1, 3) := by decide +kernel
theorem dX7_both_104 : decode cX7_both 104 = .ok (.goto (-82), 3) := by decide +kernel
theorem dX7_both_107 : decode cX7_both 107 = .ok (.iload_n 3, 1) := by decide +kernel
theorem dX7_both_108 : decode cX7_both 108 = .ok (.iload 5, 2) := by decide +kernel
theorem dX7_both_110 : decode cX7_both 110 = .ok (.iconst 1, 1) := by decide +kernel
theorem dX7_both_111 : decode cX7_both 111 = .ok (.iand, 1) := by decide +kernel
theorem dX7_both_112 : decode cX7_both 112 = .ok (.iload 4, 2) := by decide +kernel
theorem dX7_both_114 : decode cX7_both 114 = .ok (.ishl, 1) := by decide +kernel
theorem dX7_both_115 : decode cX7_both 115 = .ok (.ior, 1) := by decide +kernel
theorem dX7_both_116 : decode cX7_both 116 = .ok (.istore_n 3, 1) := by decide +kernel
theorem dX7_both_117 : decode cX7_both 117 = .ok (.iinc 4 1, 3) := by decide +kernel
theorem dX7_both_120 : decode cX7_both 120 = .ok (.goto (-113), 3) := by decide +kernel
