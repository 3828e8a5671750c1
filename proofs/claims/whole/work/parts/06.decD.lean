set_option maxRecDepth 20000 in
theorem ggX7_calm_X7_bits : GoodIn wsX7_calm wsX7_bits := goodIn_r _ [36] (by decide +kernel) (by decide +kernel)
set_option maxRecDepth 20000 in
theorem gX7_calm_X7_bits : GoodIn wsX7_calm (va_wsS RX7 159 yX7_bits wsX7_bits) := goodIn_app (goodIn_of _ (by decide +kernel)) ggX7_calm_X7_bits
theorem dX7_calm_0 : decode cX7_calm 0 = .ok (.iconst 0, 1) := by decide +kernel
theorem dX7_calm_1 : decode cX7_calm 1 = .ok (.istore_n 1, 1) := by decide +kernel
theorem dX7_calm_2 : decode cX7_calm 2 = .ok (.iconst (-1), 1) := by decide +kernel
theorem dX7_calm_3 : decode cX7_calm 3 = .ok (.istore_n 2, 1) := by decide +kernel
theorem dX7_calm_4 : decode cX7_calm 4 = .ok (.iconst 0, 1) := by decide +kernel
theorem dX7_calm_5 : decode cX7_calm 5 = .ok (.istore_n 3, 1) := by decide +kernel
theorem dX7_calm_6 : decode cX7_calm 6 = .ok (.iload_n 3, 1) := by decide +kernel
theorem dX7_calm_7 : decode cX7_calm 7 = .ok (.bipush 32, 2) := by decide +kernel
theorem dX7_calm_9 : decode cX7_calm 9 = .ok (.if_icmp .ge 109, 3) := by decide +kernel
theorem dX7_calm_12 : decode cX7_calm 12 = .ok (.aload_n 0, 1) := by decide +kernel
theorem dX7_calm_13 : decode cX7_calm 13 = .ok (.iload_n 3, 1) := by decide +kernel
theorem dX7_calm_14 : decode cX7_calm 14 = .ok (.invokevirtual 145, 3) := by decide +kernel
theorem dX7_calm_17 : decode cX7_calm 17 = .ok (.ifCond .eq 95, 3) := by decide +kernel
theorem dX7_calm_20 : decode cX7_calm 20 = .ok (.aload_n 0, 1) := by decide +kernel
theorem dX7_calm_21 : decode cX7_calm 21 = .ok (.aload_n 0, 1) := by decide +kernel
theorem dX7_calm_22 : decode cX7_calm 22 = .ok (.getfield 20, 3) := by decide +kernel
theorem dX7_calm_25 : decode cX7_calm 25 = .ok (.iload_n 3, 1) := by decide +kernel
theorem dX7_calm_26 : decode cX7_calm 26 = .ok (.invokevirtual 148, 3) := by decide +kernel
theorem dX7_calm_29 : decode cX7_calm 29 = .ok (.ifCond .eq 83, 3) := by decide +kernel
theorem dX7_calm_32 : decode cX7_calm 32 = .ok (.aload_n 0, 1) := by decide +kernel
theorem dX7_calm_33 : decode cX7_calm 33 = .ok (.invokevirtual 162, 3) := by decide +kernel
theorem dX7_calm_36 : decode cX7_calm 36 = .ok (.aload_n 0, 1) := by decide +kernel
theorem dX7_calm_37 : decode cX7_calm 37 = .ok (.aload_n 0, 1) := by decide +kernel
theorem dX7_calm_38 : decode cX7_calm 38 = .ok (.getfield 42, 3) := by decide +kernel
theorem dX7_calm_41 : decode cX7_calm 41 = .ok (.iload_n 3, 1) := by decide +kernel
theorem dX7_calm_42 : decode cX7_calm 42 = .ok (.invokevirtual 155, 3) := by decide +kernel
theorem dX7_calm_45 : decode cX7_calm 45 = .ok (.aload_n 0, 1) := by decide +kernel
theorem dX7_calm_46 : decode cX7_calm 46 = .ok (.aload_n 0, 1) := by decide +kernel
theorem dX7_calm_47 : decode cX7_calm 47 = .ok (.getfield 42, 3) := by decide +kernel
theorem dX7_calm_50 : decode cX7_calm 50 = .ok (.invokevirtual 165, 3) := by decide +kernel
theorem dX7_calm_53 : decode cX7_calm 53 = .ok (.istore 4, 2) := by decide +kernel
theorem dX7_calm_55 : decode cX7_calm 55 = .ok (.iload_n 2, 1) := by decide +kernel
theorem dX7_calm_56 : decode cX7_calm 56 = .ok (.ifCond .lt 26, 3) := by decide +kernel
theorem dX7_calm_59 : decode cX7_calm 59 = .ok (.iload 4, 2) := by decide +kernel
theorem dX7_calm_61 : decode cX7_calm 61 = .ok (.iload_n 2, 1) := by decide +kernel
theorem dX7_calm_62 : decode cX7_calm 62 = .ok (.if_icmp .lt 20, 3) := by decide +kernel
theorem dX7_calm_65 : decode cX7_calm 65 = .ok (.iload 4, 2) := by decide +kernel
theorem dX7_calm_67 : decode cX7_calm 67 = .ok (.iload_n 2, 1) := by decide +kernel
theorem dX7_calm_68 : decode cX7_calm 68 = .ok (.if_icmp .ne 18, 3) := by decide +kernel
theorem dX7_calm_71 : decode cX7_calm 71 = .ok (.iload_n 3, 1) := by decide +kernel
theorem dX7_calm_72 : decode cX7_calm 72 = .ok (.invokestatic 159, 3) := by decide +kernel
theorem dX7_calm_75 : decode cX7_calm 75 = .ok (.iload_n 1, 1) := by decide +kernel
theorem dX7_calm_76 : decode cX7_calm 76 = .ok (.invokestatic 159, 3) := by decide +kernel
theorem dX7_calm_79 : decode cX7_calm 79 = .ok (.if_icmp .le 7, 3) := by decide +kernel
theorem dX7_calm_82 : decode cX7_calm 82 = .ok (.iconst 1, 1) := by decide +kernel
theorem dX7_calm_83 : decode cX7_calm 83 = .ok (.goto 4, 3) := by decide +kernel
theorem dX7_calm_86 : decode cX7_calm 86 = .ok (.iconst 0, 1) := by decide +kernel
theorem dX7_calm_87 : decode cX7_calm 87 = .ok (.istore 5, 2) := by decide +kernel
theorem dX7_calm_89 : decode cX7_calm 89 = .ok (.iload 5, 2) := by decide +kernel
theorem dX7_calm_91 : decode cX7_calm 91 = .ok (.ifCond .eq 7, 3) := by decide +kernel
theorem dX7_calm_94 : decode cX7_calm 94 = .ok (.iload_n 3, 1) := by decide +kernel
theorem dX7_calm_95 : decode cX7_calm 95 = .ok (.goto 4, 3) := by decide +kernel
theorem dX7_calm_98 : decode cX7_calm 98 = .ok (.iload_n 1, 1) := by decide +kernel
theorem dX7_calm_99 : decode cX7_calm 99 = .ok (.istore_n 1, 1) := by decide +kernel
theorem dX7_calm_100 : decode cX7_calm 100 = .ok (.iload 5, 2) := by decide +kernel
theorem dX7_calm_102 : decode cX7_calm 102 = .ok (.ifCond .eq 8, 3) := by decide +kernel
theorem dX7_calm_105 : decode cX7_calm 105 = .ok (.iload 4, 2) := by decide +kernel
theorem dX7_calm_107 : decode cX7_calm 107 = .ok (.goto 4, 3) := by decide +kernel
theorem dX7_calm_110 : decode cX7_calm 110 = .ok (.iload_n 2, 1) := by decide +kernel
theorem dX7_calm_111 : decode cX7_calm 111 = .ok (.istore_n 2, 1) := by decide +kernel
theorem dX7_calm_112 : decode cX7_calm 112 = .ok (.iinc 3 1, 3) := by decide +kernel
theorem dX7_calm_115 : decode cX7_calm 115 = .ok (.goto (-109), 3) := by decide +kernel
theorem dX7_calm_118 : decode cX7_calm 118 = .ok (.iload_n 1, 1) := by decide +kernel
theorem dX7_calm_119 : decode cX7_calm 119 = .ok (.ireturn, 1) := by decide +kernel
set_option maxRecDepth 20000 in
theorem ggX7_now_X7_driftOf : GoodIn wsX7_now wsX7_driftOf := goodIn_r _ [7, 2, 8, 9, 10, 6, 11, 49, 50, 51, 52, 53, 54, 55, 56, 57, 58, 59, 60, 61, 62, 63, 64, 65, 66, 67, 68, 69, 70, 71, 72, 73, 74, 75, 76] (by decide +kernel) (by decide +kernel)
set_option maxRecDepth 20000 in
theorem gX7_now_X7_driftOf : GoodIn wsX7_now (wsV RX7 142 RX7 yX7_driftOf wsX7_driftOf) := goodIn_app (goodIn_of _ (by decide +kernel)) ggX7_now_X7_driftOf
set_option maxRecDepth 20000 in
theorem ggX7_now_X7_likesOf : GoodIn wsX7_now wsX7_likesOf := goodIn_r _ [15, 1, 16, 17, 49, 50, 51, 52, 53, 54, 55, 56, 57, 58, 59, 60, 61, 62, 63, 64, 65, 66, 67, 68, 69, 70, 71, 72, 73, 74, 75, 76] (by decide +kernel) (by decide +kernel)
set_option maxRecDepth 20000 in
theorem gX7_now_X7_likesOf : GoodIn wsX7_now (wsV RX7 165 RX7 yX7_likesOf wsX7_likesOf) := goodIn_app (goodIn_of _ (by decide +kernel)) ggX7_now_X7_likesOf
set_option maxRecDepth 20000 in
theorem ggX7_now_X7_calm : GoodIn wsX7_now wsX7_calm := goodIn_r _ [21, 2, 22, 23, 24, 25, 6, 26, 1, 27, 28, 29, 30, 31, 32, 33, 34, 35, 36, 37, 38, 39, 40, 41, 42, 43, 44, 45, 12, 13, 14, 15, 16, 17, 46, 47, 48, 49, 50, 51, 52, 53, 54, 55, 56, 57, 58, 59, 60, 61, 62, 63, 64, 65, 66, 67, 68, 69, 70, 71, 72, 73, 74, 75, 76] (by decide +kernel) (by decide +kernel)
set_option maxRecDepth 20000 in
theorem gX7_now_X7_calm : GoodIn wsX7_now (wsV RX7 169 RX7 yX7_calm wsX7_calm) := goodIn_app (goodIn_of _ (by decide +kernel)) ggX7_now_X7_calm
theorem dX7_now_0 : decode cX7_now 0 = .ok (.iconst 0, 1) := by decide +kernel
theorem dX7_now_1 : decode cX7_now 1 = .ok (.istore_n 2, 1) := by decide +kernel
theorem dX7_now_2 : decode cX7_now 2 = .ok (.iconst 0, 1) := by decide +kernel
theorem dX7_now_3 : decode cX7_now 3 = .ok (.istore_n 3, 1) := by decide +kernel
theorem dX7_now_4 : decode cX7_now 4 = .ok (.iload_n 3, 1) := by decide +kernel
theorem dX7_now_5 : decode cX7_now 5 = .ok (.aload_n 0, 1) := by decide +kernel
theorem dX7_now_6 : decode cX7_now 6 = .ok (.getfield 54, 3) := by decide +kernel
theorem dX7_now_9 : decode cX7_now 9 = .ok (.if_icmp .ge 17, 3) := by decide +kernel
theorem dX7_now_12 : decode cX7_now 12 = .ok (.iload_n 2, 1) := by decide +kernel
theorem dX7_now_13 : decode cX7_now 13 = .ok (.aload_n 0, 1) := by decide +kernel
theorem dX7_now_14 : decode cX7_now 14 = .ok (.iload_n 3, 1) := by decide +kernel
theorem dX7_now_15 : decode cX7_now 15 = .ok (.invokevirtual 142, 3) := by decide +kernel
theorem dX7_now_18 : decode cX7_now 18 = .ok (.iadd, 1) := by decide +kernel
theorem dX7_now_19 : decode cX7_now 19 = .ok (.istore_n 2, 1) := by decide +kernel
theorem dX7_now_20 : decode cX7_now 20 = .ok (.iinc 3 1, 3) := by decide +kernel
theorem dX7_now_23 : decode cX7_now 23 = .ok (.goto (-19), 3) := by decide +kernel
theorem dX7_now_26 : decode cX7_now 26 = .ok (.iload_n 1, 1) := by decide +kernel
theorem dX7_now_27 : decode cX7_now 27 = .ok (.tableswitch 77 0 5 #[37, 45, 53, 61, 70, 72], 37) := by decide +kernel
theorem dX7_now_64 : decode cX7_now 64 = .ok (.aload_n 0, 1) := by decide +kernel
theorem dX7_now_65 : decode cX7_now 65 = .ok (.getfield 20, 3) := by decide +kernel
theorem dX7_now_68 : decode cX7_now 68 = .ok (.bipush 6, 2) := by decide +kernel
theorem dX7_now_70 : decode cX7_now 70 = .ok (.iaload, 1) := by decide +kernel
theorem dX7_now_71 : decode cX7_now 71 = .ok (.ireturn, 1) := by decide +kernel
theorem dX7_now_72 : decode cX7_now 72 = .ok (.aload_n 0, 1) := by decide +kernel
theorem dX7_now_73 : decode cX7_now 73 = .ok (.getfield 20, 3) := by decide +kernel
theorem dX7_now_76 : decode cX7_now 76 = .ok (.bipush 7, 2) := by decide +kernel
theorem dX7_now_78 : decode cX7_now 78 = .ok (.iaload, 1) := by decide +kernel
theorem dX7_now_79 : decode cX7_now 79 = .ok (.ireturn, 1) := by decide +kernel
theorem dX7_now_80 : decode cX7_now 80 = .ok (.aload_n 0, 1) := by decide +kernel
theorem dX7_now_81 : decode cX7_now 81 = .ok (.getfield 20, 3) := by decide +kernel
theorem dX7_now_84 : decode cX7_now 84 = .ok (.bipush 8, 2) := by decide +kernel
theorem dX7_now_86 : decode cX7_now 86 = .ok (.iaload, 1) := by decide +kernel
theorem dX7_now_87 : decode cX7_now 87 = .ok (.ireturn, 1) := by decide +kernel
theorem dX7_now_88 : decode cX7_now 88 = .ok (.aload_n 0, 1) := by decide +kernel
theorem dX7_now_89 : decode cX7_now 89 = .ok (.aload_n 0, 1) := by decide +kernel
theorem dX7_now_90 : decode cX7_now 90 = .ok (.getfield 20, 3) := by decide +kernel
theorem dX7_now_93 : decode cX7_now 93 = .ok (.invokevirtual 165, 3) := by decide +kernel
theorem dX7_now_96 : decode cX7_now 96 = .ok (.ireturn, 1) := by decide +kernel
theorem dX7_now_97 : decode cX7_now 97 = .ok (.iload_n 2, 1) := by decide +kernel
theorem dX7_now_98 : decode cX7_now 98 = .ok (.ireturn, 1) := by decide +kernel
theorem dX7_now_99 : decode cX7_now 99 = .ok (.aload_n 0, 1) := by decide +kernel
theorem dX7_now_100 : decode cX7_now 100 = .ok (.invokevirtual 169, 3) := by decide +kernel
theorem dX7_now_103 : decode cX7_now 103 = .ok (.ireturn, 1) := by decide +kernel
theorem dX7_now_104 : decode cX7_now 104 = .ok (.iconst (-1), 1) := by decide +kernel
theorem dX7_now_105 : decode cX7_now 105 = .ok (.ireturn, 1) := by decide +kernel
theorem dX7_wayOf_0 : decode cX7_wayOf 0 = .ok (.iconst 0, 1) := by decide +kernel
theorem dX7_wayOf_1 : decode cX7_wayOf 1 = .ok (.istore_n 2, 1) := by decide +kernel
theorem dX7_wayOf_2 : decode cX7_wayOf 2 = .ok (.iconst 0, 1) := by decide +kernel
theorem dX7_wayOf_3 : decode cX7_wayOf 3 = .ok (.istore_n 3, 1) := by decide +kernel
theorem dX7_wayOf_4 : decode cX7_wayOf 4 = .ok (.iload_n 3, 1) := by decide +kernel
theorem dX7_wayOf_5 : decode cX7_wayOf 5 = .ok (.aload_n 0, 1) := by decide +kernel
theorem dX7_wayOf_6 : decode cX7_wayOf 6 = .ok (.getfield 54, 3) := by decide +kernel
theorem dX7_wayOf_9 : decode cX7_wayOf 9 = .ok (.if_icmp .ge 64, 3) := by decide +kernel
theorem dX7_wayOf_12 : decode cX7_wayOf 12 = .ok (.iconst 0, 1) := by decide +kernel
theorem dX7_wayOf_13 : decode cX7_wayOf 13 = .ok (.istore 4, 2) := by decide +kernel
theorem dX7_wayOf_15 : decode cX7_wayOf 15 = .ok (.iload_n 3, 1) := by decide +kernel
theorem dX7_wayOf_16 : decode cX7_wayOf 16 = .ok (.iconst 1, 1) := by decide +kernel
theorem dX7_wayOf_17 : decode cX7_wayOf 17 = .ok (.iadd, 1) := by decide +kernel
theorem dX7_wayOf_18 : decode cX7_wayOf 18 = .ok (.istore 5, 2) := by decide +kernel
theorem dX7_wayOf_20 : decode cX7_wayOf 20 = .ok (.iload 5, 2) := by decide +kernel
theorem dX7_wayOf_22 : decode cX7_wayOf 22 = .ok (.aload_n 0, 1) := by decide +kernel
theorem dX7_wayOf_23 : decode cX7_wayOf 23 = .ok (.getfield 54, 3) := by decide +kernel
theorem dX7_wayOf_26 : decode cX7_wayOf 26 = .ok (.if_icmp .ge 29, 3) := by decide +kernel
theorem dX7_wayOf_29 : decode cX7_wayOf 29 = .ok (.iload 4, 2) := by decide +kernel
theorem dX7_wayOf_31 : decode cX7_wayOf 31 = .ok (.aload_n 1, 1) := by decide +kernel
theorem dX7_wayOf_32 : decode cX7_wayOf 32 = .ok (.iload 5, 2) := by decide +kernel
theorem dX7_wayOf_34 : decode cX7_wayOf 34 = .ok (.iaload, 1) := by decide +kernel
theorem dX7_wayOf_35 : decode cX7_wayOf 35 = .ok (.aload_n 1, 1) := by decide +kernel
theorem dX7_wayOf_36 : decode cX7_wayOf 36 = .ok (.iload_n 3, 1) := by decide +kernel
theorem dX7_wayOf_37 : decode cX7_wayOf 37 = .ok (.iaload, 1) := by decide +kernel
theorem dX7_wayOf_38 : decode cX7_wayOf 38 = .ok (.if_icmp .ge 7, 3) := by decide +kernel
theorem dX7_wayOf_41 : decode cX7_wayOf 41 = .ok (.iconst 1, 1) := by decide +kernel
theorem dX7_wayOf_42 : decode cX7_wayOf 42 = .ok (.goto 4, 3) := by decide +kernel
theorem dX7_wayOf_45 : decode cX7_wayOf 45 = .ok (.iconst 0, 1) := by decide +kernel
theorem dX7_wayOf_46 : decode cX7_wayOf 46 = .ok (.iadd, 1) := by decide +kernel
theorem dX7_wayOf_47 : decode cX7_wayOf 47 = .ok (.istore 4, 2) := by decide +kernel
theorem dX7_wayOf_49 : decode cX7_wayOf 49 = .ok (.iinc 5 1, 3) := by decide +kernel
theorem dX7_wayOf_52 : decode cX7_wayOf 52 = .ok (.goto (-32), 3) := by decide +kernel
theorem dX7_wayOf_55 : decode cX7_wayOf 55 = .ok (.iload_n 2, 1) := by decide +kernel
theorem dX7_wayOf_56 : decode cX7_wayOf 56 = .ok (.aload_n 0, 1) := by decide +kernel
theorem dX7_wayOf_57 : decode cX7_wayOf 57 = .ok (.getfield 54, 3) := by decide +kernel
theorem dX7_wayOf_60 : decode cX7_wayOf 60 = .ok (.iload_n 3, 1) := by decide +kernel
theorem dX7_wayOf_61 : decode cX7_wayOf 61 = .ok (.isub, 1) := by decide +kernel
theorem dX7_wayOf_62 : decode cX7_wayOf 62 = .ok (.imul, 1) := by decide +kernel
theorem dX7_wayOf_63 : decode cX7_wayOf 63 = .ok (.iload 4, 2) := by decide +kernel
theorem dX7_wayOf_65 : decode cX7_wayOf 65 = .ok (.iadd, 1) := by decide +kernel
theorem dX7_wayOf_66 : decode cX7_wayOf 66 = .ok (.istore_n 2, 1) := by decide +kernel
theorem dX7_wayOf_67 : decode cX7_wayOf 67 = .ok (.iinc 3 1, 3) := by decide +kernel
theorem dX7_wayOf_70 : decode cX7_wayOf 70 = .ok (.goto (-66), 3) := by decide +kernel
theorem dX7_wayOf_73 : decode cX7_wayOf 73 = .ok (.iload_n 2, 1) := by decide +kernel
theorem dX7_wayOf_74 : decode cX7_wayOf 74 = .ok (.ireturn, 1) := by decide +kernel
set_option maxRecDepth 20000 in
theorem ggX7_isWay_X7_has : GoodIn wsX7_isWay wsX7_has := goodIn_r _ [7] (by decide +kernel) (by decide +kernel)
set_option maxRecDepth 20000 in
theorem gX7_isWay_X7_has : GoodIn wsX7_isWay (va_wsS RX7 135 yX7_has wsX7_has) := goodIn_app (goodIn_of _ (by decide +kernel)) ggX7_isWay_X7_has
theorem dX7_isWay_0 : decode cX7_isWay 0 = .ok (.iload_n 1, 1) := by decide +kernel
theorem dX7_isWay_1 : decode cX7_isWay 1 = .ok (.istore_n 2, 1) := by decide +kernel
theorem dX7_isWay_2 : decode cX7_isWay 2 = .ok (.aload_n 0, 1) := by decide +kernel
theorem dX7_isWay_3 : decode cX7_isWay 3 = .ok (.getfield 54, 3) := by decide +kernel
theorem dX7_isWay_6 : decode cX7_isWay 6 = .ok (.iconst 1, 1) := by decide +kernel
theorem dX7_isWay_7 : decode cX7_isWay 7 = .ok (.isub, 1) := by decide +kernel
theorem dX7_isWay_8 : decode cX7_isWay 8 = .ok (.istore_n 3, 1) := by decide +kernel
theorem dX7_isWay_9 : decode cX7_isWay 9 = .ok (.iload_n 3, 1) := by decide +kernel
theorem dX7_isWay_10 : decode cX7_isWay 10 = .ok (.ifCond .lt 32, 3) := by decide +kernel
theorem dX7_isWay_13 : decode cX7_isWay 13 = .ok (.aload_n 0, 1) := by decide +kernel
theorem dX7_isWay_14 : decode cX7_isWay 14 = .ok (.getfield 51, 3) := by decide +kernel
theorem dX7_isWay_17 : decode cX7_isWay 17 = .ok (.iload_n 3, 1) := by decide +kernel
theorem dX7_isWay_18 : decode cX7_isWay 18 = .ok (.iload_n 2, 1) := by decide +kernel
theorem dX7_isWay_19 : decode cX7_isWay 19 = .ok (.aload_n 0, 1) := by decide +kernel
theorem dX7_isWay_20 : decode cX7_isWay 20 = .ok (.getfield 54, 3) := by decide +kernel
theorem dX7_isWay_23 : decode cX7_isWay 23 = .ok (.iload_n 3, 1) := by decide +kernel
theorem dX7_isWay_24 : decode cX7_isWay 24 = .ok (.isub, 1) := by decide +kernel
theorem dX7_isWay_25 : decode cX7_isWay 25 = .ok (.irem, 1) := by decide +kernel
theorem dX7_isWay_26 : decode cX7_isWay 26 = .ok (.iastore, 1) := by decide +kernel
theorem dX7_isWay_27 : decode cX7_isWay 27 = .ok (.iload_n 2, 1) := by decide +kernel
theorem dX7_isWay_28 : decode cX7_isWay 28 = .ok (.aload_n 0, 1) := by decide +kernel
theorem dX7_isWay_29 : decode cX7_isWay 29 = .ok (.getfield 54, 3) := by decide +kernel
theorem dX7_isWay_32 : decode cX7_isWay 32 = .ok (.iload_n 3, 1) := by decide +kernel
theorem dX7_isWay_33 : decode cX7_isWay 33 = .ok (.isub, 1) := by decide +kernel
theorem dX7_isWay_34 : decode cX7_isWay 34 = .ok (.idiv, 1) := by decide +kernel
theorem dX7_isWay_35 : decode cX7_isWay 35 = .ok (.istore_n 2, 1) := by decide +kernel
theorem dX7_isWay_36 : decode cX7_isWay 36 = .ok (.iinc 3 (-1), 3) := by decide +kernel
theorem dX7_isWay_39 : decode cX7_isWay 39 = .ok (.goto (-30), 3) := by decide +kernel
theorem dX7_isWay_42 : decode cX7_isWay 42 = .ok (.iconst 0, 1) := by decide +kernel
theorem dX7_isWay_43 : decode cX7_isWay 43 = .ok (.istore_n 3, 1) := by decide +kernel
theorem dX7_isWay_44 : decode cX7_isWay 44 = .ok (.iconst 0, 1) := by decide +kernel
theorem dX7_isWay_45 : decode cX7_isWay 45 = .ok (.istore 4, 2) := by decide +kernel
theorem dX7_isWay_47 : decode cX7_isWay 47 = .ok (.iload 4, 2) := by decide +kernel
theorem dX7_isWay_49 : decode cX7_isWay 49 = .ok (.aload_n 0, 1) := by decide +kernel
theorem dX7_isWay_50 : decode cX7_isWay 50 = .ok (.getfield 54, 3) := by decide +kernel
theorem dX7_isWay_53 : decode cX7_isWay 53 = .ok (.if_icmp .ge 76, 3) := by decide +kernel
theorem dX7_isWay_56 : decode cX7_isWay 56 = .ok (.iconst 0, 1) := by decide +kernel
theorem dX7_isWay_57 : decode cX7_isWay 57 = .ok (.istore 5, 2) := by decide +kernel
theorem dX7_isWay_59 : decode cX7_isWay 59 = .ok (.aload_n 0, 1) := by decide +kernel
theorem dX7_isWay_60 : decode cX7_isWay 60 = .ok (.getfield 51, 3) := by decide +kernel
theorem dX7_isWay_63 : decode cX7_isWay 63 = .ok (.iload 4, 2) := by decide +kernel
theorem dX7_isWay_65 : decode cX7_isWay 65 = .ok (.iaload, 1) := by decide +kernel
theorem dX7_isWay_66 : decode cX7_isWay 66 = .ok (.istore 6, 2) := by decide +kernel
theorem dX7_isWay_68 : decode cX7_isWay 68 = .ok (.iload_n 3, 1) := by decide +kernel
theorem dX7_isWay_69 : decode cX7_isWay 69 = .ok (.iload 5, 2) := by decide +kernel
theorem dX7_isWay_71 : decode cX7_isWay 71 = .ok (.invokestatic 135, 3) := by decide +kernel
theorem dX7_isWay_74 : decode cX7_isWay 74 = .ok (.ifCond .ne 8, 3) := by decide +kernel
theorem dX7_isWay_77 : decode cX7_isWay 77 = .ok (.iload 6, 2) := by decide +kernel
theorem dX7_isWay_79 : decode cX7_isWay 79 = .ok (.ifCond .le 28, 3) := by decide +kernel
theorem dX7_isWay_82 : decode cX7_isWay 82 = .ok (.iload 6, 2) := by decide +kernel
theorem dX7_isWay_84 : decode cX7_isWay 84 = .ok (.iload_n 3, 1) := by decide +kernel
theorem dX7_isWay_85 : decode cX7_isWay 85 = .ok (.iload 5, 2) := by decide +kernel
theorem dX7_isWay_87 : decode cX7_isWay 87 = .ok (.invokestatic 135, 3) := by decide +kernel
theorem dX7_isWay_90 : decode cX7_isWay 90 = .ok (.ifCond .eq 7, 3) := by decide +kernel
theorem dX7_isWay_93 : decode cX7_isWay 93 = .ok (.iconst 0, 1) := by decide +kernel
theorem dX7_isWay_94 : decode cX7_isWay 94 = .ok (.goto 4, 3) := by decide +kernel
theorem dX7_isWay_97 : decode cX7_isWay 97 = .ok (.iconst 1, 1) := by decide +kernel
theorem dX7_isWay_98 : decode cX7_isWay 98 = .ok (.isub, 1) := by decide +kernel
theorem dX7_isWay_99 : decode cX7_isWay 99 = .ok (.istore 6, 2) := by decide +kernel
theorem dX7_isWay_101 : decode cX7_isWay 101 = .ok (.iinc 5 1, 3) := by decide +kernel
theorem dX7_isWay_104 : decode cX7_isWay 104 = .ok (.goto (-36), 3) := by decide +kernel
theorem dX7_isWay_107 : decode cX7_isWay 107 = .ok (.aload_n 0, 1) := by decide +kernel
theorem dX7_isWay_108 : decode cX7_isWay 108 = .ok (.getfield 42, 3) := by decide +kernel
theorem dX7_isWay_111 : decode cX7_isWay 111 = .ok (.iload 4, 2) := by decide +kernel
theorem dX7_isWay_113 : decode cX7_isWay 113 = .ok (.iload 5, 2) := by decide +kernel
theorem dX7_isWay_115 : decode cX7_isWay 115 = .ok (.iastore, 1) := by decide +kernel
theorem dX7_isWay_116 : decode cX7_isWay 116 = .ok (.iload_n 3, 1) := by decide +kernel
theorem dX7_isWay_117 : decode cX7_isWay 117 = .ok (.iconst 1, 1) := by decide +kernel
theorem dX7_isWay_118 : decode cX7_isWay 118 = .ok (.iload 5, 2) := by decide +kernel
theorem dX7_isWay_120 : decode cX7_isWay 120 = .ok (.ishl, 1) := by decide +kernel
theorem dX7_isWay_121 : decode cX7_isWay 121 = .ok (.ior, 1) := by decide +kernel
theorem dX7_isWay_122 : decode cX7_isWay 122 = .ok (.istore_n 3, 1) := by decide +kernel
theorem dX7_isWay_123 : decode cX7_isWay 123 = .ok (.iinc 4 1, 3) := by decide +kernel
theorem dX7_isWay_126 : decode cX7_isWay 126 = .ok (.goto (-79), 3) := by decide +kernel
theorem dX7_isWay_129 : decode cX7_isWay 129 = .ok (.return_, 1) := by decide +kernel
set_option maxRecDepth 20000 in
theorem ggX7_isSafe_X7_likesOf : GoodIn wsX7_isSafe wsX7_likesOf := goodIn_r _ [6, 7, 8, 9, 10, 11, 12, 13, 14, 15, 16, 17, 18, 19, 20, 21, 22, 23, 24, 25, 26, 27, 28, 29, 30, 31, 32, 33, 34, 35, 36, 37] (by decide +kernel) (by decide +kernel)
set_option maxRecDepth 20000 in
theorem gX7_isSafe_X7_likesOf : GoodIn wsX7_isSafe (wsV RX7 165 RX7 yX7_likesOf wsX7_likesOf) := goodIn_app (goodIn_of _ (by decide +kernel)) ggX7_isSafe_X7_likesOf
theorem dX7_isSafe_0 : decode cX7_isSafe 0 = .ok (.iload_n 1, 1) := by decide +kernel
theorem dX7_isSafe_1 : decode cX7_isSafe 1 = .ok (.ifCond .eq 14, 3) := by decide +kernel
theorem dX7_isSafe_4 : decode cX7_isSafe 4 = .ok (.aload_n 0, 1) := by decide +kernel
theorem dX7_isSafe_5 : decode cX7_isSafe 5 = .ok (.aload_n 0, 1) := by decide +kernel
theorem dX7_isSafe_6 : decode cX7_isSafe 6 = .ok (.getfield 42, 3) := by decide +kernel
theorem dX7_isSafe_9 : decode cX7_isSafe 9 = .ok (.invokevirtual 165, 3) := by decide +kernel
theorem dX7_isSafe_12 : decode cX7_isSafe 12 = .ok (.ifCond .ne 7, 3) := by decide +kernel
theorem dX7_isSafe_15 : decode cX7_isSafe 15 = .ok (.iconst 1, 1) := by decide +kernel
theorem dX7_isSafe_16 : decode cX7_isSafe 16 = .ok (.goto 4, 3) := by decide +kernel
theorem dX7_isSafe_19 : decode cX7_isSafe 19 = .ok (.iconst 0, 1) := by decide +kernel
theorem dX7_isSafe_20 : decode cX7_isSafe 20 = .ok (.ireturn, 1) := by decide +kernel
set_option maxRecDepth 20000 in
theorem ggX7_findFar_X7_isWay : GoodIn wsX7_findFar wsX7_isWay := goodIn_r _ [8, 9, 10, 3, 11, 12, 7, 13, 44, 45, 46, 47, 48, 49, 50, 51, 52, 53, 54, 55, 56, 57, 58, 59, 60, 61, 62, 63, 64, 65, 66, 67, 68, 69, 70, 71] (by decide +kernel) (by decide +kernel)
set_option maxRecDepth 20000 in
theorem gX7_findFar_X7_isWay : GoodIn wsX7_findFar (wsV RX7 173 RX7 yX7_isWay wsX7_isWay) := goodIn_app (goodIn_of _ (by decide +kernel)) ggX7_findFar_X7_isWay
set_option maxRecDepth 20000 in
theorem ggX7_findFar_X7_isChange : GoodIn wsX7_findFar wsX7_isChange := goodIn_r _ [17, 9, 18, 19, 7, 20, 44, 45, 46, 47, 48, 49, 50, 51, 52, 53, 54, 55, 56, 57, 58, 59, 60, 61, 62, 63, 64, 65, 66, 67, 68, 69, 70, 71] (by decide +kernel) (by decide +kernel)
set_option maxRecDepth 20000 in
theorem gX7_findFar_X7_isChange : GoodIn wsX7_findFar (wsV RX7 145 RX7 yX7_isChange wsX7_isChange) := goodIn_app (goodIn_of _ (by decide +kernel)) ggX7_findFar_X7_isChange
set_option maxRecDepth 20000 in
theorem ggX7_findFar_X7_mayChange : GoodIn wsX7_findFar wsX7_mayChange := goodIn_r _ [24, 9, 25, 11, 12, 7, 13, 44, 45, 46, 47, 48, 49, 50, 51, 52, 53, 54, 55, 56, 57, 58, 59, 60, 61, 62, 63, 64, 65, 66, 67, 68, 69, 70, 71] (by decide +kernel) (by decide +kernel)
set_option maxRecDepth 20000 in
theorem gX7_findFar_X7_mayChange : GoodIn wsX7_findFar (wsV RX7 148 RX7 yX7_mayChange wsX7_mayChange) := goodIn_app (goodIn_of _ (by decide +kernel)) ggX7_findFar_X7_mayChange
set_option maxRecDepth 20000 in
theorem ggX7_findFar_X7_changes : GoodIn wsX7_findFar wsX7_changes := goodIn_r _ [29, 9, 11, 12, 7, 13, 44, 45, 46, 47, 48, 49, 50, 51, 52, 53, 54, 55, 56, 57, 58, 59, 60, 61, 62, 63, 64, 65, 66, 67, 68, 69, 70, 71] (by decide +kernel) (by decide +kernel)
set_option maxRecDepth 20000 in
theorem gX7_findFar_X7_changes : GoodIn wsX7_findFar (wsV RX7 155 RX7 yX7_changes wsX7_changes) := goodIn_app (goodIn_of _ (by decide +kernel)) ggX7_findFar_X7_changes
set_option maxRecDepth 20000 in
theorem ggX7_findFar_X7_wayOf : GoodIn wsX7_findFar wsX7_wayOf := goodIn_r _ [33, 9, 44, 45, 46, 47, 48, 49, 50, 51, 52, 53, 54, 55, 56, 57, 58, 59, 60, 61, 62, 63, 64, 65, 66, 67, 68, 69, 70, 71] (by decide +kernel) (by decide +kernel)
set_option maxRecDepth 20000 in
theorem gX7_findFar_X7_wayOf : GoodIn wsX7_findFar (wsV RX7 177 RX7 yX7_wayOf wsX7_wayOf) := goodIn_app (goodIn_of _ (by decide +kernel)) ggX7_findFar_X7_wayOf
set_option maxRecDepth 20000 in
theorem ggX7_findFar_X7_isSafe : GoodIn wsX7_findFar wsX7_isSafe := goodIn_r _ [37, 3, 38, 39, 40, 7, 41, 9, 42, 43, 44, 45, 46, 47, 48, 49, 50, 51, 52, 53, 54, 55, 56, 57, 58, 59, 60, 61, 62, 63, 64, 65, 66, 67, 68, 69, 70, 71] (by decide +kernel) (by decide +kernel)
set_option maxRecDepth 20000 in
theorem gX7_findFar_X7_isSafe : GoodIn wsX7_findFar (wsV RX7 180 RX7 yX7_isSafe wsX7_isSafe) := goodIn_app (goodIn_of _ (by decide +kernel)) ggX7_findFar_X7_isSafe
theorem dX7_findFar_0 : decode cX7_findFar 0 = .ok (.iconst 0, 1) := by decide +kernel
theorem dX7_findFar_1 : decode cX7_findFar 1 = .ok (.istore_n 3, 1) := by decide +kernel
theorem dX7_findFar_2 : decode cX7_findFar 2 = .ok (.iload_n 3, 1) := by decide +kernel
theorem dX7_findFar_3 : decode cX7_findFar 3 = .ok (.sipush 720, 3) := by decide +kernel
theorem dX7_findFar_6 : decode cX7_findFar 6 = .ok (.if_icmp .ge 16, 3) := by decide +kernel
theorem dX7_findFar_9 : decode cX7_findFar 9 = .ok (.aload_n 0, 1) := by decide +kernel
theorem dX7_findFar_10 : decode cX7_findFar 10 = .ok (.getfield 45, 3) := by decide +kernel
theorem dX7_findFar_13 : decode cX7_findFar 13 = .ok (.iload_n 3, 1) := by decide +kernel
theorem dX7_findFar_14 : decode cX7_findFar 14 = .ok (.iconst (-1), 1) := by decide +kernel
theorem dX7_findFar_15 : decode cX7_findFar 15 = .ok (.iastore, 1) := by decide +kernel
theorem dX7_findFar_16 : decode cX7_findFar 16 = .ok (.iinc 3 1, 3) := by decide +kernel
theorem dX7_findFar_19 : decode cX7_findFar 19 = .ok (.goto (-17), 3) := by decide +kernel
theorem dX7_findFar_22 : decode cX7_findFar 22 = .ok (.aload_n 0, 1) := by decide +kernel
theorem dX7_findFar_23 : decode cX7_findFar 23 = .ok (.getfield 45, 3) := by decide +kernel
theorem dX7_findFar_26 : decode cX7_findFar 26 = .ok (.iload_n 1, 1) := by decide +kernel
theorem dX7_findFar_27 : decode cX7_findFar 27 = .ok (.iconst 0, 1) := by decide +kernel
theorem dX7_findFar_28 : decode cX7_findFar 28 = .ok (.iastore, 1) := by decide +kernel
theorem dX7_findFar_29 : decode cX7_findFar 29 = .ok (.aload_n 0, 1) := by decide +kernel
theorem dX7_findFar_30 : decode cX7_findFar 30 = .ok (.getfield 48, 3) := by decide +kernel
theorem dX7_findFar_33 : decode cX7_findFar 33 = .ok (.iconst 0, 1) := by decide +kernel
theorem dX7_findFar_34 : decode cX7_findFar 34 = .ok (.iload_n 1, 1) := by decide +kernel
theorem dX7_findFar_35 : decode cX7_findFar 35 = .ok (.iastore, 1) := by decide +kernel
theorem dX7_findFar_36 : decode cX7_findFar 36 = .ok (.iconst 1, 1) := by decide +kernel
theorem dX7_findFar_37 : decode cX7_findFar 37 = .ok (.istore_n 3, 1) := by decide +kernel
theorem dX7_findFar_38 : decode cX7_findFar 38 = .ok (.iconst 0, 1) := by decide +kernel
theorem dX7_findFar_39 : decode cX7_findFar 39 = .ok (.istore 4, 2) := by decide +kernel
theorem dX7_findFar_41 : decode cX7_findFar 41 = .ok (.iload 4, 2) := by decide +kernel
theorem dX7_findFar_43 : decode cX7_findFar 43 = .ok (.iload_n 3, 1) := by decide +kernel
theorem dX7_findFar_44 : decode cX7_findFar 44 = .ok (.if_icmp .ge 128, 3) := by decide +kernel
theorem dX7_findFar_47 : decode cX7_findFar 47 = .ok (.iconst 1, 1) := by decide +kernel
theorem dX7_findFar_48 : decode cX7_findFar 48 = .ok (.istore 5, 2) := by decide +kernel
theorem dX7_findFar_50 : decode cX7_findFar 50 = .ok (.iload 5, 2) := by decide +kernel
theorem dX7_findFar_52 : decode cX7_findFar 52 = .ok (.bipush 32, 2) := by decide +kernel
theorem dX7_findFar_54 : decode cX7_findFar 54 = .ok (.if_icmp .ge 112, 3) := by decide +kernel
theorem dX7_findFar_57 : decode cX7_findFar 57 = .ok (.aload_n 0, 1) := by decide +kernel
theorem dX7_findFar_58 : decode cX7_findFar 58 = .ok (.aload_n 0, 1) := by decide +kernel
theorem dX7_findFar_59 : decode cX7_findFar 59 = .ok (.getfield 48, 3) := by decide +kernel
theorem dX7_findFar_62 : decode cX7_findFar 62 = .ok (.iload 4, 2) := by decide +kernel
theorem dX7_findFar_64 : decode cX7_findFar 64 = .ok (.iaload, 1) := by decide +kernel
theorem dX7_findFar_65 : decode cX7_findFar 65 = .ok (.invokevirtual 173, 3) := by decide +kernel
theorem dX7_findFar_68 : decode cX7_findFar 68 = .ok (.aload_n 0, 1) := by decide +kernel
theorem dX7_findFar_69 : decode cX7_findFar 69 = .ok (.iload 5, 2) := by decide +kernel
theorem dX7_findFar_71 : decode cX7_findFar 71 = .ok (.invokevirtual 145, 3) := by decide +kernel
theorem dX7_findFar_74 : decode cX7_findFar 74 = .ok (.ifCond .eq 86, 3) := by decide +kernel
theorem dX7_findFar_77 : decode cX7_findFar 77 = .ok (.aload_n 0, 1) := by decide +kernel
theorem dX7_findFar_78 : decode cX7_findFar 78 = .ok (.aload_n 0, 1) := by decide +kernel
theorem dX7_findFar_79 : decode cX7_findFar 79 = .ok (.getfield 42, 3) := by decide +kernel
theorem dX7_findFar_82 : decode cX7_findFar 82 = .ok (.iload 5, 2) := by decide +kernel
theorem dX7_findFar_84 : decode cX7_findFar 84 = .ok (.invokevirtual 148, 3) := by decide +kernel
theorem dX7_findFar_87 : decode cX7_findFar 87 = .ok (.ifCond .eq 73, 3) := by decide +kernel
theorem dX7_findFar_90 : decode cX7_findFar 90 = .ok (.aload_n 0, 1) := by decide +kernel
theorem dX7_findFar_91 : decode cX7_findFar 91 = .ok (.aload_n 0, 1) := by decide +kernel
theorem dX7_findFar_92 : decode cX7_findFar 92 = .ok (.getfield 42, 3) := by decide +kernel
theorem dX7_findFar_95 : decode cX7_findFar 95 = .ok (.iload 5, 2) := by decide +kernel
theorem dX7_findFar_97 : decode cX7_findFar 97 = .ok (.invokevirtual 155, 3) := by decide +kernel
theorem dX7_findFar_100 : decode cX7_findFar 100 = .ok (.aload_n 0, 1) := by decide +kernel
theorem dX7_findFar_101 : decode cX7_findFar 101 = .ok (.aload_n 0, 1) := by decide +kernel
theorem dX7_findFar_102 : decode cX7_findFar 102 = .ok (.getfield 42, 3) := by decide +kernel
theorem dX7_findFar_105 : decode cX7_findFar 105 = .ok (.invokevirtual 177, 3) := by decide +kernel
theorem dX7_findFar_108 : decode cX7_findFar 108 = .ok (.istore 6, 2) := by decide +kernel
theorem dX7_findFar_110 : decode cX7_findFar 110 = .ok (.aload_n 0, 1) := by decide +kernel
theorem dX7_findFar_111 : decode cX7_findFar 111 = .ok (.getfield 45, 3) := by decide +kernel
theorem dX7_findFar_114 : decode cX7_findFar 114 = .ok (.iload 6, 2) := by decide +kernel
theorem dX7_findFar_116 : decode cX7_findFar 116 = .ok (.iaload, 1) := by decide +kernel
theorem dX7_findFar_117 : decode cX7_findFar 117 = .ok (.ifCond .ge 43, 3) := by decide +kernel
theorem dX7_findFar_120 : decode cX7_findFar 120 = .ok (.aload_n 0, 1) := by decide +kernel
theorem dX7_findFar_121 : decode cX7_findFar 121 = .ok (.iload_n 2, 1) := by decide +kernel
theorem dX7_findFar_122 : decode cX7_findFar 122 = .ok (.invokevirtual 180, 3) := by decide +kernel
theorem dX7_findFar_125 : decode cX7_findFar 125 = .ok (.ifCond .eq 35, 3) := by decide +kernel
theorem dX7_findFar_128 : decode cX7_findFar 128 = .ok (.aload_n 0, 1) := by decide +kernel
theorem dX7_findFar_129 : decode cX7_findFar 129 = .ok (.getfield 45, 3) := by decide +kernel
theorem dX7_findFar_132 : decode cX7_findFar 132 = .ok (.iload 6, 2) := by decide +kernel
theorem dX7_findFar_134 : decode cX7_findFar 134 = .ok (.aload_n 0, 1) := by decide +kernel
theorem dX7_findFar_135 : decode cX7_findFar 135 = .ok (.getfield 45, 3) := by decide +kernel
theorem dX7_findFar_138 : decode cX7_findFar 138 = .ok (.aload_n 0, 1) := by decide +kernel
theorem dX7_findFar_139 : decode cX7_findFar 139 = .ok (.getfield 48, 3) := by decide +kernel
theorem dX7_findFar_142 : decode cX7_findFar 142 = .ok (.iload 4, 2) := by decide +kernel
theorem dX7_findFar_144 : decode cX7_findFar 144 = .ok (.iaload, 1) := by decide +kernel
theorem dX7_findFar_145 : decode cX7_findFar 145 = .ok (.iaload, 1) := by decide +kernel
theorem dX7_findFar_146 : decode cX7_findFar 146 = .ok (.iconst 1, 1) := by decide +kernel
theorem dX7_findFar_147 : decode cX7_findFar 147 = .ok (.iadd, 1) := by decide +kernel
theorem dX7_findFar_148 : decode cX7_findFar 148 = .ok (.iastore, 1) := by decide +kernel
theorem dX7_findFar_149 : decode cX7_findFar 149 = .ok (.aload_n 0, 1) := by decide +kernel
theorem dX7_findFar_150 : decode cX7_findFar 150 = .ok (.getfield 48, 3) := by decide +kernel
theorem dX7_findFar_153 : decode cX7_findFar 153 = .ok (.iload_n 3, 1) := by decide +kernel
theorem dX7_findFar_154 : decode cX7_findFar 154 = .ok (.iload 6, 2) := by decide +kernel
theorem dX7_findFar_156 : decode cX7_findFar 156 = .ok (.iastore, 1) := by decide +kernel
theorem dX7_findFar_157 : decode cX7_findFar 157 = .ok (.iinc 3 1, 3) := by decide +kernel
theorem dX7_findFar_160 : decode cX7_findFar 160 = .ok (.iinc 5 1, 3) := by decide +kernel
theorem dX7_findFar_163 : decode cX7_findFar 163 = .ok (.goto (-113), 3) := by decide +kernel
theorem dX7_findFar_166 : decode cX7_findFar 166 = .ok (.iinc 4 1, 3) := by decide +kernel
theorem dX7_findFar_169 : decode cX7_findFar 169 = .ok (.goto (-128), 3) := by decide +kernel
theorem dX7_findFar_172 : decode cX7_findFar 172 = .ok (.return_, 1) := by decide +kernel
theorem dX7_areHome_0 : decode cX7_areHome 0 = .ok (.iconst 1, 1) := by decide +kernel
theorem dX7_areHome_1 : decode cX7_areHome 1 = .ok (.istore_n 1, 1) := by decide +kernel
theorem dX7_areHome_2 : decode cX7_areHome 2 = .ok (.iconst 0, 1) := by decide +kernel
theorem dX7_areHome_3 : decode cX7_areHome 3 = .ok (.istore_n 2, 1) := by decide +kernel
theorem dX7_areHome_4 : decode cX7_areHome 4 = .ok (.iload_n 2, 1) := by decide +kernel
theorem dX7_areHome_5 : decode cX7_areHome 5 = .ok (.aload_n 0, 1) := by decide +kernel
theorem dX7_areHome_6 : decode cX7_areHome 6 = .ok (.getfield 54, 3) := by decide +kernel
theorem dX7_areHome_9 : decode cX7_areHome 9 = .ok (.if_icmp .ge 29, 3) := by decide +kernel
theorem dX7_areHome_12 : decode cX7_areHome 12 = .ok (.iload_n 1, 1) := by decide +kernel
theorem dX7_areHome_13 : decode cX7_areHome 13 = .ok (.ifCond .eq 17, 3) := by decide +kernel
theorem dX7_areHome_16 : decode cX7_areHome 16 = .ok (.aload_n 0, 1) := by decide +kernel
theorem dX7_areHome_17 : decode cX7_areHome 17 = .ok (.getfield 20, 3) := by decide +kernel
theorem dX7_areHome_20 : decode cX7_areHome 20 = .ok (.iload_n 2, 1) := by decide +kernel
theorem dX7_areHome_21 : decode cX7_areHome 21 = .ok (.iaload, 1) := by decide +kernel
theorem dX7_areHome_22 : decode cX7_areHome 22 = .ok (.iload_n 2, 1) := by decide +kernel
theorem dX7_areHome_23 : decode cX7_areHome 23 = .ok (.if_icmp .ne 7, 3) := by decide +kernel
theorem dX7_areHome_26 : decode cX7_areHome 26 = .ok (.iconst 1, 1) := by decide +kernel
theorem dX7_areHome_27 : decode cX7_areHome 27 = .ok (.goto 4, 3) := by decide +kernel
theorem dX7_areHome_30 : decode cX7_areHome 30 = .ok (.iconst 0, 1) := by decide +kernel
theorem dX7_areHome_31 : decode cX7_areHome 31 = .ok (.istore_n 1, 1) := by decide +kernel
theorem dX7_areHome_32 : decode cX7_areHome 32 = .ok (.iinc 2 1, 3) := by decide +kernel
theorem dX7_areHome_35 : decode cX7_areHome 35 = .ok (.goto (-31), 3) := by decide +kernel
theorem dX7_areHome_38 : decode cX7_areHome 38 = .ok (.iload_n 1, 1) := by decide +kernel
theorem dX7_areHome_39 : decode cX7_areHome 39 = .ok (.ireturn, 1) := by decide +kernel
set_option maxRecDepth 20000 in
theorem ggX7_homeward_X7_in : GoodIn wsX7_homeward wsX7_in := goodIn_r _ [7] (by decide +kernel) (by decide +kernel)
set_option maxRecDepth 20000 in
theorem gX7_homeward_X7_in : GoodIn wsX7_homeward (va_wsS RX7 57 yX7_in wsX7_in) := goodIn_app (goodIn_of _ (by decide +kernel)) ggX7_homeward_X7_in
set_option maxRecDepth 20000 in
theorem ggX7_homeward_X7_areHome : GoodIn wsX7_homeward wsX7_areHome := goodIn_r _ [11, 12, 1, 57, 58, 59, 60, 61, 62, 63, 64, 65, 66, 67, 68, 69, 70, 71, 72, 73, 74, 75, 76, 77, 78, 79, 80, 81, 82, 83, 84] (by decide +kernel) (by decide +kernel)
set_option maxRecDepth 20000 in
theorem gX7_homeward_X7_areHome : GoodIn wsX7_homeward (wsV RX7 183 RX7 yX7_areHome wsX7_areHome) := goodIn_app (goodIn_of _ (by decide +kernel)) ggX7_homeward_X7_areHome
set_option maxRecDepth 20000 in
theorem ggX7_homeward_X7_isWay : GoodIn wsX7_homeward wsX7_isWay := goodIn_r _ [16, 12, 17, 2, 18, 19, 6, 20, 57, 58, 59, 60, 61, 62, 63, 64, 65, 66, 67, 68, 69, 70, 71, 72, 73, 74, 75, 76, 77, 78, 79, 80, 81, 82, 83, 84] (by decide +kernel) (by decide +kernel)
set_option maxRecDepth 20000 in
theorem gX7_homeward_X7_isWay : GoodIn wsX7_homeward (wsV RX7 173 RX7 yX7_isWay wsX7_isWay) := goodIn_app (goodIn_of _ (by decide +kernel)) ggX7_homeward_X7_isWay
set_option maxRecDepth 20000 in
theorem ggX7_homeward_X7_isSafe : GoodIn wsX7_homeward wsX7_isSafe := goodIn_r _ [24, 2, 25, 26, 27, 6, 28, 12, 29, 30, 57, 58, 59, 60, 61, 62, 63, 64, 65, 66, 67, 68, 69, 70, 71, 72, 73, 74, 75, 76, 77, 78, 79, 80, 81, 82, 83, 84] (by decide +kernel) (by decide +kernel)
set_option maxRecDepth 20000 in
theorem gX7_homeward_X7_isSafe : GoodIn wsX7_homeward (wsV RX7 180 RX7 yX7_isSafe wsX7_isSafe) := goodIn_app (goodIn_of _ (by decide +kernel)) ggX7_homeward_X7_isSafe
set_option maxRecDepth 20000 in
theorem ggX7_homeward_X7_findFar : GoodIn wsX7_homeward wsX7_findFar := goodIn_r _ [34, 3, 35, 2, 13, 14, 15, 6, 16, 12, 17, 18, 19, 20, 36, 37, 38, 39, 4, 5, 7, 40, 41, 42, 43, 44, 45, 46, 47, 48, 49, 50, 51, 52, 21, 22, 23, 24, 25, 26, 27, 28, 29, 30, 57, 58, 59, 60, 61, 62, 63, 64, 65, 66, 67, 68, 69, 70, 71, 72, 73, 74, 75, 76, 77, 78, 79, 80, 81, 82, 83, 84] (by decide +kernel) (by decide +kernel)
set_option maxRecDepth 20000 in
theorem gX7_homeward_X7_findFar : GoodIn wsX7_homeward (wsV RX7 187 RX7 yX7_findFar wsX7_findFar) := goodIn_app (goodIn_of _ (by decide +kernel)) ggX7_homeward_X7_findFar
set_option maxRecDepth 20000 in
theorem ggX7_homeward_X7_isChange : GoodIn wsX7_homeward wsX7_isChange := goodIn_r _ [39, 12, 4, 5, 6, 7, 57, 58, 59, 60, 61, 62, 63, 64, 65, 66, 67, 68, 69, 70, 71, 72, 73, 74, 75, 76, 77, 78, 79, 80, 81, 82, 83, 84] (by decide +kernel) (by decide +kernel)
set_option maxRecDepth 20000 in
theorem gX7_homeward_X7_isChange : GoodIn wsX7_homeward (wsV RX7 145 RX7 yX7_isChange wsX7_isChange) := goodIn_app (goodIn_of _ (by decide +kernel)) ggX7_homeward_X7_isChange
set_option maxRecDepth 20000 in
theorem ggX7_homeward_X7_mayChange : GoodIn wsX7_homeward wsX7_mayChange := goodIn_r _ [43, 12, 44, 18, 19, 6, 20, 57, 58, 59, 60, 61, 62, 63, 64, 65, 66, 67, 68, 69, 70, 71, 72, 73, 74, 75, 76, 77, 78, 79, 80, 81, 82, 83, 84] (by decide +kernel) (by decide +kernel)
set_option maxRecDepth 20000 in
theorem gX7_homeward_X7_mayChange : GoodIn wsX7_homeward (wsV RX7 148 RX7 yX7_mayChange wsX7_mayChange) := goodIn_app (goodIn_of _ (by decide +kernel)) ggX7_homeward_X7_mayChange
set_option maxRecDepth 20000 in
theorem ggX7_homeward_X7_asItIs : GoodIn wsX7_homeward wsX7_asItIs := goodIn_r _ [56, 2, 1, 57, 58, 59, 60, 61, 62, 63, 64, 65, 66, 67, 68, 69, 70, 71, 72, 73, 74, 75, 76, 77, 78, 79, 80, 81, 82, 83, 84] (by decide +kernel) (by decide +kernel)
set_option maxRecDepth 20000 in
theorem gX7_homeward_X7_asItIs : GoodIn wsX7_homeward (wsV RX7 162 RX7 yX7_asItIs wsX7_asItIs) := goodIn_app (goodIn_of _ (by decide +kernel)) ggX7_homeward_X7_asItIs
set_option maxRecDepth 20000 in
theorem ggX7_homeward_X7_changes : GoodIn wsX7_homeward wsX7_changes := goodIn_r _ [48, 12, 18, 19, 6, 20, 57, 58, 59, 60, 61, 62, 63, 64, 65, 66, 67, 68, 69, 70, 71, 72, 73, 74, 75, 76, 77, 78, 79, 80, 81, 82, 83, 84] (by decide +kernel) (by decide +kernel)
set_option maxRecDepth 20000 in
theorem gX7_homeward_X7_changes : GoodIn wsX7_homeward (wsV RX7 155 RX7 yX7_changes wsX7_changes) := goodIn_app (goodIn_of _ (by decide +kernel)) ggX7_homeward_X7_changes
set_option maxRecDepth 20000 in
theorem ggX7_homeward_X7_wayOf : GoodIn wsX7_homeward wsX7_wayOf := goodIn_r _ [52, 12, 57, 58, 59, 60, 61, 62, 63, 64, 65, 66, 67, 68, 69, 70, 71, 72, 73, 74, 75, 76, 77, 78, 79, 80, 81, 82, 83, 84] (by decide +kernel) (by decide +kernel)
set_option maxRecDepth 20000 in
theorem gX7_homeward_X7_wayOf : GoodIn wsX7_homeward (wsV RX7 177 RX7 yX7_wayOf wsX7_wayOf) := goodIn_app (goodIn_of _ (by decide +kernel)) ggX7_homeward_X7_wayOf
theorem dX7_homeward_0 : decode cX7_homeward 0 = .ok (.iload_n 1, 1) := by decide +kernel
theorem dX7_homeward_1 : decode cX7_homeward 1 = .ok (.iconst 0, 1) := by decide +kernel
theorem dX7_homeward_2 : decode cX7_homeward 2 = .ok (.iconst 1, 1) := by decide +kernel
theorem dX7_homeward_3 : decode cX7_homeward 3 = .ok (.invokestatic 57, 3) := by decide +kernel
theorem dX7_homeward_6 : decode cX7_homeward 6 = .ok (.ifCond .eq 12, 3) := by decide +kernel
theorem dX7_homeward_9 : decode cX7_homeward 9 = .ok (.iload_n 2, 1) := by decide +kernel
theorem dX7_homeward_10 : decode cX7_homeward 10 = .ok (.iconst 0, 1) := by decide +kernel
theorem dX7_homeward_11 : decode cX7_homeward 11 = .ok (.iconst 1, 1) := by decide +kernel
theorem dX7_homeward_12 : decode cX7_homeward 12 = .ok (.invokestatic 57, 3) := by decide +kernel
theorem dX7_homeward_15 : decode cX7_homeward 15 = .ok (.ifCond .ne 5, 3) := by decide +kernel
theorem dX7_homeward_18 : decode cX7_homeward 18 = .ok (.iconst (-1), 1) := by decide +kernel
theorem dX7_homeward_19 : decode cX7_homeward 19 = .ok (.ireturn, 1) := by decide +kernel
theorem dX7_homeward_20 : decode cX7_homeward 20 = .ok (.aload_n 0, 1) := by decide +kernel
theorem dX7_homeward_21 : decode cX7_homeward 21 = .ok (.invokevirtual 183, 3) := by decide +kernel
theorem dX7_homeward_24 : decode cX7_homeward 24 = .ok (.ifCond .eq 14, 3) := by decide +kernel
theorem dX7_homeward_27 : decode cX7_homeward 27 = .ok (.iload_n 2, 1) := by decide +kernel
theorem dX7_homeward_28 : decode cX7_homeward 28 = .ok (.ifCond .ne 7, 3) := by decide +kernel
theorem dX7_homeward_31 : decode cX7_homeward 31 = .ok (.iconst 0, 1) := by decide +kernel
theorem dX7_homeward_32 : decode cX7_homeward 32 = .ok (.goto 5, 3) := by decide +kernel
theorem dX7_homeward_35 : decode cX7_homeward 35 = .ok (.bipush (-9), 2) := by decide +kernel
theorem dX7_homeward_37 : decode cX7_homeward 37 = .ok (.ireturn, 1) := by decide +kernel
theorem dX7_homeward_38 : decode cX7_homeward 38 = .ok (.aload_n 0, 1) := by decide +kernel
theorem dX7_homeward_39 : decode cX7_homeward 39 = .ok (.iconst 0, 1) := by decide +kernel
theorem dX7_homeward_40 : decode cX7_homeward 40 = .ok (.invokevirtual 173, 3) := by decide +kernel
theorem dX7_homeward_43 : decode cX7_homeward 43 = .ok (.aload_n 0, 1) := by decide +kernel
theorem dX7_homeward_44 : decode cX7_homeward 44 = .ok (.iload_n 1, 1) := by decide +kernel
theorem dX7_homeward_45 : decode cX7_homeward 45 = .ok (.invokevirtual 180, 3) := by decide +kernel
theorem dX7_homeward_48 : decode cX7_homeward 48 = .ok (.ifCond .ne 6, 3) := by decide +kernel
theorem dX7_homeward_51 : decode cX7_homeward 51 = .ok (.bipush (-9), 2) := by decide +kernel
theorem dX7_homeward_53 : decode cX7_homeward 53 = .ok (.ireturn, 1) := by decide +kernel
theorem dX7_homeward_54 : decode cX7_homeward 54 = .ok (.aload_n 0, 1) := by decide +kernel
theorem dX7_homeward_55 : decode cX7_homeward 55 = .ok (.iconst 0, 1) := by decide +kernel
theorem dX7_homeward_56 : decode cX7_homeward 56 = .ok (.iload_n 1, 1) := by decide +kernel
theorem dX7_homeward_57 : decode cX7_homeward 57 = .ok (.invokevirtual 187, 3) := by decide +kernel
theorem dX7_homeward_60 : decode cX7_homeward 60 = .ok (.bipush (-9), 2) := by decide +kernel
theorem dX7_homeward_62 : decode cX7_homeward 62 = .ok (.istore_n 3, 1) := by decide +kernel
theorem dX7_homeward_63 : decode cX7_homeward 63 = .ok (.bipush (-9), 2) := by decide +kernel
theorem dX7_homeward_65 : decode cX7_homeward 65 = .ok (.istore 4, 2) := by decide +kernel
theorem dX7_homeward_67 : decode cX7_homeward 67 = .ok (.bipush 31, 2) := by decide +kernel
theorem dX7_homeward_69 : decode cX7_homeward 69 = .ok (.istore 5, 2) := by decide +kernel
theorem dX7_homeward_71 : decode cX7_homeward 71 = .ok (.iload 5, 2) := by decide +kernel
theorem dX7_homeward_73 : decode cX7_homeward 73 = .ok (.ifCond .lt 120, 3) := by decide +kernel
theorem dX7_homeward_76 : decode cX7_homeward 76 = .ok (.aload_n 0, 1) := by decide +kernel
theorem dX7_homeward_77 : decode cX7_homeward 77 = .ok (.iload 5, 2) := by decide +kernel
theorem dX7_homeward_79 : decode cX7_homeward 79 = .ok (.invokevirtual 145, 3) := by decide +kernel
theorem dX7_homeward_82 : decode cX7_homeward 82 = .ok (.ifCond .eq 105, 3) := by decide +kernel
theorem dX7_homeward_85 : decode cX7_homeward 85 = .ok (.aload_n 0, 1) := by decide +kernel
theorem dX7_homeward_86 : decode cX7_homeward 86 = .ok (.aload_n 0, 1) := by decide +kernel
theorem dX7_homeward_87 : decode cX7_homeward 87 = .ok (.getfield 20, 3) := by decide +kernel
theorem dX7_homeward_90 : decode cX7_homeward 90 = .ok (.iload 5, 2) := by decide +kernel
theorem dX7_homeward_92 : decode cX7_homeward 92 = .ok (.invokevirtual 148, 3) := by decide +kernel
theorem dX7_homeward_95 : decode cX7_homeward 95 = .ok (.ifCond .eq 92, 3) := by decide +kernel
theorem dX7_homeward_98 : decode cX7_homeward 98 = .ok (.aload_n 0, 1) := by decide +kernel
theorem dX7_homeward_99 : decode cX7_homeward 99 = .ok (.invokevirtual 162, 3) := by decide +kernel
theorem dX7_homeward_102 : decode cX7_homeward 102 = .ok (.aload_n 0, 1) := by decide +kernel
theorem dX7_homeward_103 : decode cX7_homeward 103 = .ok (.aload_n 0, 1) := by decide +kernel
theorem dX7_homeward_104 : decode cX7_homeward 104 = .ok (.getfield 42, 3) := by decide +kernel
theorem dX7_homeward_107 : decode cX7_homeward 107 = .ok (.iload 5, 2) := by decide +kernel
theorem dX7_homeward_109 : decode cX7_homeward 109 = .ok (.invokevirtual 155, 3) := by decide +kernel
theorem dX7_homeward_112 : decode cX7_homeward 112 = .ok (.aload_n 0, 1) := by decide +kernel
theorem dX7_homeward_113 : decode cX7_homeward 113 = .ok (.getfield 45, 3) := by decide +kernel
theorem dX7_homeward_116 : decode cX7_homeward 116 = .ok (.aload_n 0, 1) := by decide +kernel
theorem dX7_homeward_117 : decode cX7_homeward 117 = .ok (.aload_n 0, 1) := by decide +kernel
theorem dX7_homeward_118 : decode cX7_homeward 118 = .ok (.getfield 42, 3) := by decide +kernel
theorem dX7_homeward_121 : decode cX7_homeward 121 = .ok (.invokevirtual 177, 3) := by decide +kernel
theorem dX7_homeward_124 : decode cX7_homeward 124 = .ok (.iaload, 1) := by decide +kernel
theorem dX7_homeward_125 : decode cX7_homeward 125 = .ok (.istore 6, 2) := by decide +kernel
theorem dX7_homeward_127 : decode cX7_homeward 127 = .ok (.iload 6, 2) := by decide +kernel
theorem dX7_homeward_129 : decode cX7_homeward 129 = .ok (.ifCond .lt 27, 3) := by decide +kernel
theorem dX7_homeward_132 : decode cX7_homeward 132 = .ok (.aload_n 0, 1) := by decide +kernel
theorem dX7_homeward_133 : decode cX7_homeward 133 = .ok (.iload_n 1, 1) := by decide +kernel
theorem dX7_homeward_134 : decode cX7_homeward 134 = .ok (.invokevirtual 180, 3) := by decide +kernel
theorem dX7_homeward_137 : decode cX7_homeward 137 = .ok (.ifCond .eq 19, 3) := by decide +kernel
theorem dX7_homeward_140 : decode cX7_homeward 140 = .ok (.iload_n 3, 1) := by decide +kernel
theorem dX7_homeward_141 : decode cX7_homeward 141 = .ok (.ifCond .lt 11, 3) := by decide +kernel
theorem dX7_homeward_144 : decode cX7_homeward 144 = .ok (.iload 6, 2) := by decide +kernel
theorem dX7_homeward_146 : decode cX7_homeward 146 = .ok (.iconst 1, 1) := by decide +kernel
theorem dX7_homeward_147 : decode cX7_homeward 147 = .ok (.iadd, 1) := by decide +kernel
theorem dX7_homeward_148 : decode cX7_homeward 148 = .ok (.iload_n 3, 1) := by decide +kernel
theorem dX7_homeward_149 : decode cX7_homeward 149 = .ok (.if_icmp .gt 7, 3) := by decide +kernel
theorem dX7_homeward_152 : decode cX7_homeward 152 = .ok (.iconst 1, 1) := by decide +kernel
theorem dX7_homeward_153 : decode cX7_homeward 153 = .ok (.goto 4, 3) := by decide +kernel
theorem dX7_homeward_156 : decode cX7_homeward 156 = .ok (.iconst 0, 1) := by decide +kernel
theorem dX7_homeward_157 : decode cX7_homeward 157 = .ok (.istore 7, 2) := by decide +kernel
theorem dX7_homeward_159 : decode cX7_homeward 159 = .ok (.iload 7, 2) := by decide +kernel
theorem dX7_homeward_161 : decode cX7_homeward 161 = .ok (.ifCond .eq 8, 3) := by decide +kernel
theorem dX7_homeward_164 : decode cX7_homeward 164 = .ok (.iload 5, 2) := by decide +kernel
theorem dX7_homeward_166 : decode cX7_homeward 166 = .ok (.goto 5, 3) := by decide +kernel
theorem dX7_homeward_169 : decode cX7_homeward 169 = .ok (.iload 4, 2) := by decide +kernel
theorem dX7_homeward_171 : decode cX7_homeward 171 = .ok (.istore 4, 2) := by decide +kernel
theorem dX7_homeward_173 : decode cX7_homeward 173 = .ok (.iload 7, 2) := by decide +kernel
theorem dX7_homeward_175 : decode cX7_homeward 175 = .ok (.ifCond .eq 10, 3) := by decide +kernel
theorem dX7_homeward_178 : decode cX7_homeward 178 = .ok (.iload 6, 2) := by decide +kernel
theorem dX7_homeward_180 : decode cX7_homeward 180 = .ok (.iconst 1, 1) := by decide +kernel
theorem dX7_homeward_181 : decode cX7_homeward 181 = .ok (.iadd, 1) := by decide +kernel
theorem dX7_homeward_182 : decode cX7_homeward 182 = .ok (.goto 4, 3) := by decide +kernel
theorem dX7_homeward_185 : decode cX7_homeward 185 = .ok (.iload_n 3, 1) := by decide +kernel
theorem dX7_homeward_186 : decode cX7_homeward 186 = .ok (.istore_n 3, 1) := by decide +kernel
theorem dX7_homeward_187 : decode cX7_homeward 187 = .ok (.iinc 5 (-1), 3) := by decide +kernel
theorem dX7_homeward_190 : decode cX7_homeward 190 = .ok (.goto (-119), 3) := by decide +kernel
theorem dX7_homeward_193 : decode cX7_homeward 193 = .ok (.iload_n 2, 1) := by decide +kernel
theorem dX7_homeward_194 : decode cX7_homeward 194 = .ok (.ifCond .ne 7, 3) := by decide +kernel
theorem dX7_homeward_197 : decode cX7_homeward 197 = .ok (.iload_n 3, 1) := by decide +kernel
theorem dX7_homeward_198 : decode cX7_homeward 198 = .ok (.goto 5, 3) := by decide +kernel
theorem dX7_homeward_201 : decode cX7_homeward 201 = .ok (.iload 4, 2) := by decide +kernel
theorem dX7_homeward_203 : decode cX7_homeward 203 = .ok (.ireturn, 1) := by decide +kernel
set_option maxRecDepth 20000 in
theorem ggX7_trade_X7_isOne : GoodIn wsX7_trade wsX7_isOne := goodIn_r _ [8, 9, 10, 11, 7, 12, 57, 58, 59, 60, 61, 62, 63, 64, 65, 66, 67, 68, 69, 70, 71, 72, 73, 74, 75, 76, 77, 78, 79, 80, 81, 82, 83, 84] (by decide +kernel) (by decide +kernel)
set_option maxRecDepth 20000 in
theorem gX7_trade_X7_isOne : GoodIn wsX7_trade (wsV RX7 139 RX7 yX7_isOne wsX7_isOne) := goodIn_app (goodIn_of _ (by decide +kernel)) ggX7_trade_X7_isOne
set_option maxRecDepth 20000 in
theorem ggX7_trade_X7_in : GoodIn wsX7_trade wsX7_in := goodIn_r _ [12] (by decide +kernel) (by decide +kernel)
set_option maxRecDepth 20000 in
theorem gX7_trade_X7_in : GoodIn wsX7_trade (va_wsS RX7 57 yX7_in wsX7_in) := goodIn_app (goodIn_of _ (by decide +kernel)) ggX7_trade_X7_in
set_option maxRecDepth 20000 in
theorem ggX7_trade_X7_rockOf : GoodIn wsX7_trade wsX7_rockOf := goodIn_r _ [16] (by decide +kernel) (by decide +kernel)
set_option maxRecDepth 20000 in
theorem gX7_trade_X7_rockOf : GoodIn wsX7_trade (wsV RX7 131 RX7 yX7_rockOf wsX7_rockOf) := goodIn_app (goodIn_of _ (by decide +kernel)) ggX7_trade_X7_rockOf
set_option maxRecDepth 20000 in
theorem ggX7_trade_X7_wayOf : GoodIn wsX7_trade wsX7_wayOf := goodIn_r _ [20, 9, 57, 58, 59, 60, 61, 62, 63, 64, 65, 66, 67, 68, 69, 70, 71, 72, 73, 74, 75, 76, 77, 78, 79, 80, 81, 82, 83, 84] (by decide +kernel) (by decide +kernel)
set_option maxRecDepth 20000 in
theorem gX7_trade_X7_wayOf : GoodIn wsX7_trade (wsV RX7 177 RX7 yX7_wayOf wsX7_wayOf) := goodIn_app (goodIn_of _ (by decide +kernel)) ggX7_trade_X7_wayOf
set_option maxRecDepth 20000 in
theorem ggX7_trade_X7_findFar : GoodIn wsX7_trade wsX7_findFar := goodIn_r _ [24, 2, 25, 3, 26, 27, 28, 7, 29, 9, 30, 31, 32, 33, 34, 35, 36, 37, 10, 11, 12, 38, 39, 40, 41, 42, 43, 44, 45, 46, 17, 18, 19, 20, 47, 48, 49, 50, 51, 52, 53, 54, 55, 56, 57, 58, 59, 60, 61, 62, 63, 64, 65, 66, 67, 68, 69, 70, 71, 72, 73, 74, 75, 76, 77, 78, 79, 80, 81, 82, 83, 84] (by decide +kernel) (by decide +kernel)
set_option maxRecDepth 20000 in
theorem gX7_trade_X7_findFar : GoodIn wsX7_trade (wsV RX7 187 RX7 yX7_findFar wsX7_findFar) := goodIn_app (goodIn_of _ (by decide +kernel)) ggX7_trade_X7_findFar
set_option maxRecDepth 20000 in
theorem ggX7_trade_X7_isWay : GoodIn wsX7_trade wsX7_isWay := goodIn_r _ [29, 9, 30, 3, 31, 32, 7, 33, 57, 58, 59, 60, 61, 62, 63, 64, 65, 66, 67, 68, 69, 70, 71, 72, 73, 74, 75, 76, 77, 78, 79, 80, 81, 82, 83, 84] (by decide +kernel) (by decide +kernel)
set_option maxRecDepth 20000 in
theorem gX7_trade_X7_isWay : GoodIn wsX7_trade (wsV RX7 173 RX7 yX7_isWay wsX7_isWay) := goodIn_app (goodIn_of _ (by decide +kernel)) ggX7_trade_X7_isWay
theorem dX7_trade_0 : decode cX7_trade 0 = .ok (.aload_n 0, 1) := by decide +kernel
theorem dX7_trade_1 : decode cX7_trade 1 = .ok (.iload_n 1, 1) := by decide +kernel
theorem dX7_trade_2 : decode cX7_trade 2 = .ok (.invokevirtual 139, 3) := by decide +kernel
theorem dX7_trade_5 : decode cX7_trade 5 = .ok (.ifCond .eq 25, 3) := by decide +kernel
theorem dX7_trade_8 : decode cX7_trade 8 = .ok (.aload_n 0, 1) := by decide +kernel
theorem dX7_trade_9 : decode cX7_trade 9 = .ok (.iload_n 2, 1) := by decide +kernel
theorem dX7_trade_10 : decode cX7_trade 10 = .ok (.invokevirtual 139, 3) := by decide +kernel
theorem dX7_trade_13 : decode cX7_trade 13 = .ok (.ifCond .eq 17, 3) := by decide +kernel
theorem dX7_trade_16 : decode cX7_trade 16 = .ok (.iload_n 1, 1) := by decide +kernel
theorem dX7_trade_17 : decode cX7_trade 17 = .ok (.iload_n 2, 1) := by decide +kernel
theorem dX7_trade_18 : decode cX7_trade 18 = .ok (.if_icmp .eq 12, 3) := by decide +kernel
theorem dX7_trade_21 : decode cX7_trade 21 = .ok (.iload_n 3, 1) := by decide +kernel
theorem dX7_trade_22 : decode cX7_trade 22 = .ok (.iconst 0, 1) := by decide +kernel
theorem dX7_trade_23 : decode cX7_trade 23 = .ok (.iconst 1, 1) := by decide +kernel
theorem dX7_trade_24 : decode cX7_trade 24 = .ok (.invokestatic 57, 3) := by decide +kernel
theorem dX7_trade_27 : decode cX7_trade 27 = .ok (.ifCond .ne 5, 3) := by decide +kernel
theorem dX7_trade_30 : decode cX7_trade 30 = .ok (.iconst (-1), 1) := by decide +kernel
theorem dX7_trade_31 : decode cX7_trade 31 = .ok (.ireturn, 1) := by decide +kernel
theorem dX7_trade_32 : decode cX7_trade 32 = .ok (.aload_n 0, 1) := by decide +kernel
theorem dX7_trade_33 : decode cX7_trade 33 = .ok (.aload_n 0, 1) := by decide +kernel
theorem dX7_trade_34 : decode cX7_trade 34 = .ok (.getfield 20, 3) := by decide +kernel
theorem dX7_trade_37 : decode cX7_trade 37 = .ok (.iload_n 1, 1) := by decide +kernel
theorem dX7_trade_38 : decode cX7_trade 38 = .ok (.invokevirtual 131, 3) := by decide +kernel
theorem dX7_trade_41 : decode cX7_trade 41 = .ok (.istore 4, 2) := by decide +kernel
theorem dX7_trade_43 : decode cX7_trade 43 = .ok (.aload_n 0, 1) := by decide +kernel
theorem dX7_trade_44 : decode cX7_trade 44 = .ok (.aload_n 0, 1) := by decide +kernel
theorem dX7_trade_45 : decode cX7_trade 45 = .ok (.getfield 20, 3) := by decide +kernel
theorem dX7_trade_48 : decode cX7_trade 48 = .ok (.iload_n 2, 1) := by decide +kernel
theorem dX7_trade_49 : decode cX7_trade 49 = .ok (.invokevirtual 131, 3) := by decide +kernel
theorem dX7_trade_52 : decode cX7_trade 52 = .ok (.istore 5, 2) := by decide +kernel
theorem dX7_trade_54 : decode cX7_trade 54 = .ok (.aload_n 0, 1) := by decide +kernel
theorem dX7_trade_55 : decode cX7_trade 55 = .ok (.aload_n 0, 1) := by decide +kernel
theorem dX7_trade_56 : decode cX7_trade 56 = .ok (.aload_n 0, 1) := by decide +kernel
theorem dX7_trade_57 : decode cX7_trade 57 = .ok (.getfield 20, 3) := by decide +kernel
theorem dX7_trade_60 : decode cX7_trade 60 = .ok (.invokevirtual 177, 3) := by decide +kernel
theorem dX7_trade_63 : decode cX7_trade 63 = .ok (.iload_n 3, 1) := by decide +kernel
theorem dX7_trade_64 : decode cX7_trade 64 = .ok (.invokevirtual 187, 3) := by decide +kernel
theorem dX7_trade_67 : decode cX7_trade 67 = .ok (.bipush (-9), 2) := by decide +kernel
theorem dX7_trade_69 : decode cX7_trade 69 = .ok (.istore 6, 2) := by decide +kernel
theorem dX7_trade_71 : decode cX7_trade 71 = .ok (.iconst 0, 1) := by decide +kernel
theorem dX7_trade_72 : decode cX7_trade 72 = .ok (.istore 7, 2) := by decide +kernel
theorem dX7_trade_74 : decode cX7_trade 74 = .ok (.iload 7, 2) := by decide +kernel
theorem dX7_trade_76 : decode cX7_trade 76 = .ok (.sipush 720, 3) := by decide +kernel
theorem dX7_trade_79 : decode cX7_trade 79 = .ok (.if_icmp .ge 78, 3) := by decide +kernel
theorem dX7_trade_82 : decode cX7_trade 82 = .ok (.aload_n 0, 1) := by decide +kernel
theorem dX7_trade_83 : decode cX7_trade 83 = .ok (.getfield 45, 3) := by decide +kernel
theorem dX7_trade_86 : decode cX7_trade 86 = .ok (.iload 7, 2) := by decide +kernel
theorem dX7_trade_88 : decode cX7_trade 88 = .ok (.iaload, 1) := by decide +kernel
theorem dX7_trade_89 : decode cX7_trade 89 = .ok (.ifCond .le 62, 3) := by decide +kernel
theorem dX7_trade_92 : decode cX7_trade 92 = .ok (.iload 6, 2) := by decide +kernel
theorem dX7_trade_94 : decode cX7_trade 94 = .ok (.ifCond .lt 15, 3) := by decide +kernel
theorem dX7_trade_97 : decode cX7_trade 97 = .ok (.aload_n 0, 1) := by decide +kernel
theorem dX7_trade_98 : decode cX7_trade 98 = .ok (.getfield 45, 3) := by decide +kernel
theorem dX7_trade_101 : decode cX7_trade 101 = .ok (.iload 7, 2) := by decide +kernel
theorem dX7_trade_103 : decode cX7_trade 103 = .ok (.iaload, 1) := by decide +kernel
theorem dX7_trade_104 : decode cX7_trade 104 = .ok (.iload 6, 2) := by decide +kernel
theorem dX7_trade_106 : decode cX7_trade 106 = .ok (.if_icmp .ge 45, 3) := by decide +kernel
theorem dX7_trade_109 : decode cX7_trade 109 = .ok (.aload_n 0, 1) := by decide +kernel
theorem dX7_trade_110 : decode cX7_trade 110 = .ok (.iload 7, 2) := by decide +kernel
theorem dX7_trade_112 : decode cX7_trade 112 = .ok (.invokevirtual 173, 3) := by decide +kernel
theorem dX7_trade_115 : decode cX7_trade 115 = .ok (.aload_n 0, 1) := by decide +kernel
theorem dX7_trade_116 : decode cX7_trade 116 = .ok (.getfield 42, 3) := by decide +kernel
theorem dX7_trade_119 : decode cX7_trade 119 = .ok (.iload 5, 2) := by decide +kernel
theorem dX7_trade_121 : decode cX7_trade 121 = .ok (.iaload, 1) := by decide +kernel
theorem dX7_trade_122 : decode cX7_trade 122 = .ok (.iload_n 1, 1) := by decide +kernel
theorem dX7_trade_123 : decode cX7_trade 123 = .ok (.if_icmp .ne 24, 3) := by decide +kernel
theorem dX7_trade_126 : decode cX7_trade 126 = .ok (.aload_n 0, 1) := by decide +kernel
theorem dX7_trade_127 : decode cX7_trade 127 = .ok (.getfield 42, 3) := by decide +kernel
theorem dX7_trade_130 : decode cX7_trade 130 = .ok (.iload 4, 2) := by decide +kernel
theorem dX7_trade_132 : decode cX7_trade 132 = .ok (.iaload, 1) := by decide +kernel
theorem dX7_trade_133 : decode cX7_trade 133 = .ok (.iload_n 2, 1) := by decide +kernel
theorem dX7_trade_134 : decode cX7_trade 134 = .ok (.if_icmp .ne 13, 3) := by decide +kernel
theorem dX7_trade_137 : decode cX7_trade 137 = .ok (.aload_n 0, 1) := by decide +kernel
theorem dX7_trade_138 : decode cX7_trade 138 = .ok (.getfield 45, 3) := by decide +kernel
theorem dX7_trade_141 : decode cX7_trade 141 = .ok (.iload 7, 2) := by decide +kernel
theorem dX7_trade_143 : decode cX7_trade 143 = .ok (.iaload, 1) := by decide +kernel
theorem dX7_trade_144 : decode cX7_trade 144 = .ok (.goto 5, 3) := by decide +kernel
theorem dX7_trade_147 : decode cX7_trade 147 = .ok (.iload 6, 2) := by decide +kernel
theorem dX7_trade_149 : decode cX7_trade 149 = .ok (.istore 6, 2) := by decide +kernel
theorem dX7_trade_151 : decode cX7_trade 151 = .ok (.iinc 7 1, 3) := by decide +kernel
theorem dX7_trade_154 : decode cX7_trade 154 = .ok (.goto (-80), 3) := by decide +kernel
theorem dX7_trade_157 : decode cX7_trade 157 = .ok (.iload 6, 2) := by decide +kernel
theorem dX7_trade_159 : decode cX7_trade 159 = .ok (.ireturn, 1) := by decide +kernel
set_option maxRecDepth 20000 in
theorem ggX7_ship_X7_in : GoodIn wsX7_ship wsX7_in := goodIn_r _ [7] (by decide +kernel) (by decide +kernel)
set_option maxRecDepth 20000 in
theorem gX7_ship_X7_in : GoodIn wsX7_ship (va_wsS RX7 57 yX7_in wsX7_in) := goodIn_app (goodIn_of _ (by decide +kernel)) ggX7_ship_X7_in
set_option maxRecDepth 20000 in
theorem ggX7_ship_X7_has : GoodIn wsX7_ship wsX7_has := goodIn_r _ [10] (by decide +kernel) (by decide +kernel)
set_option maxRecDepth 20000 in
theorem gX7_ship_X7_has : GoodIn wsX7_ship (va_wsS RX7 135 yX7_has wsX7_has) := goodIn_app (goodIn_of _ (by decide +kernel)) ggX7_ship_X7_has
theorem dX7_ship_0 : decode cX7_ship 0 = .ok (.iload_n 1, 1) := by decide +kernel
theorem dX7_ship_1 : decode cX7_ship 1 = .ok (.iconst 1, 1) := by decide +kernel
theorem dX7_ship_2 : decode cX7_ship 2 = .ok (.bipush 9, 2) := by decide +kernel
theorem dX7_ship_4 : decode cX7_ship 4 = .ok (.invokestatic 57, 3) := by decide +kernel
theorem dX7_ship_7 : decode cX7_ship 7 = .ok (.ifCond .eq 13, 3) := by decide +kernel
theorem dX7_ship_10 : decode cX7_ship 10 = .ok (.iload_n 2, 1) := by decide +kernel
theorem dX7_ship_11 : decode cX7_ship 11 = .ok (.iconst 1, 1) := by decide +kernel
theorem dX7_ship_12 : decode cX7_ship 12 = .ok (.bipush 9, 2) := by decide +kernel
theorem dX7_ship_14 : decode cX7_ship 14 = .ok (.invokestatic 57, 3) := by decide +kernel
theorem dX7_ship_17 : decode cX7_ship 17 = .ok (.ifCond .ne 5, 3) := by decide +kernel
theorem dX7_ship_20 : decode cX7_ship 20 = .ok (.iconst (-1), 1) := by decide +kernel
theorem dX7_ship_21 : decode cX7_ship 21 = .ok (.ireturn, 1) := by decide +kernel
theorem dX7_ship_22 : decode cX7_ship 22 = .ok (.iconst 0, 1) := by decide +kernel
theorem dX7_ship_23 : decode cX7_ship 23 = .ok (.istore_n 3, 1) := by decide +kernel
theorem dX7_ship_24 : decode cX7_ship 24 = .ok (.iconst 0, 1) := by decide +kernel
theorem dX7_ship_25 : decode cX7_ship 25 = .ok (.istore 4, 2) := by decide +kernel
theorem dX7_ship_27 : decode cX7_ship 27 = .ok (.iload 4, 2) := by decide +kernel
theorem dX7_ship_29 : decode cX7_ship 29 = .ok (.iconst 1, 1) := by decide +kernel
theorem dX7_ship_30 : decode cX7_ship 30 = .ok (.iadd, 1) := by decide +kernel
theorem dX7_ship_31 : decode cX7_ship 31 = .ok (.aload_n 0, 1) := by decide +kernel
theorem dX7_ship_32 : decode cX7_ship 32 = .ok (.getfield 54, 3) := by decide +kernel
theorem dX7_ship_35 : decode cX7_ship 35 = .ok (.if_icmp .ge 108, 3) := by decide +kernel
theorem dX7_ship_38 : decode cX7_ship 38 = .ok (.aload_n 0, 1) := by decide +kernel
theorem dX7_ship_39 : decode cX7_ship 39 = .ok (.getfield 7, 3) := by decide +kernel
theorem dX7_ship_42 : decode cX7_ship 42 = .ok (.aload_n 0, 1) := by decide +kernel
theorem dX7_ship_43 : decode cX7_ship 43 = .ok (.getfield 20, 3) := by decide +kernel
theorem dX7_ship_46 : decode cX7_ship 46 = .ok (.iload 4, 2) := by decide +kernel
theorem dX7_ship_48 : decode cX7_ship 48 = .ok (.iaload, 1) := by decide +kernel
theorem dX7_ship_49 : decode cX7_ship 49 = .ok (.iaload, 1) := by decide +kernel
theorem dX7_ship_50 : decode cX7_ship 50 = .ok (.iload_n 1, 1) := by decide +kernel
theorem dX7_ship_51 : decode cX7_ship 51 = .ok (.if_icmp .ne 25, 3) := by decide +kernel
theorem dX7_ship_54 : decode cX7_ship 54 = .ok (.aload_n 0, 1) := by decide +kernel
theorem dX7_ship_55 : decode cX7_ship 55 = .ok (.getfield 7, 3) := by decide +kernel
theorem dX7_ship_58 : decode cX7_ship 58 = .ok (.aload_n 0, 1) := by decide +kernel
theorem dX7_ship_59 : decode cX7_ship 59 = .ok (.getfield 20, 3) := by decide +kernel
theorem dX7_ship_62 : decode cX7_ship 62 = .ok (.iload 4, 2) := by decide +kernel
theorem dX7_ship_64 : decode cX7_ship 64 = .ok (.iconst 1, 1) := by decide +kernel
theorem dX7_ship_65 : decode cX7_ship 65 = .ok (.iadd, 1) := by decide +kernel
theorem dX7_ship_66 : decode cX7_ship 66 = .ok (.iaload, 1) := by decide +kernel
theorem dX7_ship_67 : decode cX7_ship 67 = .ok (.iaload, 1) := by decide +kernel
theorem dX7_ship_68 : decode cX7_ship 68 = .ok (.iload_n 2, 1) := by decide +kernel
theorem dX7_ship_69 : decode cX7_ship 69 = .ok (.if_icmp .ne 7, 3) := by decide +kernel
theorem dX7_ship_72 : decode cX7_ship 72 = .ok (.iconst 1, 1) := by decide +kernel
theorem dX7_ship_73 : decode cX7_ship 73 = .ok (.goto 4, 3) := by decide +kernel
theorem dX7_ship_76 : decode cX7_ship 76 = .ok (.iconst 0, 1) := by decide +kernel
theorem dX7_ship_77 : decode cX7_ship 77 = .ok (.istore 5, 2) := by decide +kernel
theorem dX7_ship_79 : decode cX7_ship 79 = .ok (.iload_n 3, 1) := by decide +kernel
theorem dX7_ship_80 : decode cX7_ship 80 = .ok (.iload 5, 2) := by decide +kernel
theorem dX7_ship_82 : decode cX7_ship 82 = .ok (.ifCond .eq 52, 3) := by decide +kernel
theorem dX7_ship_85 : decode cX7_ship 85 = .ok (.aload_n 0, 1) := by decide +kernel
theorem dX7_ship_86 : decode cX7_ship 86 = .ok (.getfield 20, 3) := by decide +kernel
theorem dX7_ship_89 : decode cX7_ship 89 = .ok (.bipush 8, 2) := by decide +kernel
theorem dX7_ship_91 : decode cX7_ship 91 = .ok (.iaload, 1) := by decide +kernel
theorem dX7_ship_92 : decode cX7_ship 92 = .ok (.aload_n 0, 1) := by decide +kernel
theorem dX7_ship_93 : decode cX7_ship 93 = .ok (.getfield 20, 3) := by decide +kernel
theorem dX7_ship_96 : decode cX7_ship 96 = .ok (.iload 4, 2) := by decide +kernel
theorem dX7_ship_98 : decode cX7_ship 98 = .ok (.iaload, 1) := by decide +kernel
theorem dX7_ship_99 : decode cX7_ship 99 = .ok (.invokestatic 135, 3) := by decide +kernel
theorem dX7_ship_102 : decode cX7_ship 102 = .ok (.ifCond .ne 32, 3) := by decide +kernel
theorem dX7_ship_105 : decode cX7_ship 105 = .ok (.aload_n 0, 1) := by decide +kernel
theorem dX7_ship_106 : decode cX7_ship 106 = .ok (.getfield 20, 3) := by decide +kernel
theorem dX7_ship_109 : decode cX7_ship 109 = .ok (.bipush 8, 2) := by decide +kernel
theorem dX7_ship_111 : decode cX7_ship 111 = .ok (.iaload, 1) := by decide +kernel
theorem dX7_ship_112 : decode cX7_ship 112 = .ok (.aload_n 0, 1) := by decide +kernel
theorem dX7_ship_113 : decode cX7_ship 113 = .ok (.getfield 20, 3) := by decide +kernel
theorem dX7_ship_116 : decode cX7_ship 116 = .ok (.iload 4, 2) := by decide +kernel
theorem dX7_ship_118 : decode cX7_ship 118 = .ok (.iconst 1, 1) := by decide +kernel
theorem dX7_ship_119 : decode cX7_ship 119 = .ok (.iadd, 1) := by decide +kernel
theorem dX7_ship_120 : decode cX7_ship 120 = .ok (.iaload, 1) := by decide +kernel
theorem dX7_ship_121 : decode cX7_ship 121 = .ok (.invokestatic 135, 3) := by decide +kernel
theorem dX7_ship_124 : decode cX7_ship 124 = .ok (.ifCond .ne 10, 3) := by decide +kernel
theorem dX7_ship_127 : decode cX7_ship 127 = .ok (.iconst 1, 1) := by decide +kernel
theorem dX7_ship_128 : decode cX7_ship 128 = .ok (.iload 4, 2) := by decide +kernel
theorem dX7_ship_130 : decode cX7_ship 130 = .ok (.ishl, 1) := by decide +kernel
theorem dX7_ship_131 : decode cX7_ship 131 = .ok (.goto 4, 3) := by decide +kernel
theorem dX7_ship_134 : decode cX7_ship 134 = .ok (.iconst 0, 1) := by decide +kernel
theorem dX7_ship_135 : decode cX7_ship 135 = .ok (.ior, 1) := by decide +kernel
theorem dX7_ship_136 : decode cX7_ship 136 = .ok (.istore_n 3, 1) := by decide +kernel
theorem dX7_ship_137 : decode cX7_ship 137 = .ok (.iinc 4 1, 3) := by decide +kernel
theorem dX7_ship_140 : decode cX7_ship 140 = .ok (.goto (-113), 3) := by decide +kernel
theorem dX7_ship_143 : decode cX7_ship 143 = .ok (.iload_n 3, 1) := by decide +kernel
theorem dX7_ship_144 : decode cX7_ship 144 = .ok (.ireturn, 1) := by decide +kernel
set_option maxRecDepth 20000 in
theorem ggX7_odds_X7_isOne : GoodIn wsX7_odds wsX7_isOne := goodIn_r _ [8, 1, 9, 10, 7, 11, 15, 16, 17, 18, 19, 20, 21, 22, 23, 24, 25, 26, 27, 28, 29, 30, 31, 32, 33, 34, 35, 36, 37, 38, 39, 40, 41, 42] (by decide +kernel) (by decide +kernel)
set_option maxRecDepth 20000 in
theorem gX7_odds_X7_isOne : GoodIn wsX7_odds (wsV RX7 139 RX7 yX7_isOne wsX7_isOne) := goodIn_app (goodIn_of _ (by decide +kernel)) ggX7_odds_X7_isOne
set_option maxRecDepth 20000 in
theorem ggX7_odds_X7_in : GoodIn wsX7_odds wsX7_in := goodIn_r _ [11] (by decide +kernel) (by decide +kernel)
set_option maxRecDepth 20000 in
theorem gX7_odds_X7_in : GoodIn wsX7_odds (va_wsS RX7 57 yX7_in wsX7_in) := goodIn_app (goodIn_of _ (by decide +kernel)) ggX7_odds_X7_in
set_option maxRecDepth 20000 in
theorem ggX7_odds_X7_has : GoodIn wsX7_odds wsX7_has := goodIn_r _ [14] (by decide +kernel) (by decide +kernel)
set_option maxRecDepth 20000 in
theorem gX7_odds_X7_has : GoodIn wsX7_odds (va_wsS RX7 135 yX7_has wsX7_has) := goodIn_app (goodIn_of _ (by decide +kernel)) ggX7_odds_X7_has
theorem dX7_odds_0 : decode cX7_odds 0 = .ok (.aload_n 0, 1) := by decide +kernel
theorem dX7_odds_1 : decode cX7_odds 1 = .ok (.iload_n 1, 1) := by decide +kernel
theorem dX7_odds_2 : decode cX7_odds 2 = .ok (.invokevirtual 139, 3) := by decide +kernel
theorem dX7_odds_5 : decode cX7_odds 5 = .ok (.ifCond .eq 22, 3) := by decide +kernel
theorem dX7_odds_8 : decode cX7_odds 8 = .ok (.iload_n 2, 1) := by decide +kernel
theorem dX7_odds_9 : decode cX7_odds 9 = .ok (.iconst 0, 1) := by decide +kernel
theorem dX7_odds_10 : decode cX7_odds 10 = .ok (.bipush 10, 2) := by decide +kernel
theorem dX7_odds_12 : decode cX7_odds 12 = .ok (.invokestatic 57, 3) := by decide +kernel
theorem dX7_odds_15 : decode cX7_odds 15 = .ok (.ifCond .eq 12, 3) := by decide +kernel
theorem dX7_odds_18 : decode cX7_odds 18 = .ok (.iload_n 3, 1) := by decide +kernel
theorem dX7_odds_19 : decode cX7_odds 19 = .ok (.iconst 0, 1) := by decide +kernel
theorem dX7_odds_20 : decode cX7_odds 20 = .ok (.iconst 1, 1) := by decide +kernel
theorem dX7_odds_21 : decode cX7_odds 21 = .ok (.invokestatic 57, 3) := by decide +kernel
theorem dX7_odds_24 : decode cX7_odds 24 = .ok (.ifCond .ne 5, 3) := by decide +kernel
theorem dX7_odds_27 : decode cX7_odds 27 = .ok (.iconst (-1), 1) := by decide +kernel
theorem dX7_odds_28 : decode cX7_odds 28 = .ok (.ireturn, 1) := by decide +kernel
theorem dX7_odds_29 : decode cX7_odds 29 = .ok (.iconst 1, 1) := by decide +kernel
theorem dX7_odds_30 : decode cX7_odds 30 = .ok (.istore 4, 2) := by decide +kernel
theorem dX7_odds_32 : decode cX7_odds 32 = .ok (.iconst 1, 1) := by decide +kernel
theorem dX7_odds_33 : decode cX7_odds 33 = .ok (.istore 5, 2) := by decide +kernel
theorem dX7_odds_35 : decode cX7_odds 35 = .ok (.iconst 0, 1) := by decide +kernel
theorem dX7_odds_36 : decode cX7_odds 36 = .ok (.istore 6, 2) := by decide +kernel
theorem dX7_odds_38 : decode cX7_odds 38 = .ok (.iload 6, 2) := by decide +kernel
theorem dX7_odds_40 : decode cX7_odds 40 = .ok (.aload_n 0, 1) := by decide +kernel
theorem dX7_odds_41 : decode cX7_odds 41 = .ok (.getfield 54, 3) := by decide +kernel
theorem dX7_odds_44 : decode cX7_odds 44 = .ok (.if_icmp .ge 76, 3) := by decide +kernel
theorem dX7_odds_47 : decode cX7_odds 47 = .ok (.iload 6, 2) := by decide +kernel
theorem dX7_odds_49 : decode cX7_odds 49 = .ok (.iload_n 1, 1) := by decide +kernel
theorem dX7_odds_50 : decode cX7_odds 50 = .ok (.isub, 1) := by decide +kernel
theorem dX7_odds_51 : decode cX7_odds 51 = .ok (.aload_n 0, 1) := by decide +kernel
theorem dX7_odds_52 : decode cX7_odds 52 = .ok (.getfield 16, 3) := by decide +kernel
theorem dX7_odds_55 : decode cX7_odds 55 = .ok (.if_icmp .gt 18, 3) := by decide +kernel
theorem dX7_odds_58 : decode cX7_odds 58 = .ok (.iload_n 1, 1) := by decide +kernel
theorem dX7_odds_59 : decode cX7_odds 59 = .ok (.iload 6, 2) := by decide +kernel
theorem dX7_odds_61 : decode cX7_odds 61 = .ok (.isub, 1) := by decide +kernel
theorem dX7_odds_62 : decode cX7_odds 62 = .ok (.aload_n 0, 1) := by decide +kernel
theorem dX7_odds_63 : decode cX7_odds 63 = .ok (.getfield 16, 3) := by decide +kernel
theorem dX7_odds_66 : decode cX7_odds 66 = .ok (.if_icmp .gt 7, 3) := by decide +kernel
theorem dX7_odds_69 : decode cX7_odds 69 = .ok (.iconst 1, 1) := by decide +kernel
theorem dX7_odds_70 : decode cX7_odds 70 = .ok (.goto 4, 3) := by decide +kernel
theorem dX7_odds_73 : decode cX7_odds 73 = .ok (.iconst 0, 1) := by decide +kernel
theorem dX7_odds_74 : decode cX7_odds 74 = .ok (.istore 7, 2) := by decide +kernel
theorem dX7_odds_76 : decode cX7_odds 76 = .ok (.iload 7, 2) := by decide +kernel
theorem dX7_odds_78 : decode cX7_odds 78 = .ok (.ifCond .eq 36, 3) := by decide +kernel
theorem dX7_odds_81 : decode cX7_odds 81 = .ok (.aload_n 0, 1) := by decide +kernel
theorem dX7_odds_82 : decode cX7_odds 82 = .ok (.getfield 20, 3) := by decide +kernel
theorem dX7_odds_85 : decode cX7_odds 85 = .ok (.bipush 8, 2) := by decide +kernel
theorem dX7_odds_87 : decode cX7_odds 87 = .ok (.iaload, 1) := by decide +kernel
theorem dX7_odds_88 : decode cX7_odds 88 = .ok (.aload_n 0, 1) := by decide +kernel
theorem dX7_odds_89 : decode cX7_odds 89 = .ok (.getfield 20, 3) := by decide +kernel
theorem dX7_odds_92 : decode cX7_odds 92 = .ok (.iload 6, 2) := by decide +kernel
theorem dX7_odds_94 : decode cX7_odds 94 = .ok (.iaload, 1) := by decide +kernel
theorem dX7_odds_95 : decode cX7_odds 95 = .ok (.invokestatic 135, 3) := by decide +kernel
theorem dX7_odds_98 : decode cX7_odds 98 = .ok (.ifCond .ne 16, 3) := by decide +kernel
theorem dX7_odds_101 : decode cX7_odds 101 = .ok (.iload 4, 2) := by decide +kernel
theorem dX7_odds_103 : decode cX7_odds 103 = .ok (.bipush 10, 2) := by decide +kernel
theorem dX7_odds_105 : decode cX7_odds 105 = .ok (.imul, 1) := by decide +kernel
theorem dX7_odds_106 : decode cX7_odds 106 = .ok (.istore 4, 2) := by decide +kernel
theorem dX7_odds_108 : decode cX7_odds 108 = .ok (.iload 5, 2) := by decide +kernel
theorem dX7_odds_110 : decode cX7_odds 110 = .ok (.iload_n 2, 1) := by decide +kernel
theorem dX7_odds_111 : decode cX7_odds 111 = .ok (.imul, 1) := by decide +kernel
theorem dX7_odds_112 : decode cX7_odds 112 = .ok (.istore 5, 2) := by decide +kernel
theorem dX7_odds_114 : decode cX7_odds 114 = .ok (.iinc 6 1, 3) := by decide +kernel
theorem dX7_odds_117 : decode cX7_odds 117 = .ok (.goto (-79), 3) := by decide +kernel
theorem dX7_odds_120 : decode cX7_odds 120 = .ok (.iload 4, 2) := by decide +kernel
theorem dX7_odds_122 : decode cX7_odds 122 = .ok (.iload 5, 2) := by decide +kernel
theorem dX7_odds_124 : decode cX7_odds 124 = .ok (.isub, 1) := by decide +kernel
theorem dX7_odds_125 : decode cX7_odds 125 = .ok (.istore 6, 2) := by decide +kernel
theorem dX7_odds_127 : decode cX7_odds 127 = .ok (.iload 6, 2) := by decide +kernel
theorem dX7_odds_129 : decode cX7_odds 129 = .ok (.istore 7, 2) := by decide +kernel
theorem dX7_odds_131 : decode cX7_odds 131 = .ok (.iload 4, 2) := by decide +kernel
theorem dX7_odds_133 : decode cX7_odds 133 = .ok (.istore 8, 2) := by decide +kernel
theorem dX7_odds_135 : decode cX7_odds 135 = .ok (.iload 8, 2) := by decide +kernel
theorem dX7_odds_137 : decode cX7_odds 137 = .ok (.ifCond .le 21, 3) := by decide +kernel
theorem dX7_odds_140 : decode cX7_odds 140 = .ok (.iload 7, 2) := by decide +kernel
theorem dX7_odds_142 : decode cX7_odds 142 = .ok (.iload 8, 2) := by decide +kernel
theorem dX7_odds_144 : decode cX7_odds 144 = .ok (.irem, 1) := by decide +kernel
theorem dX7_odds_145 : decode cX7_odds 145 = .ok (.istore 9, 2) := by decide +kernel
theorem dX7_odds_147 : decode cX7_odds 147 = .ok (.iload 8, 2) := by decide +kernel
theorem dX7_odds_149 : decode cX7_odds 149 = .ok (.istore 7, 2) := by decide +kernel
theorem dX7_odds_151 : decode cX7_odds 151 = .ok (.iload 9, 2) := by decide +kernel
theorem dX7_odds_153 : decode cX7_odds 153 = .ok (.istore 8, 2) := by decide +kernel
theorem dX7_odds_155 : decode cX7_odds 155 = .ok (.goto (-20), 3) := by decide +kernel
theorem dX7_odds_158 : decode cX7_odds 158 = .ok (.iload_n 3, 1) := by decide +kernel
theorem dX7_odds_159 : decode cX7_odds 159 = .ok (.ifCond .ne 8, 3) := by decide +kernel
theorem dX7_odds_162 : decode cX7_odds 162 = .ok (.iload 6, 2) := by decide +kernel
theorem dX7_odds_164 : decode cX7_odds 164 = .ok (.goto 5, 3) := by decide +kernel
theorem dX7_odds_167 : decode cX7_odds 167 = .ok (.iload 4, 2) := by decide +kernel
theorem dX7_odds_169 : decode cX7_odds 169 = .ok (.iload 7, 2) := by decide +kernel
theorem dX7_odds_171 : decode cX7_odds 171 = .ok (.idiv, 1) := by decide +kernel
theorem dX7_odds_172 : decode cX7_odds 172 = .ok (.ireturn, 1) := by decide +kernel
set_option maxRecDepth 20000 in
theorem ggX7_saw_X7_isOne : GoodIn wsX7_saw wsX7_isOne := goodIn_r _ [7, 8, 9, 10, 6, 11, 12, 13, 14, 15, 16, 17, 18, 19, 20, 21, 22, 23, 24, 25, 26, 27, 28, 29, 30, 31, 32, 33, 34, 35, 36, 37, 38, 39] (by decide +kernel) (by decide +kernel)
set_option maxRecDepth 20000 in
theorem gX7_saw_X7_isOne : GoodIn wsX7_saw (wsV RX7 139 RX7 yX7_isOne wsX7_isOne) := goodIn_app (goodIn_of _ (by decide +kernel)) ggX7_saw_X7_isOne
set_option maxRecDepth 20000 in
theorem ggX7_saw_X7_in : GoodIn wsX7_saw wsX7_in := goodIn_r _ [11] (by decide +kernel) (by decide +kernel)
set_option maxRecDepth 20000 in
theorem gX7_saw_X7_in : GoodIn wsX7_saw (va_wsS RX7 57 yX7_in wsX7_in) := goodIn_app (goodIn_of _ (by decide +kernel)) ggX7_saw_X7_in
theorem dX7_saw_0 : decode cX7_saw 0 = .ok (.aload_n 0, 1) := by decide +kernel
theorem dX7_saw_1 : decode cX7_saw 1 = .ok (.iload_n 1, 1) := by decide +kernel
theorem dX7_saw_2 : decode cX7_saw 2 = .ok (.invokevirtual 139, 3) := by decide +kernel
theorem dX7_saw_5 : decode cX7_saw 5 = .ok (.ifCond .eq 13, 3) := by decide +kernel
theorem dX7_saw_8 : decode cX7_saw 8 = .ok (.iload_n 2, 1) := by decide +kernel
theorem dX7_saw_9 : decode cX7_saw 9 = .ok (.iconst 1, 1) := by decide +kernel
theorem dX7_saw_10 : decode cX7_saw 10 = .ok (.bipush 9, 2) := by decide +kernel
theorem dX7_saw_12 : decode cX7_saw 12 = .ok (.invokestatic 57, 3) := by decide +kernel
theorem dX7_saw_15 : decode cX7_saw 15 = .ok (.ifCond .ne 5, 3) := by decide +kernel
theorem dX7_saw_18 : decode cX7_saw 18 = .ok (.iconst (-1), 1) := by decide +kernel
theorem dX7_saw_19 : decode cX7_saw 19 = .ok (.ireturn, 1) := by decide +kernel
theorem dX7_saw_20 : decode cX7_saw 20 = .ok (.aload_n 0, 1) := by decide +kernel
theorem dX7_saw_21 : decode cX7_saw 21 = .ok (.getfield 128, 3) := by decide +kernel
theorem dX7_saw_24 : decode cX7_saw 24 = .ok (.bipush 6, 2) := by decide +kernel
theorem dX7_saw_26 : decode cX7_saw 26 = .ok (.if_icmp .ne 6, 3) := by decide +kernel
theorem dX7_saw_29 : decode cX7_saw 29 = .ok (.bipush (-3), 2) := by decide +kernel
theorem dX7_saw_31 : decode cX7_saw 31 = .ok (.ireturn, 1) := by decide +kernel
theorem dX7_saw_32 : decode cX7_saw 32 = .ok (.aload_n 0, 1) := by decide +kernel
theorem dX7_saw_33 : decode cX7_saw 33 = .ok (.getfield 30, 3) := by decide +kernel
theorem dX7_saw_36 : decode cX7_saw 36 = .ok (.iconst 2, 1) := by decide +kernel
theorem dX7_saw_37 : decode cX7_saw 37 = .ok (.aload_n 0, 1) := by decide +kernel
theorem dX7_saw_38 : decode cX7_saw 38 = .ok (.getfield 128, 3) := by decide +kernel
theorem dX7_saw_41 : decode cX7_saw 41 = .ok (.imul, 1) := by decide +kernel
theorem dX7_saw_42 : decode cX7_saw 42 = .ok (.iload_n 1, 1) := by decide +kernel
theorem dX7_saw_43 : decode cX7_saw 43 = .ok (.iastore, 1) := by decide +kernel
theorem dX7_saw_44 : decode cX7_saw 44 = .ok (.aload_n 0, 1) := by decide +kernel
theorem dX7_saw_45 : decode cX7_saw 45 = .ok (.getfield 30, 3) := by decide +kernel
theorem dX7_saw_48 : decode cX7_saw 48 = .ok (.iconst 2, 1) := by decide +kernel
theorem dX7_saw_49 : decode cX7_saw 49 = .ok (.aload_n 0, 1) := by decide +kernel
theorem dX7_saw_50 : decode cX7_saw 50 = .ok (.getfield 128, 3) := by decide +kernel
theorem dX7_saw_53 : decode cX7_saw 53 = .ok (.imul, 1) := by decide +kernel
theorem dX7_saw_54 : decode cX7_saw 54 = .ok (.iconst 1, 1) := by decide +kernel
theorem dX7_saw_55 : decode cX7_saw 55 = .ok (.iadd, 1) := by decide +kernel
theorem dX7_saw_56 : decode cX7_saw 56 = .ok (.iload_n 2, 1) := by decide +kernel
theorem dX7_saw_57 : decode cX7_saw 57 = .ok (.iastore, 1) := by decide +kernel
theorem dX7_saw_58 : decode cX7_saw 58 = .ok (.aload_n 0, 1) := by decide +kernel
theorem dX7_saw_59 : decode cX7_saw 59 = .ok (.dup, 1) := by decide +kernel
theorem dX7_saw_60 : decode cX7_saw 60 = .ok (.getfield 128, 3) := by decide +kernel
theorem dX7_saw_63 : decode cX7_saw 63 = .ok (.iconst 1, 1) := by decide +kernel
theorem dX7_saw_64 : decode cX7_saw 64 = .ok (.iadd, 1) := by decide +kernel
theorem dX7_saw_65 : decode cX7_saw 65 = .ok (.putfield 128, 3) := by decide +kernel
theorem dX7_saw_68 : decode cX7_saw 68 = .ok (.aload_n 0, 1) := by decide +kernel
theorem dX7_saw_69 : decode cX7_saw 69 = .ok (.getfield 128, 3) := by decide +kernel
theorem dX7_saw_72 : decode cX7_saw 72 = .ok (.ireturn, 1) := by decide +kernel
theorem dX7_forget_0 : decode cX7_forget 0 = .ok (.aload_n 0, 1) := by decide +kernel
theorem dX7_forget_1 : decode cX7_forget 1 = .ok (.getfield 128, 3) := by decide +kernel
theorem dX7_forget_4 : decode cX7_forget 4 = .ok (.istore_n 1, 1) := by decide +kernel
theorem dX7_forget_5 : decode cX7_forget 5 = .ok (.aload_n 0, 1) := by decide +kernel
theorem dX7_forget_6 : decode cX7_forget 6 = .ok (.iconst 0, 1) := by decide +kernel
theorem dX7_forget_7 : decode cX7_forget 7 = .ok (.putfield 128, 3) := by decide +kernel
theorem dX7_forget_10 : decode cX7_forget 10 = .ok (.iload_n 1, 1) := by decide +kernel
theorem dX7_forget_11 : decode cX7_forget 11 = .ok (.ireturn, 1) := by decide +kernel
theorem dX7_isSo_0 : decode cX7_isSo 0 = .ok (.iconst 1, 1) := by decide +kernel
theorem dX7_isSo_1 : decode cX7_isSo 1 = .ok (.istore_n 1, 1) := by decide +kernel
theorem dX7_isSo_2 : decode cX7_isSo 2 = .ok (.iconst 0, 1) := by decide +kernel
theorem dX7_isSo_3 : decode cX7_isSo 3 = .ok (.istore_n 2, 1) := by decide +kernel
theorem dX7_isSo_4 : decode cX7_isSo 4 = .ok (.iload_n 2, 1) := by decide +kernel
theorem dX7_isSo_5 : decode cX7_isSo 5 = .ok (.aload_n 0, 1) := by decide +kernel
theorem dX7_isSo_6 : decode cX7_isSo 6 = .ok (.getfield 128, 3) := by decide +kernel
theorem dX7_isSo_9 : decode cX7_isSo 9 = .ok (.if_icmp .ge 50, 3) := by decide +kernel
theorem dX7_isSo_12 : decode cX7_isSo 12 = .ok (.iload_n 1, 1) := by decide +kernel
theorem dX7_isSo_13 : decode cX7_isSo 13 = .ok (.ifCond .eq 38, 3) := by decide +kernel
theorem dX7_isSo_16 : decode cX7_isSo 16 = .ok (.aload_n 0, 1) := by decide +kernel
theorem dX7_isSo_17 : decode cX7_isSo 17 = .ok (.getfield 7, 3) := by decide +kernel
theorem dX7_isSo_20 : decode cX7_isSo 20 = .ok (.aload_n 0, 1) := by decide +kernel
theorem dX7_isSo_21 : decode cX7_isSo 21 = .ok (.getfield 42, 3) := by decide +kernel
theorem dX7_isSo_24 : decode cX7_isSo 24 = .ok (.aload_n 0, 1) := by decide +kernel
theorem dX7_isSo_25 : decode cX7_isSo 25 = .ok (.getfield 30, 3) := by decide +kernel
theorem dX7_isSo_28 : decode cX7_isSo 28 = .ok (.iconst 2, 1) := by decide +kernel
theorem dX7_isSo_29 : decode cX7_isSo 29 = .ok (.iload_n 2, 1) := by decide +kernel
theorem dX7_isSo_30 : decode cX7_isSo 30 = .ok (.imul, 1) := by decide +kernel
theorem dX7_isSo_31 : decode cX7_isSo 31 = .ok (.iaload, 1) := by decide +kernel
theorem dX7_isSo_32 : decode cX7_isSo 32 = .ok (.iaload, 1) := by decide +kernel
theorem dX7_isSo_33 : decode cX7_isSo 33 = .ok (.iaload, 1) := by decide +kernel
theorem dX7_isSo_34 : decode cX7_isSo 34 = .ok (.aload_n 0, 1) := by decide +kernel
theorem dX7_isSo_35 : decode cX7_isSo 35 = .ok (.getfield 30, 3) := by decide +kernel
theorem dX7_isSo_38 : decode cX7_isSo 38 = .ok (.iconst 2, 1) := by decide +kernel
theorem dX7_isSo_39 : decode cX7_isSo 39 = .ok (.iload_n 2, 1) := by decide +kernel
theorem dX7_isSo_40 : decode cX7_isSo 40 = .ok (.imul, 1) := by decide +kernel
theorem dX7_isSo_41 : decode cX7_isSo 41 = .ok (.iconst 1, 1) := by decide +kernel
theorem dX7_isSo_42 : decode cX7_isSo 42 = .ok (.iadd, 1) := by decide +kernel
theorem dX7_isSo_43 : decode cX7_isSo 43 = .ok (.iaload, 1) := by decide +kernel
theorem dX7_isSo_44 : decode cX7_isSo 44 = .ok (.if_icmp .ne 7, 3) := by decide +kernel
theorem dX7_isSo_47 : decode cX7_isSo 47 = .ok (.iconst 1, 1) := by decide +kernel
theorem dX7_isSo_48 : decode cX7_isSo 48 = .ok (.goto 4, 3) := by decide +kernel
theorem dX7_isSo_51 : decode cX7_isSo 51 = .ok (.iconst 0, 1) := by decide +kernel
theorem dX7_isSo_52 : decode cX7_isSo 52 = .ok (.istore_n 1, 1) := by decide +kernel
theorem dX7_isSo_53 : decode cX7_isSo 53 = .ok (.iinc 2 1, 3) := by decide +kernel
theorem dX7_isSo_56 : decode cX7_isSo 56 = .ok (.goto (-52), 3) := by decide +kernel
theorem dX7_isSo_59 : decode cX7_isSo 59 = .ok (.iload_n 1, 1) := by decide +kernel
theorem dX7_isSo_60 : decode cX7_isSo 60 = .ok (.ireturn, 1) := by decide +kernel
set_option maxRecDepth 20000 in
theorem ggX7_fits_X7_isOne : GoodIn wsX7_fits wsX7_isOne := goodIn_r _ [7, 1, 8, 9, 6, 10, 26, 27, 28, 29, 30, 31, 32, 33, 34, 35, 36, 37, 38, 39, 40, 41, 42, 43, 44, 45, 46, 47, 48, 49, 50, 51, 52, 53] (by decide +kernel) (by decide +kernel)
set_option maxRecDepth 20000 in
theorem gX7_fits_X7_isOne : GoodIn wsX7_fits (wsV RX7 139 RX7 yX7_isOne wsX7_isOne) := goodIn_app (goodIn_of _ (by decide +kernel)) ggX7_fits_X7_isOne
set_option maxRecDepth 20000 in
theorem ggX7_fits_X7_isWay : GoodIn wsX7_fits wsX7_isWay := goodIn_r _ [14, 1, 15, 2, 16, 17, 6, 18, 26, 27, 28, 29, 30, 31, 32, 33, 34, 35, 36, 37, 38, 39, 40, 41, 42, 43, 44, 45, 46, 47, 48, 49, 50, 51, 52, 53] (by decide +kernel) (by decide +kernel)
set_option maxRecDepth 20000 in
theorem gX7_fits_X7_isWay : GoodIn wsX7_fits (wsV RX7 173 RX7 yX7_isWay wsX7_isWay) := goodIn_app (goodIn_of _ (by decide +kernel)) ggX7_fits_X7_isWay
set_option maxRecDepth 20000 in
theorem ggX7_fits_X7_isSo : GoodIn wsX7_fits wsX7_isSo := goodIn_r _ [22, 23, 24, 2, 25, 26, 27, 28, 29, 30, 31, 32, 33, 34, 35, 36, 37, 38, 39, 40, 41, 42, 43, 44, 45, 46, 47, 48, 49, 50, 51, 52, 53] (by decide +kernel) (by decide +kernel)
set_option maxRecDepth 20000 in
theorem gX7_fits_X7_isSo : GoodIn wsX7_fits (wsV RX7 191 RX7 yX7_isSo wsX7_isSo) := goodIn_app (goodIn_of _ (by decide +kernel)) ggX7_fits_X7_isSo
theorem dX7_fits_0 : decode cX7_fits 0 = .ok (.iload_n 1, 1) := by decide +kernel
theorem dX7_fits_1 : decode cX7_fits 1 = .ok (.iconst (-1), 1) := by decide +kernel
theorem dX7_fits_2 : decode cX7_fits 2 = .ok (.if_icmp .eq 13, 3) := by decide +kernel
theorem dX7_fits_5 : decode cX7_fits 5 = .ok (.aload_n 0, 1) := by decide +kernel
theorem dX7_fits_6 : decode cX7_fits 6 = .ok (.iload_n 1, 1) := by decide +kernel
theorem dX7_fits_7 : decode cX7_fits 7 = .ok (.invokevirtual 139, 3) := by decide +kernel
theorem dX7_fits_10 : decode cX7_fits 10 = .ok (.ifCond .ne 5, 3) := by decide +kernel
theorem dX7_fits_13 : decode cX7_fits 13 = .ok (.iconst (-1), 1) := by decide +kernel
theorem dX7_fits_14 : decode cX7_fits 14 = .ok (.ireturn, 1) := by decide +kernel
theorem dX7_fits_15 : decode cX7_fits 15 = .ok (.iconst 1, 1) := by decide +kernel
theorem dX7_fits_16 : decode cX7_fits 16 = .ok (.istore_n 2, 1) := by decide +kernel
theorem dX7_fits_17 : decode cX7_fits 17 = .ok (.iconst 2, 1) := by decide +kernel
theorem dX7_fits_18 : decode cX7_fits 18 = .ok (.istore_n 3, 1) := by decide +kernel
theorem dX7_fits_19 : decode cX7_fits 19 = .ok (.iload_n 3, 1) := by decide +kernel
theorem dX7_fits_20 : decode cX7_fits 20 = .ok (.aload_n 0, 1) := by decide +kernel
theorem dX7_fits_21 : decode cX7_fits 21 = .ok (.getfield 54, 3) := by decide +kernel
theorem dX7_fits_24 : decode cX7_fits 24 = .ok (.if_icmp .gt 13, 3) := by decide +kernel
theorem dX7_fits_27 : decode cX7_fits 27 = .ok (.iload_n 2, 1) := by decide +kernel
theorem dX7_fits_28 : decode cX7_fits 28 = .ok (.iload_n 3, 1) := by decide +kernel
theorem dX7_fits_29 : decode cX7_fits 29 = .ok (.imul, 1) := by decide +kernel
theorem dX7_fits_30 : decode cX7_fits 30 = .ok (.istore_n 2, 1) := by decide +kernel
theorem dX7_fits_31 : decode cX7_fits 31 = .ok (.iinc 3 1, 3) := by decide +kernel
theorem dX7_fits_34 : decode cX7_fits 34 = .ok (.goto (-15), 3) := by decide +kernel
theorem dX7_fits_37 : decode cX7_fits 37 = .ok (.iconst 0, 1) := by decide +kernel
theorem dX7_fits_38 : decode cX7_fits 38 = .ok (.istore_n 3, 1) := by decide +kernel
theorem dX7_fits_39 : decode cX7_fits 39 = .ok (.bipush (-9), 2) := by decide +kernel
theorem dX7_fits_41 : decode cX7_fits 41 = .ok (.istore 4, 2) := by decide +kernel
theorem dX7_fits_43 : decode cX7_fits 43 = .ok (.iconst 1, 1) := by decide +kernel
theorem dX7_fits_44 : decode cX7_fits 44 = .ok (.istore 5, 2) := by decide +kernel
theorem dX7_fits_46 : decode cX7_fits 46 = .ok (.iconst 0, 1) := by decide +kernel
theorem dX7_fits_47 : decode cX7_fits 47 = .ok (.istore 6, 2) := by decide +kernel
theorem dX7_fits_49 : decode cX7_fits 49 = .ok (.iload 6, 2) := by decide +kernel
theorem dX7_fits_51 : decode cX7_fits 51 = .ok (.iload_n 2, 1) := by decide +kernel
theorem dX7_fits_52 : decode cX7_fits 52 = .ok (.if_icmp .ge 65, 3) := by decide +kernel
theorem dX7_fits_55 : decode cX7_fits 55 = .ok (.aload_n 0, 1) := by decide +kernel
theorem dX7_fits_56 : decode cX7_fits 56 = .ok (.iload 6, 2) := by decide +kernel
theorem dX7_fits_58 : decode cX7_fits 58 = .ok (.invokevirtual 173, 3) := by decide +kernel
theorem dX7_fits_61 : decode cX7_fits 61 = .ok (.aload_n 0, 1) := by decide +kernel
theorem dX7_fits_62 : decode cX7_fits 62 = .ok (.invokevirtual 191, 3) := by decide +kernel
theorem dX7_fits_65 : decode cX7_fits 65 = .ok (.ifCond .eq 46, 3) := by decide +kernel
theorem dX7_fits_68 : decode cX7_fits 68 = .ok (.iinc 3 1, 3) := by decide +kernel
theorem dX7_fits_71 : decode cX7_fits 71 = .ok (.iload_n 1, 1) := by decide +kernel
theorem dX7_fits_72 : decode cX7_fits 72 = .ok (.ifCond .lt 39, 3) := by decide +kernel
theorem dX7_fits_75 : decode cX7_fits 75 = .ok (.iload 5, 2) := by decide +kernel
theorem dX7_fits_77 : decode cX7_fits 77 = .ok (.ifCond .eq 23, 3) := by decide +kernel
theorem dX7_fits_80 : decode cX7_fits 80 = .ok (.iload 4, 2) := by decide +kernel
theorem dX7_fits_82 : decode cX7_fits 82 = .ok (.ifCond .lt 14, 3) := by decide +kernel
theorem dX7_fits_85 : decode cX7_fits 85 = .ok (.aload_n 0, 1) := by decide +kernel
theorem dX7_fits_86 : decode cX7_fits 86 = .ok (.getfield 42, 3) := by decide +kernel
theorem dX7_fits_89 : decode cX7_fits 89 = .ok (.iload_n 1, 1) := by decide +kernel
theorem dX7_fits_90 : decode cX7_fits 90 = .ok (.iaload, 1) := by decide +kernel
theorem dX7_fits_91 : decode cX7_fits 91 = .ok (.iload 4, 2) := by decide +kernel
theorem dX7_fits_93 : decode cX7_fits 93 = .ok (.if_icmp .ne 7, 3) := by decide +kernel
theorem dX7_fits_96 : decode cX7_fits 96 = .ok (.iconst 1, 1) := by decide +kernel
theorem dX7_fits_97 : decode cX7_fits 97 = .ok (.goto 4, 3) := by decide +kernel
theorem dX7_fits_100 : decode cX7_fits 100 = .ok (.iconst 0, 1) := by decide +kernel
theorem dX7_fits_101 : decode cX7_fits 101 = .ok (.istore 5, 2) := by decide +kernel
theorem dX7_fits_103 : decode cX7_fits 103 = .ok (.aload_n 0, 1) := by decide +kernel
theorem dX7_fits_104 : decode cX7_fits 104 = .ok (.getfield 42, 3) := by decide +kernel
theorem dX7_fits_107 : decode cX7_fits 107 = .ok (.iload_n 1, 1) := by decide +kernel
theorem dX7_fits_108 : decode cX7_fits 108 = .ok (.iaload, 1) := by decide +kernel
theorem dX7_fits_109 : decode cX7_fits 109 = .ok (.istore 4, 2) := by decide +kernel
theorem dX7_fits_111 : decode cX7_fits 111 = .ok (.iinc 6 1, 3) := by decide +kernel
theorem dX7_fits_114 : decode cX7_fits 114 = .ok (.goto (-65), 3) := by decide +kernel
theorem dX7_fits_117 : decode cX7_fits 117 = .ok (.iload_n 1, 1) := by decide +kernel
theorem dX7_fits_118 : decode cX7_fits 118 = .ok (.ifCond .ge 7, 3) := by decide +kernel
theorem dX7_fits_121 : decode cX7_fits 121 = .ok (.iload_n 3, 1) := by decide +kernel
theorem dX7_fits_122 : decode cX7_fits 122 = .ok (.goto 15, 3) := by decide +kernel
theorem dX7_fits_125 : decode cX7_fits 125 = .ok (.iload 5, 2) := by decide +kernel
theorem dX7_fits_127 : decode cX7_fits 127 = .ok (.ifCond .eq 8, 3) := by decide +kernel
theorem dX7_fits_130 : decode cX7_fits 130 = .ok (.iload 4, 2) := by decide +kernel
theorem dX7_fits_132 : decode cX7_fits 132 = .ok (.goto 5, 3) := by decide +kernel
theorem dX7_fits_135 : decode cX7_fits 135 = .ok (.bipush (-9), 2) := by decide +kernel
theorem dX7_fits_137 : decode cX7_fits 137 = .ok (.ireturn, 1) := by decide +kernel
set_option maxRecDepth 20000 in
theorem ggX7_mark_X7_in : GoodIn wsX7_mark wsX7_in := goodIn_r _ [13] (by decide +kernel) (by decide +kernel)
set_option maxRecDepth 20000 in
theorem gX7_mark_X7_in : GoodIn wsX7_mark (va_wsS RX7 57 yX7_in wsX7_in) := goodIn_app (goodIn_of _ (by decide +kernel)) ggX7_mark_X7_in
set_option maxRecDepth 20000 in
theorem ggX7_mark_X7_isOne : GoodIn wsX7_mark wsX7_isOne := goodIn_r _ [17, 18, 10, 11, 12, 13, 27, 28, 29, 30, 31, 32, 33, 34, 35, 36, 37, 38, 39, 40, 41, 42, 43, 44, 45, 46, 47, 48, 49, 50, 51, 52, 53, 54] (by decide +kernel) (by decide +kernel)
set_option maxRecDepth 20000 in
theorem gX7_mark_X7_isOne : GoodIn wsX7_mark (wsV RX7 139 RX7 yX7_isOne wsX7_isOne) := goodIn_app (goodIn_of _ (by decide +kernel)) ggX7_mark_X7_isOne
set_option maxRecDepth 20000 in
theorem ggX7_mark_X7_driftOf : GoodIn wsX7_mark wsX7_driftOf := goodIn_r _ [22, 3, 23, 24, 25, 12, 26, 27, 28, 29, 30, 31, 32, 33, 34, 35, 36, 37, 38, 39, 40, 41, 42, 43, 44, 45, 46, 47, 48, 49, 50, 51, 52, 53, 54] (by decide +kernel) (by decide +kernel)
set_option maxRecDepth 20000 in
theorem gX7_mark_X7_driftOf : GoodIn wsX7_mark (wsV RX7 142 RX7 yX7_driftOf wsX7_driftOf) := goodIn_app (goodIn_of _ (by decide +kernel)) ggX7_mark_X7_driftOf
set_option maxRecDepth 20000 in
theorem ggX7_mark_X7_rockOf : GoodIn wsX7_mark wsX7_rockOf := goodIn_r _ [26] (by decide +kernel) (by decide +kernel)
set_option maxRecDepth 20000 in
theorem gX7_mark_X7_rockOf : GoodIn wsX7_mark (wsV RX7 131 RX7 yX7_rockOf wsX7_rockOf) := goodIn_app (goodIn_of _ (by decide +kernel)) ggX7_mark_X7_rockOf
theorem dX7_mark_0 : decode cX7_mark 0 = .ok (.iload_n 1, 1) := by decide +kernel
theorem dX7_mark_1 : decode cX7_mark 1 = .ok (.iconst 0, 1) := by decide +kernel
theorem dX7_mark_2 : decode cX7_mark 2 = .ok (.iconst 5, 1) := by decide +kernel
theorem dX7_mark_3 : decode cX7_mark 3 = .ok (.invokestatic 57, 3) := by decide +kernel
theorem dX7_mark_6 : decode cX7_mark 6 = .ok (.ifCond .eq 11, 3) := by decide +kernel
theorem dX7_mark_9 : decode cX7_mark 9 = .ok (.aload_n 0, 1) := by decide +kernel
theorem dX7_mark_10 : decode cX7_mark 10 = .ok (.iload_n 2, 1) := by decide +kernel
theorem dX7_mark_11 : decode cX7_mark 11 = .ok (.invokevirtual 139, 3) := by decide +kernel
theorem dX7_mark_14 : decode cX7_mark 14 = .ok (.ifCond .ne 6, 3) := by decide +kernel
theorem dX7_mark_17 : decode cX7_mark 17 = .ok (.ldc 194, 2) := by decide +kernel
theorem dX7_mark_19 : decode cX7_mark 19 = .ok (.ireturn, 1) := by decide +kernel
theorem dX7_mark_20 : decode cX7_mark 20 = .ok (.aload_n 0, 1) := by decide +kernel
theorem dX7_mark_21 : decode cX7_mark 21 = .ok (.getfield 7, 3) := by decide +kernel
theorem dX7_mark_24 : decode cX7_mark 24 = .ok (.iload_n 2, 1) := by decide +kernel
theorem dX7_mark_25 : decode cX7_mark 25 = .ok (.iaload, 1) := by decide +kernel
theorem dX7_mark_26 : decode cX7_mark 26 = .ok (.istore_n 3, 1) := by decide +kernel
theorem dX7_mark_27 : decode cX7_mark 27 = .ok (.iload_n 3, 1) := by decide +kernel
theorem dX7_mark_28 : decode cX7_mark 28 = .ok (.aload_n 0, 1) := by decide +kernel
theorem dX7_mark_29 : decode cX7_mark 29 = .ok (.iload_n 2, 1) := by decide +kernel
theorem dX7_mark_30 : decode cX7_mark 30 = .ok (.invokevirtual 142, 3) := by decide +kernel
theorem dX7_mark_33 : decode cX7_mark 33 = .ok (.iadd, 1) := by decide +kernel
theorem dX7_mark_34 : decode cX7_mark 34 = .ok (.istore 4, 2) := by decide +kernel
theorem dX7_mark_36 : decode cX7_mark 36 = .ok (.iload_n 3, 1) := by decide +kernel
theorem dX7_mark_37 : decode cX7_mark 37 = .ok (.aload_n 0, 1) := by decide +kernel
theorem dX7_mark_38 : decode cX7_mark 38 = .ok (.aload_n 0, 1) := by decide +kernel
theorem dX7_mark_39 : decode cX7_mark 39 = .ok (.getfield 20, 3) := by decide +kernel
theorem dX7_mark_42 : decode cX7_mark 42 = .ok (.iload_n 2, 1) := by decide +kernel
theorem dX7_mark_43 : decode cX7_mark 43 = .ok (.invokevirtual 131, 3) := by decide +kernel
theorem dX7_mark_46 : decode cX7_mark 46 = .ok (.isub, 1) := by decide +kernel
theorem dX7_mark_47 : decode cX7_mark 47 = .ok (.istore 5, 2) := by decide +kernel
theorem dX7_mark_49 : decode cX7_mark 49 = .ok (.iload_n 1, 1) := by decide +kernel
theorem dX7_mark_50 : decode cX7_mark 50 = .ok (.tableswitch 120 1 5 #[34, 49, 64, 81, 98], 34) := by decide +kernel
theorem dX7_mark_84 : decode cX7_mark 84 = .ok (.aload_n 0, 1) := by decide +kernel
theorem dX7_mark_85 : decode cX7_mark 85 = .ok (.dup, 1) := by decide +kernel
theorem dX7_mark_86 : decode cX7_mark 86 = .ok (.getfield 195, 3) := by decide +kernel
theorem dX7_mark_89 : decode cX7_mark 89 = .ok (.ldc2_w 199, 3) := by decide +kernel
theorem dX7_mark_92 : decode cX7_mark 92 = .ok (.ladd, 1) := by decide +kernel
theorem dX7_mark_93 : decode cX7_mark 93 = .ok (.putfield 195, 3) := by decide +kernel
theorem dX7_mark_96 : decode cX7_mark 96 = .ok (.iload 4, 2) := by decide +kernel
theorem dX7_mark_98 : decode cX7_mark 98 = .ok (.ireturn, 1) := by decide +kernel
theorem dX7_mark_99 : decode cX7_mark 99 = .ok (.aload_n 0, 1) := by decide +kernel
theorem dX7_mark_100 : decode cX7_mark 100 = .ok (.dup, 1) := by decide +kernel
theorem dX7_mark_101 : decode cX7_mark 101 = .ok (.getfield 195, 3) := by decide +kernel
theorem dX7_mark_104 : decode cX7_mark 104 = .ok (.ldc2_w 201, 3) := by decide +kernel
theorem dX7_mark_107 : decode cX7_mark 107 = .ok (.ladd, 1) := by decide +kernel
theorem dX7_mark_108 : decode cX7_mark 108 = .ok (.putfield 195, 3) := by decide +kernel
theorem dX7_mark_111 : decode cX7_mark 111 = .ok (.iload 5, 2) := by decide +kernel
theorem dX7_mark_113 : decode cX7_mark 113 = .ok (.ireturn, 1) := by decide +kernel
theorem dX7_mark_114 : decode cX7_mark 114 = .ok (.aload_n 0, 1) := by decide +kernel
theorem dX7_mark_115 : decode cX7_mark 115 = .ok (.dup, 1) := by decide +kernel
theorem dX7_mark_116 : decode cX7_mark 116 = .ok (.getfield 195, 3) := by decide +kernel
theorem dX7_mark_119 : decode cX7_mark 119 = .ok (.ldc2_w 203, 3) := by decide +kernel
theorem dX7_mark_122 : decode cX7_mark 122 = .ok (.ladd, 1) := by decide +kernel
theorem dX7_mark_123 : decode cX7_mark 123 = .ok (.putfield 195, 3) := by decide +kernel
theorem dX7_mark_126 : decode cX7_mark 126 = .ok (.iconst 2, 1) := by decide +kernel
theorem dX7_mark_127 : decode cX7_mark 127 = .ok (.iload 4, 2) := by decide +kernel
theorem dX7_mark_129 : decode cX7_mark 129 = .ok (.imul, 1) := by decide +kernel
theorem dX7_mark_130 : decode cX7_mark 130 = .ok (.ireturn, 1) := by decide +kernel
theorem dX7_mark_131 : decode cX7_mark 131 = .ok (.aload_n 0, 1) := by decide +kernel
theorem dX7_mark_132 : decode cX7_mark 132 = .ok (.dup, 1) := by decide +kernel
theorem dX7_mark_133 : decode cX7_mark 133 = .ok (.getfield 195, 3) := by decide +kernel
theorem dX7_mark_136 : decode cX7_mark 136 = .ok (.ldc2_w 205, 3) := by decide +kernel
theorem dX7_mark_139 : decode cX7_mark 139 = .ok (.ladd, 1) := by decide +kernel
theorem dX7_mark_140 : decode cX7_mark 140 = .ok (.putfield 195, 3) := by decide +kernel
theorem dX7_mark_143 : decode cX7_mark 143 = .ok (.iload 5, 2) := by decide +kernel
theorem dX7_mark_145 : decode cX7_mark 145 = .ok (.iload_n 2, 1) := by decide +kernel
theorem dX7_mark_146 : decode cX7_mark 146 = .ok (.iadd, 1) := by decide +kernel
theorem dX7_mark_147 : decode cX7_mark 147 = .ok (.ireturn, 1) := by decide +kernel
theorem dX7_mark_148 : decode cX7_mark 148 = .ok (.aload_n 0, 1) := by decide +kernel
theorem dX7_mark_149 : decode cX7_mark 149 = .ok (.dup, 1) := by decide +kernel
theorem dX7_mark_150 : decode cX7_mark 150 = .ok (.getfield 195, 3) := by decide +kernel
theorem dX7_mark_153 : decode cX7_mark 153 = .ok (.ldc2_w 207, 3) := by decide +kernel
theorem dX7_mark_156 : decode cX7_mark 156 = .ok (.ladd, 1) := by decide +kernel
theorem dX7_mark_157 : decode cX7_mark 157 = .ok (.putfield 195, 3) := by decide +kernel
theorem dX7_mark_160 : decode cX7_mark 160 = .ok (.iload_n 3, 1) := by decide +kernel
theorem dX7_mark_161 : decode cX7_mark 161 = .ok (.aload_n 0, 1) := by decide +kernel
theorem dX7_mark_162 : decode cX7_mark 162 = .ok (.getfield 20, 3) := by decide +kernel
theorem dX7_mark_165 : decode cX7_mark 165 = .ok (.bipush 6, 2) := by decide +kernel
theorem dX7_mark_167 : decode cX7_mark 167 = .ok (.iaload, 1) := by decide +kernel
theorem dX7_mark_168 : decode cX7_mark 168 = .ok (.iadd, 1) := by decide +kernel
theorem dX7_mark_169 : decode cX7_mark 169 = .ok (.ireturn, 1) := by decide +kernel
theorem dX7_mark_170 : decode cX7_mark 170 = .ok (.aload_n 0, 1) := by decide +kernel
theorem dX7_mark_171 : decode cX7_mark 171 = .ok (.dup, 1) := by decide +kernel
theorem dX7_mark_172 : decode cX7_mark 172 = .ok (.getfield 195, 3) := by decide +kernel
theorem dX7_mark_175 : decode cX7_mark 175 = .ok (.lconst 1, 1) := by decide +kernel
theorem dX7_mark_176 : decode cX7_mark 176 = .ok (.ladd, 1) := by decide +kernel
theorem dX7_mark_177 : decode cX7_mark 177 = .ok (.putfield 195, 3) := by decide +kernel
theorem dX7_mark_180 : decode cX7_mark 180 = .ok (.iload_n 3, 1) := by decide +kernel
theorem dX7_mark_181 : decode cX7_mark 181 = .ok (.ireturn, 1) := by decide +kernel
set_option maxRecDepth 20000 in
theorem ggX7_keep_X7_in : GoodIn wsX7_keep wsX7_in := goodIn_r _ [7] (by decide +kernel) (by decide +kernel)
set_option maxRecDepth 20000 in
theorem gX7_keep_X7_in : GoodIn wsX7_keep (va_wsS RX7 57 yX7_in wsX7_in) := goodIn_app (goodIn_of _ (by decide +kernel)) ggX7_keep_X7_in
theorem dX7_keep_0 : decode cX7_keep 0 = .ok (.iload_n 1, 1) := by decide +kernel
theorem dX7_keep_1 : decode cX7_keep 1 = .ok (.iconst 0, 1) := by decide +kernel
theorem dX7_keep_2 : decode cX7_keep 2 = .ok (.iconst 1, 1) := by decide +kernel
theorem dX7_keep_3 : decode cX7_keep 3 = .ok (.invokestatic 57, 3) := by decide +kernel
theorem dX7_keep_6 : decode cX7_keep 6 = .ok (.ifCond .ne 5, 3) := by decide +kernel
theorem dX7_keep_9 : decode cX7_keep 9 = .ok (.iconst (-1), 1) := by decide +kernel
theorem dX7_keep_10 : decode cX7_keep 10 = .ok (.ireturn, 1) := by decide +kernel
theorem dX7_keep_11 : decode cX7_keep 11 = .ok (.iconst 0, 1) := by decide +kernel
theorem dX7_keep_12 : decode cX7_keep 12 = .ok (.istore_n 2, 1) := by decide +kernel
theorem dX7_keep_13 : decode cX7_keep 13 = .ok (.iload_n 2, 1) := by decide +kernel
theorem dX7_keep_14 : decode cX7_keep 14 = .ok (.bipush 100, 2) := by decide +kernel
theorem dX7_keep_16 : decode cX7_keep 16 = .ok (.if_icmp .ge 26, 3) := by decide +kernel
theorem dX7_keep_19 : decode cX7_keep 19 = .ok (.aload_n 0, 1) := by decide +kernel
theorem dX7_keep_20 : decode cX7_keep 20 = .ok (.getfield 23, 3) := by decide +kernel
theorem dX7_keep_23 : decode cX7_keep 23 = .ok (.bipush 100, 2) := by decide +kernel
theorem dX7_keep_25 : decode cX7_keep 25 = .ok (.iload_n 1, 1) := by decide +kernel
theorem dX7_keep_26 : decode cX7_keep 26 = .ok (.imul, 1) := by decide +kernel
theorem dX7_keep_27 : decode cX7_keep 27 = .ok (.iload_n 2, 1) := by decide +kernel
theorem dX7_keep_28 : decode cX7_keep 28 = .ok (.iadd, 1) := by decide +kernel
theorem dX7_keep_29 : decode cX7_keep 29 = .ok (.aload_n 0, 1) := by decide +kernel
theorem dX7_keep_30 : decode cX7_keep 30 = .ok (.getfield 20, 3) := by decide +kernel
theorem dX7_keep_33 : decode cX7_keep 33 = .ok (.iload_n 2, 1) := by decide +kernel
theorem dX7_keep_34 : decode cX7_keep 34 = .ok (.iaload, 1) := by decide +kernel
theorem dX7_keep_35 : decode cX7_keep 35 = .ok (.iastore, 1) := by decide +kernel
theorem dX7_keep_36 : decode cX7_keep 36 = .ok (.iinc 2 1, 3) := by decide +kernel
theorem dX7_keep_39 : decode cX7_keep 39 = .ok (.goto (-26), 3) := by decide +kernel
theorem dX7_keep_42 : decode cX7_keep 42 = .ok (.aload_n 0, 1) := by decide +kernel
theorem dX7_keep_43 : decode cX7_keep 43 = .ok (.getfield 26, 3) := by decide +kernel
theorem dX7_keep_46 : decode cX7_keep 46 = .ok (.iload_n 1, 1) := by decide +kernel
theorem dX7_keep_47 : decode cX7_keep 47 = .ok (.iconst 1, 1) := by decide +kernel
theorem dX7_keep_48 : decode cX7_keep 48 = .ok (.bastore, 1) := by decide +kernel
theorem dX7_keep_49 : decode cX7_keep 49 = .ok (.aload_n 0, 1) := by decide +kernel
theorem dX7_keep_50 : decode cX7_keep 50 = .ok (.getfield 20, 3) := by decide +kernel
theorem dX7_keep_53 : decode cX7_keep 53 = .ok (.bipush 6, 2) := by decide +kernel
theorem dX7_keep_55 : decode cX7_keep 55 = .ok (.iaload, 1) := by decide +kernel
theorem dX7_keep_56 : decode cX7_keep 56 = .ok (.ireturn, 1) := by decide +kernel
set_option maxRecDepth 20000 in
theorem ggX7_back_X7_in : GoodIn wsX7_back wsX7_in := goodIn_r _ [7] (by decide +kernel) (by decide +kernel)
set_option maxRecDepth 20000 in
theorem gX7_back_X7_in : GoodIn wsX7_back (va_wsS RX7 57 yX7_in wsX7_in) := goodIn_app (goodIn_of _ (by decide +kernel)) ggX7_back_X7_in
theorem dX7_back_0 : decode cX7_back 0 = .ok (.iload_n 1, 1) := by decide +kernel
theorem dX7_back_1 : decode cX7_back 1 = .ok (.iconst 0, 1) := by decide +kernel
theorem dX7_back_2 : decode cX7_back 2 = .ok (.iconst 1, 1) := by decide +kernel
theorem dX7_back_3 : decode cX7_back 3 = .ok (.invokestatic 57, 3) := by decide +kernel
theorem dX7_back_6 : decode cX7_back 6 = .ok (.ifCond .ne 5, 3) := by decide +kernel
theorem dX7_back_9 : decode cX7_back 9 = .ok (.iconst (-1), 1) := by decide +kernel
theorem dX7_back_10 : decode cX7_back 10 = .ok (.ireturn, 1) := by decide +kernel
theorem dX7_back_11 : decode cX7_back 11 = .ok (.aload_n 0, 1) := by decide +kernel
theorem dX7_back_12 : decode cX7_back 12 = .ok (.getfield 26, 3) := by decide +kernel
theorem dX7_back_15 : decode cX7_back 15 = .ok (.iload_n 1, 1) := by decide +kernel
theorem dX7_back_16 : decode cX7_back 16 = .ok (.baload, 1) := by decide +kernel
theorem dX7_back_17 : decode cX7_back 17 = .ok (.ifCond .ne 6, 3) := by decide +kernel
theorem dX7_back_20 : decode cX7_back 20 = .ok (.bipush (-2), 2) := by decide +kernel
theorem dX7_back_22 : decode cX7_back 22 = .ok (.ireturn, 1) := by decide +kernel
theorem dX7_back_23 : decode cX7_back 23 = .ok (.iconst 0, 1) := by decide +kernel
theorem dX7_back_24 : decode cX7_back 24 = .ok (.istore_n 2, 1) := by decide +kernel
theorem dX7_back_25 : decode cX7_back 25 = .ok (.iload_n 2, 1) := by decide +kernel
theorem dX7_back_26 : decode cX7_back 26 = .ok (.bipush 100, 2) := by decide +kernel
theorem dX7_back_28 : decode cX7_back 28 = .ok (.if_icmp .ge 26, 3) := by decide +kernel
theorem dX7_back_31 : decode cX7_back 31 = .ok (.aload_n 0, 1) := by decide +kernel
theorem dX7_back_32 : decode cX7_back 32 = .ok (.getfield 20, 3) := by decide +kernel
theorem dX7_back_35 : decode cX7_back 35 = .ok (.iload_n 2, 1) := by decide +kernel
theorem dX7_back_36 : decode cX7_back 36 = .ok (.aload_n 0, 1) := by decide +kernel
theorem dX7_back_37 : decode cX7_back 37 = .ok (.getfield 23, 3) := by decide +kernel
theorem dX7_back_40 : decode cX7_back 40 = .ok (.bipush 100, 2) := by decide +kernel
theorem dX7_back_42 : decode cX7_back 42 = .ok (.iload_n 1, 1) := by decide +kernel
theorem dX7_back_43 : decode cX7_back 43 = .ok (.imul, 1) := by decide +kernel
theorem dX7_back_44 : decode cX7_back 44 = .ok (.iload_n 2, 1) := by decide +kernel
theorem dX7_back_45 : decode cX7_back 45 = .ok (.iadd, 1) := by decide +kernel
theorem dX7_back_46 : decode cX7_back 46 = .ok (.iaload, 1) := by decide +kernel
theorem dX7_back_47 : decode cX7_back 47 = .ok (.iastore, 1) := by decide +kernel
theorem dX7_back_48 : decode cX7_back 48 = .ok (.iinc 2 1, 3) := by decide +kernel
theorem dX7_back_51 : decode cX7_back 51 = .ok (.goto (-26), 3) := by decide +kernel
theorem dX7_back_54 : decode cX7_back 54 = .ok (.aload_n 0, 1) := by decide +kernel
theorem dX7_back_55 : decode cX7_back 55 = .ok (.getfield 20, 3) := by decide +kernel
theorem dX7_back_58 : decode cX7_back 58 = .ok (.bipush 6, 2) := by decide +kernel
theorem dX7_back_60 : decode cX7_back 60 = .ok (.iaload, 1) := by decide +kernel
theorem dX7_back_61 : decode cX7_back 61 = .ok (.ireturn, 1) := by decide +kernel
theorem dX7_count_0 : decode cX7_count 0 = .ok (.iload_n 1, 1) := by decide +kernel
theorem dX7_count_1 : decode cX7_count 1 = .ok (.tableswitch 72 0 5 #[39, 44, 49, 54, 59, 67], 39) := by decide +kernel
theorem dX7_count_40 : decode cX7_count 40 = .ok (.aload_n 0, 1) := by decide +kernel
theorem dX7_count_41 : decode cX7_count 41 = .ok (.getfield 54, 3) := by decide +kernel
theorem dX7_count_44 : decode cX7_count 44 = .ok (.ireturn, 1) := by decide +kernel
theorem dX7_count_45 : decode cX7_count 45 = .ok (.aload_n 0, 1) := by decide +kernel
theorem dX7_count_46 : decode cX7_count 46 = .ok (.getfield 125, 3) := by decide +kernel
theorem dX7_count_49 : decode cX7_count 49 = .ok (.ireturn, 1) := by decide +kernel
theorem dX7_count_50 : decode cX7_count 50 = .ok (.aload_n 0, 1) := by decide +kernel
theorem dX7_count_51 : decode cX7_count 51 = .ok (.getfield 16, 3) := by decide +kernel
theorem dX7_count_54 : decode cX7_count 54 = .ok (.ireturn, 1) := by decide +kernel
theorem dX7_count_55 : decode cX7_count 55 = .ok (.aload_n 0, 1) := by decide +kernel
theorem dX7_count_56 : decode cX7_count 56 = .ok (.getfield 128, 3) := by decide +kernel
theorem dX7_count_59 : decode cX7_count 59 = .ok (.ireturn, 1) := by decide +kernel
theorem dX7_count_60 : decode cX7_count 60 = .ok (.aload_n 0, 1) := by decide +kernel
theorem dX7_count_61 : decode cX7_count 61 = .ok (.getfield 20, 3) := by decide +kernel
theorem dX7_count_64 : decode cX7_count 64 = .ok (.bipush 9, 2) := by decide +kernel
theorem dX7_count_66 : decode cX7_count 66 = .ok (.iaload, 1) := by decide +kernel
theorem dX7_count_67 : decode cX7_count 67 = .ok (.ireturn, 1) := by decide +kernel
theorem dX7_count_68 : decode cX7_count 68 = .ok (.aload_n 0, 1) := by decide +kernel
theorem dX7_count_69 : decode cX7_count 69 = .ok (.getfield 61, 3) := by decide +kernel
theorem dX7_count_72 : decode cX7_count 72 = .ok (.ireturn, 1) := by decide +kernel
theorem dX7_count_73 : decode cX7_count 73 = .ok (.iconst (-1), 1) := by decide +kernel
theorem dX7_count_74 : decode cX7_count 74 = .ok (.ireturn, 1) := by decide +kernel
theorem dX7_trace_0 : decode cX7_trace 0 = .ok (.aload_n 0, 1) := by decide +kernel
theorem dX7_trace_1 : decode cX7_trace 1 = .ok (.getfield 195, 3) := by decide +kernel
theorem dX7_trace_4 : decode cX7_trace 4 = .ok (.lreturn, 1) := by decide +kernel
