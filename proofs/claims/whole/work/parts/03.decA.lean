theorem dJ6_bitCount_0f7a4_0 : decode cJ6_bitCount_0f7a4 0 = .ok (.iload_n 0, 1) := by decide +kernel
theorem dJ6_bitCount_0f7a4_1 : decode cJ6_bitCount_0f7a4 1 = .ok (.iload_n 0, 1) := by decide +kernel
theorem dJ6_bitCount_0f7a4_2 : decode cJ6_bitCount_0f7a4 2 = .ok (.iconst 1, 1) := by decide +kernel
theorem dJ6_bitCount_0f7a4_3 : decode cJ6_bitCount_0f7a4 3 = .ok (.iushr, 1) := by decide +kernel
theorem dJ6_bitCount_0f7a4_4 : decode cJ6_bitCount_0f7a4 4 = .ok (.ldc_w 265, 3) := by decide +kernel
theorem dJ6_bitCount_0f7a4_7 : decode cJ6_bitCount_0f7a4 7 = .ok (.iand, 1) := by decide +kernel
theorem dJ6_bitCount_0f7a4_8 : decode cJ6_bitCount_0f7a4 8 = .ok (.isub, 1) := by decide +kernel
theorem dJ6_bitCount_0f7a4_9 : decode cJ6_bitCount_0f7a4 9 = .ok (.istore_n 0, 1) := by decide +kernel
theorem dJ6_bitCount_0f7a4_10 : decode cJ6_bitCount_0f7a4 10 = .ok (.iload_n 0, 1) := by decide +kernel
theorem dJ6_bitCount_0f7a4_11 : decode cJ6_bitCount_0f7a4 11 = .ok (.ldc_w 266, 3) := by decide +kernel
theorem dJ6_bitCount_0f7a4_14 : decode cJ6_bitCount_0f7a4 14 = .ok (.iand, 1) := by decide +kernel
theorem dJ6_bitCount_0f7a4_15 : decode cJ6_bitCount_0f7a4 15 = .ok (.iload_n 0, 1) := by decide +kernel
theorem dJ6_bitCount_0f7a4_16 : decode cJ6_bitCount_0f7a4 16 = .ok (.iconst 2, 1) := by decide +kernel
theorem dJ6_bitCount_0f7a4_17 : decode cJ6_bitCount_0f7a4 17 = .ok (.iushr, 1) := by decide +kernel
theorem dJ6_bitCount_0f7a4_18 : decode cJ6_bitCount_0f7a4 18 = .ok (.ldc_w 266, 3) := by decide +kernel
theorem dJ6_bitCount_0f7a4_21 : decode cJ6_bitCount_0f7a4 21 = .ok (.iand, 1) := by decide +kernel
theorem dJ6_bitCount_0f7a4_22 : decode cJ6_bitCount_0f7a4 22 = .ok (.iadd, 1) := by decide +kernel
theorem dJ6_bitCount_0f7a4_23 : decode cJ6_bitCount_0f7a4 23 = .ok (.istore_n 0, 1) := by decide +kernel
theorem dJ6_bitCount_0f7a4_24 : decode cJ6_bitCount_0f7a4 24 = .ok (.iload_n 0, 1) := by decide +kernel
theorem dJ6_bitCount_0f7a4_25 : decode cJ6_bitCount_0f7a4 25 = .ok (.iload_n 0, 1) := by decide +kernel
theorem dJ6_bitCount_0f7a4_26 : decode cJ6_bitCount_0f7a4 26 = .ok (.iconst 4, 1) := by decide +kernel
theorem dJ6_bitCount_0f7a4_27 : decode cJ6_bitCount_0f7a4 27 = .ok (.iushr, 1) := by decide +kernel
theorem dJ6_bitCount_0f7a4_28 : decode cJ6_bitCount_0f7a4 28 = .ok (.iadd, 1) := by decide +kernel
theorem dJ6_bitCount_0f7a4_29 : decode cJ6_bitCount_0f7a4 29 = .ok (.ldc_w 267, 3) := by decide +kernel
theorem dJ6_bitCount_0f7a4_32 : decode cJ6_bitCount_0f7a4 32 = .ok (.iand, 1) := by decide +kernel
theorem dJ6_bitCount_0f7a4_33 : decode cJ6_bitCount_0f7a4 33 = .ok (.istore_n 0, 1) := by decide +kernel
theorem dJ6_bitCount_0f7a4_34 : decode cJ6_bitCount_0f7a4 34 = .ok (.iload_n 0, 1) := by decide +kernel
theorem dJ6_bitCount_0f7a4_35 : decode cJ6_bitCount_0f7a4 35 = .ok (.iload_n 0, 1) := by decide +kernel
theorem dJ6_bitCount_0f7a4_36 : decode cJ6_bitCount_0f7a4 36 = .ok (.bipush 8, 2) := by decide +kernel
theorem dJ6_bitCount_0f7a4_38 : decode cJ6_bitCount_0f7a4 38 = .ok (.iushr, 1) := by decide +kernel
theorem dJ6_bitCount_0f7a4_39 : decode cJ6_bitCount_0f7a4 39 = .ok (.iadd, 1) := by decide +kernel
theorem dJ6_bitCount_0f7a4_40 : decode cJ6_bitCount_0f7a4 40 = .ok (.istore_n 0, 1) := by decide +kernel
theorem dJ6_bitCount_0f7a4_41 : decode cJ6_bitCount_0f7a4 41 = .ok (.iload_n 0, 1) := by decide +kernel
theorem dJ6_bitCount_0f7a4_42 : decode cJ6_bitCount_0f7a4 42 = .ok (.iload_n 0, 1) := by decide +kernel
theorem dJ6_bitCount_0f7a4_43 : decode cJ6_bitCount_0f7a4 43 = .ok (.bipush 16, 2) := by decide +kernel
theorem dJ6_bitCount_0f7a4_45 : decode cJ6_bitCount_0f7a4 45 = .ok (.iushr, 1) := by decide +kernel
theorem dJ6_bitCount_0f7a4_46 : decode cJ6_bitCount_0f7a4 46 = .ok (.iadd, 1) := by decide +kernel
theorem dJ6_bitCount_0f7a4_47 : decode cJ6_bitCount_0f7a4 47 = .ok (.istore_n 0, 1) := by decide +kernel
theorem dJ6_bitCount_0f7a4_48 : decode cJ6_bitCount_0f7a4 48 = .ok (.iload_n 0, 1) := by decide +kernel
theorem dJ6_bitCount_0f7a4_49 : decode cJ6_bitCount_0f7a4 49 = .ok (.bipush 63, 2) := by decide +kernel
theorem dJ6_bitCount_0f7a4_51 : decode cJ6_bitCount_0f7a4 51 = .ok (.iand, 1) := by decide +kernel
theorem dJ6_bitCount_0f7a4_52 : decode cJ6_bitCount_0f7a4 52 = .ok (.ireturn, 1) := by decide +kernel
theorem dJ7_fill_53178_0 : decode cJ7_fill_53178 0 = .ok (.iconst 0, 1) := by decide +kernel
theorem dJ7_fill_53178_1 : decode cJ7_fill_53178 1 = .ok (.istore_n 2, 1) := by decide +kernel
theorem dJ7_fill_53178_2 : decode cJ7_fill_53178 2 = .ok (.aload_n 0, 1) := by decide +kernel
theorem dJ7_fill_53178_3 : decode cJ7_fill_53178 3 = .ok (.arraylength, 1) := by decide +kernel
theorem dJ7_fill_53178_4 : decode cJ7_fill_53178 4 = .ok (.istore_n 3, 1) := by decide +kernel
theorem dJ7_fill_53178_5 : decode cJ7_fill_53178 5 = .ok (.iload_n 2, 1) := by decide +kernel
theorem dJ7_fill_53178_6 : decode cJ7_fill_53178 6 = .ok (.iload_n 3, 1) := by decide +kernel
theorem dJ7_fill_53178_7 : decode cJ7_fill_53178 7 = .ok (.if_icmp .ge 13, 3) := by decide +kernel
theorem dJ7_fill_53178_10 : decode cJ7_fill_53178 10 = .ok (.aload_n 0, 1) := by decide +kernel
theorem dJ7_fill_53178_11 : decode cJ7_fill_53178 11 = .ok (.iload_n 2, 1) := by decide +kernel
theorem dJ7_fill_53178_12 : decode cJ7_fill_53178 12 = .ok (.iload_n 1, 1) := by decide +kernel
theorem dJ7_fill_53178_13 : decode cJ7_fill_53178 13 = .ok (.iastore, 1) := by decide +kernel
theorem dJ7_fill_53178_14 : decode cJ7_fill_53178 14 = .ok (.iinc 2 1, 3) := by decide +kernel
theorem dJ7_fill_53178_17 : decode cJ7_fill_53178 17 = .ok (.goto (-12), 3) := by decide +kernel
theorem dJ7_fill_53178_20 : decode cJ7_fill_53178 20 = .ok (.return_, 1) := by decide +kernel
theorem dJ9_abs_0f7a4_0 : decode cJ9_abs_0f7a4 0 = .ok (.iload_n 0, 1) := by decide +kernel
theorem dJ9_abs_0f7a4_1 : decode cJ9_abs_0f7a4 1 = .ok (.ifCond .ge 8, 3) := by decide +kernel
theorem dJ9_abs_0f7a4_4 : decode cJ9_abs_0f7a4 4 = .ok (.iload_n 0, 1) := by decide +kernel
theorem dJ9_abs_0f7a4_5 : decode cJ9_abs_0f7a4 5 = .ok (.ineg, 1) := by decide +kernel
theorem dJ9_abs_0f7a4_6 : decode cJ9_abs_0f7a4 6 = .ok (.goto 4, 3) := by decide +kernel
theorem dJ9_abs_0f7a4_9 : decode cJ9_abs_0f7a4 9 = .ok (.iload_n 0, 1) := by decide +kernel
theorem dJ9_abs_0f7a4_10 : decode cJ9_abs_0f7a4 10 = .ok (.ireturn, 1) := by decide +kernel
theorem dJ9_min_7cf53_0 : decode cJ9_min_7cf53 0 = .ok (.iload_n 0, 1) := by decide +kernel
theorem dJ9_min_7cf53_1 : decode cJ9_min_7cf53 1 = .ok (.iload_n 1, 1) := by decide +kernel
theorem dJ9_min_7cf53_2 : decode cJ9_min_7cf53 2 = .ok (.if_icmp .gt 7, 3) := by decide +kernel
theorem dJ9_min_7cf53_5 : decode cJ9_min_7cf53 5 = .ok (.iload_n 0, 1) := by decide +kernel
theorem dJ9_min_7cf53_6 : decode cJ9_min_7cf53 6 = .ok (.goto 4, 3) := by decide +kernel
theorem dJ9_min_7cf53_9 : decode cJ9_min_7cf53 9 = .ok (.iload_n 1, 1) := by decide +kernel
theorem dJ9_min_7cf53_10 : decode cJ9_min_7cf53 10 = .ok (.ireturn, 1) := by decide +kernel
theorem dX0_init_0 : decode cX0_init 0 = .ok (.aload_n 0, 1) := by decide +kernel
theorem dX0_init_1 : decode cX0_init 1 = .ok (.invokespecial 3, 3) := by decide +kernel
theorem dX0_init_4 : decode cX0_init 4 = .ok (.aload_n 0, 1) := by decide +kernel
theorem dX0_init_5 : decode cX0_init 5 = .ok (.bipush 40, 2) := by decide +kernel
theorem dX0_init_7 : decode cX0_init 7 = .ok (.newarray .int, 2) := by decide +kernel
theorem dX0_init_9 : decode cX0_init 9 = .ok (.putfield 11, 3) := by decide +kernel
theorem dX0_init_12 : decode cX0_init 12 = .ok (.return_, 1) := by decide +kernel
theorem dX0_begin_0 : decode cX0_begin 0 = .ok (.aload_n 0, 1) := by decide +kernel
theorem dX0_begin_1 : decode cX0_begin 1 = .ok (.iconst 0, 1) := by decide +kernel
theorem dX0_begin_2 : decode cX0_begin 2 = .ok (.putfield 15, 3) := by decide +kernel
theorem dX0_begin_5 : decode cX0_begin 5 = .ok (.aload_n 0, 1) := by decide +kernel
theorem dX0_begin_6 : decode cX0_begin 6 = .ok (.iconst 0, 1) := by decide +kernel
theorem dX0_begin_7 : decode cX0_begin 7 = .ok (.putfield 19, 3) := by decide +kernel
theorem dX0_begin_10 : decode cX0_begin 10 = .ok (.aload_n 0, 1) := by decide +kernel
theorem dX0_begin_11 : decode cX0_begin 11 = .ok (.iconst 0, 1) := by decide +kernel
theorem dX0_begin_12 : decode cX0_begin 12 = .ok (.putfield 22, 3) := by decide +kernel
theorem dX0_begin_15 : decode cX0_begin 15 = .ok (.aload_n 0, 1) := by decide +kernel
theorem dX0_begin_16 : decode cX0_begin 16 = .ok (.iconst 0, 1) := by decide +kernel
theorem dX0_begin_17 : decode cX0_begin 17 = .ok (.putfield 25, 3) := by decide +kernel
theorem dX0_begin_20 : decode cX0_begin 20 = .ok (.aload_n 0, 1) := by decide +kernel
theorem dX0_begin_21 : decode cX0_begin 21 = .ok (.iconst 0, 1) := by decide +kernel
theorem dX0_begin_22 : decode cX0_begin 22 = .ok (.putfield 28, 3) := by decide +kernel
theorem dX0_begin_25 : decode cX0_begin 25 = .ok (.aload_n 0, 1) := by decide +kernel
theorem dX0_begin_26 : decode cX0_begin 26 = .ok (.iconst 0, 1) := by decide +kernel
theorem dX0_begin_27 : decode cX0_begin 27 = .ok (.putfield 31, 3) := by decide +kernel
theorem dX0_begin_30 : decode cX0_begin 30 = .ok (.return_, 1) := by decide +kernel
theorem dX0_become_0 : decode cX0_become 0 = .ok (.aload_n 0, 1) := by decide +kernel
theorem dX0_become_1 : decode cX0_become 1 = .ok (.aload_n 1, 1) := by decide +kernel
theorem dX0_become_2 : decode cX0_become 2 = .ok (.getfield 15, 3) := by decide +kernel
theorem dX0_become_5 : decode cX0_become 5 = .ok (.putfield 15, 3) := by decide +kernel
theorem dX0_become_8 : decode cX0_become 8 = .ok (.aload_n 0, 1) := by decide +kernel
theorem dX0_become_9 : decode cX0_become 9 = .ok (.aload_n 1, 1) := by decide +kernel
theorem dX0_become_10 : decode cX0_become 10 = .ok (.getfield 19, 3) := by decide +kernel
theorem dX0_become_13 : decode cX0_become 13 = .ok (.putfield 19, 3) := by decide +kernel
theorem dX0_become_16 : decode cX0_become 16 = .ok (.aload_n 0, 1) := by decide +kernel
theorem dX0_become_17 : decode cX0_become 17 = .ok (.aload_n 1, 1) := by decide +kernel
theorem dX0_become_18 : decode cX0_become 18 = .ok (.getfield 22, 3) := by decide +kernel
theorem dX0_become_21 : decode cX0_become 21 = .ok (.putfield 22, 3) := by decide +kernel
theorem dX0_become_24 : decode cX0_become 24 = .ok (.aload_n 0, 1) := by decide +kernel
theorem dX0_become_25 : decode cX0_become 25 = .ok (.aload_n 1, 1) := by decide +kernel
theorem dX0_become_26 : decode cX0_become 26 = .ok (.getfield 25, 3) := by decide +kernel
theorem dX0_become_29 : decode cX0_become 29 = .ok (.putfield 25, 3) := by decide +kernel
theorem dX0_become_32 : decode cX0_become 32 = .ok (.aload_n 0, 1) := by decide +kernel
theorem dX0_become_33 : decode cX0_become 33 = .ok (.aload_n 1, 1) := by decide +kernel
theorem dX0_become_34 : decode cX0_become 34 = .ok (.getfield 28, 3) := by decide +kernel
theorem dX0_become_37 : decode cX0_become 37 = .ok (.putfield 28, 3) := by decide +kernel
theorem dX0_become_40 : decode cX0_become 40 = .ok (.aload_n 1, 1) := by decide +kernel
theorem dX0_become_41 : decode cX0_become 41 = .ok (.getfield 11, 3) := by decide +kernel
theorem dX0_become_44 : decode cX0_become 44 = .ok (.iconst 0, 1) := by decide +kernel
theorem dX0_become_45 : decode cX0_become 45 = .ok (.aload_n 0, 1) := by decide +kernel
theorem dX0_become_46 : decode cX0_become 46 = .ok (.getfield 11, 3) := by decide +kernel
theorem dX0_become_49 : decode cX0_become 49 = .ok (.iconst 0, 1) := by decide +kernel
theorem dX0_become_50 : decode cX0_become 50 = .ok (.bipush 40, 2) := by decide +kernel
theorem dX0_become_52 : decode cX0_become 52 = .ok (.invokestatic 35, 3) := by decide +kernel
theorem dX0_become_55 : decode cX0_become 55 = .ok (.return_, 1) := by decide +kernel
set_option maxRecDepth 20000 in
theorem ggX0_remember_X6_put : GoodIn wsX0_remember wsX6_put := goodIn_r _ [13] (by decide +kernel) (by decide +kernel)
set_option maxRecDepth 20000 in
theorem gX0_remember_X6_put_n41 : GoodIn wsX0_remember (wsX6_put) := ggX0_remember_X6_put
theorem dX0_remember_0 : decode cX0_remember 0 = .ok (.aload_n 0, 1) := by decide +kernel
theorem dX0_remember_1 : decode cX0_remember 1 = .ok (.getfield 28, 3) := by decide +kernel
theorem dX0_remember_4 : decode cX0_remember 4 = .ok (.bipush 10, 2) := by decide +kernel
theorem dX0_remember_6 : decode cX0_remember 6 = .ok (.if_icmp .lt 24, 3) := by decide +kernel
theorem dX0_remember_9 : decode cX0_remember 9 = .ok (.aload_n 0, 1) := by decide +kernel
theorem dX0_remember_10 : decode cX0_remember 10 = .ok (.getfield 11, 3) := by decide +kernel
theorem dX0_remember_13 : decode cX0_remember 13 = .ok (.iconst 4, 1) := by decide +kernel
theorem dX0_remember_14 : decode cX0_remember 14 = .ok (.aload_n 0, 1) := by decide +kernel
theorem dX0_remember_15 : decode cX0_remember 15 = .ok (.getfield 11, 3) := by decide +kernel
theorem dX0_remember_18 : decode cX0_remember 18 = .ok (.iconst 0, 1) := by decide +kernel
theorem dX0_remember_19 : decode cX0_remember 19 = .ok (.bipush 36, 2) := by decide +kernel
theorem dX0_remember_21 : decode cX0_remember 21 = .ok (.invokestatic 35, 3) := by decide +kernel
theorem dX0_remember_24 : decode cX0_remember 24 = .ok (.aload_n 0, 1) := by decide +kernel
theorem dX0_remember_25 : decode cX0_remember 25 = .ok (.bipush 9, 2) := by decide +kernel
theorem dX0_remember_27 : decode cX0_remember 27 = .ok (.putfield 28, 3) := by decide +kernel
theorem dX0_remember_30 : decode cX0_remember 30 = .ok (.aload_n 0, 1) := by decide +kernel
theorem dX0_remember_31 : decode cX0_remember 31 = .ok (.getfield 28, 3) := by decide +kernel
theorem dX0_remember_34 : decode cX0_remember 34 = .ok (.iconst 4, 1) := by decide +kernel
theorem dX0_remember_35 : decode cX0_remember 35 = .ok (.imul, 1) := by decide +kernel
theorem dX0_remember_36 : decode cX0_remember 36 = .ok (.istore_n 1, 1) := by decide +kernel
theorem dX0_remember_37 : decode cX0_remember 37 = .ok (.aload_n 0, 1) := by decide +kernel
theorem dX0_remember_38 : decode cX0_remember 38 = .ok (.getfield 11, 3) := by decide +kernel
theorem dX0_remember_41 : decode cX0_remember 41 = .ok (.iload_n 1, 1) := by decide +kernel
theorem dX0_remember_42 : decode cX0_remember 42 = .ok (.aload_n 0, 1) := by decide +kernel
theorem dX0_remember_43 : decode cX0_remember 43 = .ok (.getfield 15, 3) := by decide +kernel
theorem dX0_remember_46 : decode cX0_remember 46 = .ok (.invokestatic 41, 3) := by decide +kernel
theorem dX0_remember_49 : decode cX0_remember 49 = .ok (.aload_n 0, 1) := by decide +kernel
theorem dX0_remember_50 : decode cX0_remember 50 = .ok (.getfield 11, 3) := by decide +kernel
theorem dX0_remember_53 : decode cX0_remember 53 = .ok (.iload_n 1, 1) := by decide +kernel
theorem dX0_remember_54 : decode cX0_remember 54 = .ok (.iconst 1, 1) := by decide +kernel
theorem dX0_remember_55 : decode cX0_remember 55 = .ok (.iadd, 1) := by decide +kernel
theorem dX0_remember_56 : decode cX0_remember 56 = .ok (.aload_n 0, 1) := by decide +kernel
theorem dX0_remember_57 : decode cX0_remember 57 = .ok (.getfield 19, 3) := by decide +kernel
theorem dX0_remember_60 : decode cX0_remember 60 = .ok (.invokestatic 41, 3) := by decide +kernel
theorem dX0_remember_63 : decode cX0_remember 63 = .ok (.aload_n 0, 1) := by decide +kernel
theorem dX0_remember_64 : decode cX0_remember 64 = .ok (.getfield 11, 3) := by decide +kernel
theorem dX0_remember_67 : decode cX0_remember 67 = .ok (.iload_n 1, 1) := by decide +kernel
theorem dX0_remember_68 : decode cX0_remember 68 = .ok (.iconst 2, 1) := by decide +kernel
theorem dX0_remember_69 : decode cX0_remember 69 = .ok (.iadd, 1) := by decide +kernel
theorem dX0_remember_70 : decode cX0_remember 70 = .ok (.aload_n 0, 1) := by decide +kernel
theorem dX0_remember_71 : decode cX0_remember 71 = .ok (.getfield 22, 3) := by decide +kernel
theorem dX0_remember_74 : decode cX0_remember 74 = .ok (.invokestatic 41, 3) := by decide +kernel
theorem dX0_remember_77 : decode cX0_remember 77 = .ok (.aload_n 0, 1) := by decide +kernel
theorem dX0_remember_78 : decode cX0_remember 78 = .ok (.getfield 11, 3) := by decide +kernel
theorem dX0_remember_81 : decode cX0_remember 81 = .ok (.iload_n 1, 1) := by decide +kernel
theorem dX0_remember_82 : decode cX0_remember 82 = .ok (.iconst 3, 1) := by decide +kernel
theorem dX0_remember_83 : decode cX0_remember 83 = .ok (.iadd, 1) := by decide +kernel
theorem dX0_remember_84 : decode cX0_remember 84 = .ok (.aload_n 0, 1) := by decide +kernel
theorem dX0_remember_85 : decode cX0_remember 85 = .ok (.getfield 25, 3) := by decide +kernel
theorem dX0_remember_88 : decode cX0_remember 88 = .ok (.invokestatic 41, 3) := by decide +kernel
theorem dX0_remember_91 : decode cX0_remember 91 = .ok (.aload_n 0, 1) := by decide +kernel
theorem dX0_remember_92 : decode cX0_remember 92 = .ok (.dup, 1) := by decide +kernel
theorem dX0_remember_93 : decode cX0_remember 93 = .ok (.getfield 28, 3) := by decide +kernel
theorem dX0_remember_96 : decode cX0_remember 96 = .ok (.iconst 1, 1) := by decide +kernel
theorem dX0_remember_97 : decode cX0_remember 97 = .ok (.iadd, 1) := by decide +kernel
theorem dX0_remember_98 : decode cX0_remember 98 = .ok (.putfield 28, 3) := by decide +kernel
theorem dX0_remember_101 : decode cX0_remember 101 = .ok (.return_, 1) := by decide +kernel
set_option maxRecDepth 20000 in
theorem ggX0_recall_X6_item : GoodIn wsX0_recall wsX6_item := goodIn_r _ [9] (by decide +kernel) (by decide +kernel)
set_option maxRecDepth 20000 in
theorem gX0_recall_X6_item_n45 : GoodIn wsX0_recall (wsX6_item) := ggX0_recall_X6_item
theorem dX0_recall_0 : decode cX0_recall 0 = .ok (.aload_n 0, 1) := by decide +kernel
theorem dX0_recall_1 : decode cX0_recall 1 = .ok (.getfield 28, 3) := by decide +kernel
theorem dX0_recall_4 : decode cX0_recall 4 = .ok (.ifCond .gt 5, 3) := by decide +kernel
theorem dX0_recall_7 : decode cX0_recall 7 = .ok (.iconst 0, 1) := by decide +kernel
theorem dX0_recall_8 : decode cX0_recall 8 = .ok (.ireturn, 1) := by decide +kernel
theorem dX0_recall_9 : decode cX0_recall 9 = .ok (.aload_n 0, 1) := by decide +kernel
theorem dX0_recall_10 : decode cX0_recall 10 = .ok (.dup, 1) := by decide +kernel
theorem dX0_recall_11 : decode cX0_recall 11 = .ok (.getfield 28, 3) := by decide +kernel
theorem dX0_recall_14 : decode cX0_recall 14 = .ok (.iconst 1, 1) := by decide +kernel
theorem dX0_recall_15 : decode cX0_recall 15 = .ok (.isub, 1) := by decide +kernel
theorem dX0_recall_16 : decode cX0_recall 16 = .ok (.putfield 28, 3) := by decide +kernel
theorem dX0_recall_19 : decode cX0_recall 19 = .ok (.aload_n 0, 1) := by decide +kernel
theorem dX0_recall_20 : decode cX0_recall 20 = .ok (.getfield 28, 3) := by decide +kernel
theorem dX0_recall_23 : decode cX0_recall 23 = .ok (.iconst 4, 1) := by decide +kernel
theorem dX0_recall_24 : decode cX0_recall 24 = .ok (.imul, 1) := by decide +kernel
theorem dX0_recall_25 : decode cX0_recall 25 = .ok (.istore_n 1, 1) := by decide +kernel
theorem dX0_recall_26 : decode cX0_recall 26 = .ok (.aload_n 0, 1) := by decide +kernel
theorem dX0_recall_27 : decode cX0_recall 27 = .ok (.aload_n 0, 1) := by decide +kernel
theorem dX0_recall_28 : decode cX0_recall 28 = .ok (.getfield 11, 3) := by decide +kernel
theorem dX0_recall_31 : decode cX0_recall 31 = .ok (.iload_n 1, 1) := by decide +kernel
theorem dX0_recall_32 : decode cX0_recall 32 = .ok (.invokestatic 45, 3) := by decide +kernel
theorem dX0_recall_35 : decode cX0_recall 35 = .ok (.putfield 15, 3) := by decide +kernel
theorem dX0_recall_38 : decode cX0_recall 38 = .ok (.aload_n 0, 1) := by decide +kernel
theorem dX0_recall_39 : decode cX0_recall 39 = .ok (.aload_n 0, 1) := by decide +kernel
theorem dX0_recall_40 : decode cX0_recall 40 = .ok (.getfield 11, 3) := by decide +kernel
theorem dX0_recall_43 : decode cX0_recall 43 = .ok (.iload_n 1, 1) := by decide +kernel
theorem dX0_recall_44 : decode cX0_recall 44 = .ok (.iconst 1, 1) := by decide +kernel
theorem dX0_recall_45 : decode cX0_recall 45 = .ok (.iadd, 1) := by decide +kernel
theorem dX0_recall_46 : decode cX0_recall 46 = .ok (.invokestatic 45, 3) := by decide +kernel
theorem dX0_recall_49 : decode cX0_recall 49 = .ok (.putfield 19, 3) := by decide +kernel
theorem dX0_recall_52 : decode cX0_recall 52 = .ok (.aload_n 0, 1) := by decide +kernel
theorem dX0_recall_53 : decode cX0_recall 53 = .ok (.aload_n 0, 1) := by decide +kernel
theorem dX0_recall_54 : decode cX0_recall 54 = .ok (.getfield 11, 3) := by decide +kernel
theorem dX0_recall_57 : decode cX0_recall 57 = .ok (.iload_n 1, 1) := by decide +kernel
theorem dX0_recall_58 : decode cX0_recall 58 = .ok (.iconst 2, 1) := by decide +kernel
theorem dX0_recall_59 : decode cX0_recall 59 = .ok (.iadd, 1) := by decide +kernel
theorem dX0_recall_60 : decode cX0_recall 60 = .ok (.invokestatic 45, 3) := by decide +kernel
theorem dX0_recall_63 : decode cX0_recall 63 = .ok (.putfield 22, 3) := by decide +kernel
theorem dX0_recall_66 : decode cX0_recall 66 = .ok (.aload_n 0, 1) := by decide +kernel
theorem dX0_recall_67 : decode cX0_recall 67 = .ok (.aload_n 0, 1) := by decide +kernel
theorem dX0_recall_68 : decode cX0_recall 68 = .ok (.getfield 11, 3) := by decide +kernel
theorem dX0_recall_71 : decode cX0_recall 71 = .ok (.iload_n 1, 1) := by decide +kernel
theorem dX0_recall_72 : decode cX0_recall 72 = .ok (.iconst 3, 1) := by decide +kernel
theorem dX0_recall_73 : decode cX0_recall 73 = .ok (.iadd, 1) := by decide +kernel
theorem dX0_recall_74 : decode cX0_recall 74 = .ok (.invokestatic 45, 3) := by decide +kernel
theorem dX0_recall_77 : decode cX0_recall 77 = .ok (.putfield 25, 3) := by decide +kernel
theorem dX0_recall_80 : decode cX0_recall 80 = .ok (.iconst 1, 1) := by decide +kernel
theorem dX0_recall_81 : decode cX0_recall 81 = .ok (.ireturn, 1) := by decide +kernel
theorem dX1_init_0 : decode cX1_init 0 = .ok (.aload_n 0, 1) := by decide +kernel
theorem dX1_init_1 : decode cX1_init 1 = .ok (.invokespecial 3, 3) := by decide +kernel
theorem dX1_init_4 : decode cX1_init 4 = .ok (.aload_n 0, 1) := by decide +kernel
theorem dX1_init_5 : decode cX1_init 5 = .ok (.bipush 120, 2) := by decide +kernel
theorem dX1_init_7 : decode cX1_init 7 = .ok (.newarray .int, 2) := by decide +kernel
theorem dX1_init_9 : decode cX1_init 9 = .ok (.putfield 9, 3) := by decide +kernel
theorem dX1_init_12 : decode cX1_init 12 = .ok (.return_, 1) := by decide +kernel
set_option maxRecDepth 20000 in
theorem ggX1_add_X6_put : GoodIn wsX1_add wsX6_put := goodIn_r _ [5] (by decide +kernel) (by decide +kernel)
set_option maxRecDepth 20000 in
theorem gX1_add_X6_put_n19 : GoodIn wsX1_add (wsX6_put) := ggX1_add_X6_put
theorem dX1_add_0 : decode cX1_add 0 = .ok (.aload_n 0, 1) := by decide +kernel
theorem dX1_add_1 : decode cX1_add 1 = .ok (.getfield 15, 3) := by decide +kernel
theorem dX1_add_4 : decode cX1_add 4 = .ok (.bipush 120, 2) := by decide +kernel
theorem dX1_add_6 : decode cX1_add 6 = .ok (.if_icmp .lt 5, 3) := by decide +kernel
theorem dX1_add_9 : decode cX1_add 9 = .ok (.iconst 0, 1) := by decide +kernel
theorem dX1_add_10 : decode cX1_add 10 = .ok (.ireturn, 1) := by decide +kernel
theorem dX1_add_11 : decode cX1_add 11 = .ok (.aload_n 0, 1) := by decide +kernel
theorem dX1_add_12 : decode cX1_add 12 = .ok (.getfield 9, 3) := by decide +kernel
theorem dX1_add_15 : decode cX1_add 15 = .ok (.aload_n 0, 1) := by decide +kernel
theorem dX1_add_16 : decode cX1_add 16 = .ok (.getfield 15, 3) := by decide +kernel
theorem dX1_add_19 : decode cX1_add 19 = .ok (.iload_n 1, 1) := by decide +kernel
theorem dX1_add_20 : decode cX1_add 20 = .ok (.invokestatic 19, 3) := by decide +kernel
theorem dX1_add_23 : decode cX1_add 23 = .ok (.aload_n 0, 1) := by decide +kernel
theorem dX1_add_24 : decode cX1_add 24 = .ok (.dup, 1) := by decide +kernel
theorem dX1_add_25 : decode cX1_add 25 = .ok (.getfield 15, 3) := by decide +kernel
theorem dX1_add_28 : decode cX1_add 28 = .ok (.iconst 1, 1) := by decide +kernel
theorem dX1_add_29 : decode cX1_add 29 = .ok (.iadd, 1) := by decide +kernel
theorem dX1_add_30 : decode cX1_add 30 = .ok (.putfield 15, 3) := by decide +kernel
theorem dX1_add_33 : decode cX1_add 33 = .ok (.iconst 1, 1) := by decide +kernel
theorem dX1_add_34 : decode cX1_add 34 = .ok (.ireturn, 1) := by decide +kernel
set_option maxRecDepth 20000 in
theorem ggX1_read_X4_begin : GoodIn wsX1_read wsX4_begin := goodIn_r _ [8, 9, 10, 11, 12, 13, 14, 15, 16, 17, 95, 96, 97, 98, 99, 100] (by decide +kernel) (by decide +kernel)
set_option maxRecDepth 20000 in
theorem gX1_read_X4_begin : GoodIn wsX1_read (wsV RX1 23 RX4 yX4_begin wsX4_begin) := goodIn_app (goodIn_of _ (by decide +kernel)) ggX1_read_X4_begin
set_option maxRecDepth 20000 in
theorem ggX1_read_X1_next : GoodIn wsX1_read wsX1_next := goodIn_r _ [22, 1, 23, 24, 25, 2, 26, 27, 28, 29, 30, 21, 31, 32, 33, 34, 35, 3, 36, 37, 38, 39, 40, 41, 42, 43, 44, 45, 46, 89, 90, 91, 92, 93, 94] (by decide +kernel) (by decide +kernel)
set_option maxRecDepth 20000 in
theorem gX1_read_X1_next : GoodIn wsX1_read (wsV RX1 31 RX1 yX1_next wsX1_next) := goodIn_app (goodIn_of _ (by decide +kernel)) ggX1_read_X1_next
set_option maxRecDepth 20000 in
theorem ggX1_read_X1_readKeeper : GoodIn wsX1_read wsX1_readKeeper := goodIn_r _ [50, 51, 3, 52, 53, 54, 21, 55, 2, 18, 19, 20, 22, 1, 23, 24, 25, 26, 27, 28, 29, 30, 31, 32, 33, 34, 35, 36, 37, 38, 39, 40, 41, 42, 43, 44, 45, 46, 56, 57, 58, 7, 59, 60, 9, 61, 62, 63, 64, 65, 66, 95, 96, 97, 98, 99, 100, 89, 90, 91, 92, 93, 94] (by decide +kernel) (by decide +kernel)
set_option maxRecDepth 20000 in
theorem gX1_read_X1_readKeeper : GoodIn wsX1_read (wsV RX1 40 RX1 yX1_readKeeper wsX1_readKeeper) := goodIn_app (goodIn_of _ (by decide +kernel)) ggX1_read_X1_readKeeper
set_option maxRecDepth 20000 in
theorem ggX1_read_X1_readHate : GoodIn wsX1_read wsX1_readHate := goodIn_r _ [70, 71, 51, 3, 52, 53, 54, 21, 55, 2, 18, 19, 20, 22, 1, 23, 24, 25, 26, 27, 28, 29, 30, 31, 32, 33, 34, 35, 36, 37, 38, 39, 40, 41, 42, 43, 44, 45, 46, 72, 73, 74, 7, 75, 13, 10, 76, 77, 78, 79, 61, 62, 63, 64, 65, 66, 95, 96, 97, 98, 99, 100, 89, 90, 91, 92, 93, 94] (by decide +kernel) (by decide +kernel)
set_option maxRecDepth 20000 in
theorem gX1_read_X1_readHate : GoodIn wsX1_read (wsV RX1 44 RX1 yX1_readHate wsX1_readHate) := goodIn_app (goodIn_of _ (by decide +kernel)) ggX1_read_X1_readHate
set_option maxRecDepth 20000 in
theorem ggX1_read_X1_readSight : GoodIn wsX1_read wsX1_readSight := goodIn_r _ [83, 84, 3, 52, 53, 54, 21, 55, 2, 18, 19, 20, 22, 1, 23, 24, 25, 26, 27, 28, 29, 30, 31, 32, 33, 34, 35, 36, 37, 38, 39, 40, 41, 42, 43, 44, 45, 46, 85, 86, 87, 7, 88, 11, 12, 63, 64, 65, 66, 95, 96, 97, 98, 99, 100, 89, 90, 91, 92, 93, 94] (by decide +kernel) (by decide +kernel)
set_option maxRecDepth 20000 in
theorem gX1_read_X1_readSight : GoodIn wsX1_read (wsV RX1 47 RX1 yX1_readSight wsX1_readSight) := goodIn_app (goodIn_of _ (by decide +kernel)) ggX1_read_X1_readSight
theorem dX1_read_0 : decode cX1_read 0 = .ok (.aload_n 1, 1) := by decide +kernel
theorem dX1_read_1 : decode cX1_read 1 = .ok (.invokevirtual 23, 3) := by decide +kernel
theorem dX1_read_4 : decode cX1_read 4 = .ok (.aload_n 0, 1) := by decide +kernel
theorem dX1_read_5 : decode cX1_read 5 = .ok (.iconst 0, 1) := by decide +kernel
theorem dX1_read_6 : decode cX1_read 6 = .ok (.putfield 28, 3) := by decide +kernel
theorem dX1_read_9 : decode cX1_read 9 = .ok (.iconst 0, 1) := by decide +kernel
theorem dX1_read_10 : decode cX1_read 10 = .ok (.istore_n 2, 1) := by decide +kernel
theorem dX1_read_11 : decode cX1_read 11 = .ok (.iload_n 2, 1) := by decide +kernel
theorem dX1_read_12 : decode cX1_read 12 = .ok (.bipush 120, 2) := by decide +kernel
theorem dX1_read_14 : decode cX1_read 14 = .ok (.if_icmp .gt 100, 3) := by decide +kernel
theorem dX1_read_17 : decode cX1_read 17 = .ok (.aload_n 0, 1) := by decide +kernel
theorem dX1_read_18 : decode cX1_read 18 = .ok (.invokevirtual 31, 3) := by decide +kernel
theorem dX1_read_21 : decode cX1_read 21 = .ok (.aload_n 0, 1) := by decide +kernel
theorem dX1_read_22 : decode cX1_read 22 = .ok (.getfield 34, 3) := by decide +kernel
theorem dX1_read_25 : decode cX1_read 25 = .ok (.ifCond .ne 5, 3) := by decide +kernel
theorem dX1_read_28 : decode cX1_read 28 = .ok (.iload_n 2, 1) := by decide +kernel
theorem dX1_read_29 : decode cX1_read 29 = .ok (.ireturn, 1) := by decide +kernel
theorem dX1_read_30 : decode cX1_read 30 = .ok (.aload_n 0, 1) := by decide +kernel
theorem dX1_read_31 : decode cX1_read 31 = .ok (.getfield 34, 3) := by decide +kernel
theorem dX1_read_34 : decode cX1_read 34 = .ok (.iconst 1, 1) := by decide +kernel
theorem dX1_read_35 : decode cX1_read 35 = .ok (.if_icmp .ne 64, 3) := by decide +kernel
theorem dX1_read_38 : decode cX1_read 38 = .ok (.aload_n 0, 1) := by decide +kernel
theorem dX1_read_39 : decode cX1_read 39 = .ok (.getfield 37, 3) := by decide +kernel
theorem dX1_read_42 : decode cX1_read 42 = .ok (.bipush 107, 2) := by decide +kernel
theorem dX1_read_44 : decode cX1_read 44 = .ok (.if_icmp .ne 14, 3) := by decide +kernel
theorem dX1_read_47 : decode cX1_read 47 = .ok (.aload_n 0, 1) := by decide +kernel
theorem dX1_read_48 : decode cX1_read 48 = .ok (.aload_n 1, 1) := by decide +kernel
theorem dX1_read_49 : decode cX1_read 49 = .ok (.invokevirtual 40, 3) := by decide +kernel
theorem dX1_read_52 : decode cX1_read 52 = .ok (.ifCond .eq 47, 3) := by decide +kernel
theorem dX1_read_55 : decode cX1_read 55 = .ok (.goto 40, 3) := by decide +kernel
theorem dX1_read_58 : decode cX1_read 58 = .ok (.aload_n 0, 1) := by decide +kernel
theorem dX1_read_59 : decode cX1_read 59 = .ok (.getfield 37, 3) := by decide +kernel
theorem dX1_read_62 : decode cX1_read 62 = .ok (.bipush 104, 2) := by decide +kernel
theorem dX1_read_64 : decode cX1_read 64 = .ok (.if_icmp .ne 14, 3) := by decide +kernel
theorem dX1_read_67 : decode cX1_read 67 = .ok (.aload_n 0, 1) := by decide +kernel
theorem dX1_read_68 : decode cX1_read 68 = .ok (.aload_n 1, 1) := by decide +kernel
theorem dX1_read_69 : decode cX1_read 69 = .ok (.invokevirtual 44, 3) := by decide +kernel
theorem dX1_read_72 : decode cX1_read 72 = .ok (.ifCond .eq 27, 3) := by decide +kernel
theorem dX1_read_75 : decode cX1_read 75 = .ok (.goto 20, 3) := by decide +kernel
theorem dX1_read_78 : decode cX1_read 78 = .ok (.aload_n 0, 1) := by decide +kernel
theorem dX1_read_79 : decode cX1_read 79 = .ok (.getfield 37, 3) := by decide +kernel
theorem dX1_read_82 : decode cX1_read 82 = .ok (.bipush 115, 2) := by decide +kernel
theorem dX1_read_84 : decode cX1_read 84 = .ok (.if_icmp .ne 15, 3) := by decide +kernel
theorem dX1_read_87 : decode cX1_read 87 = .ok (.aload_n 0, 1) := by decide +kernel
theorem dX1_read_88 : decode cX1_read 88 = .ok (.aload_n 1, 1) := by decide +kernel
theorem dX1_read_89 : decode cX1_read 89 = .ok (.invokevirtual 47, 3) := by decide +kernel
theorem dX1_read_92 : decode cX1_read 92 = .ok (.ifCond .eq 7, 3) := by decide +kernel
theorem dX1_read_95 : decode cX1_read 95 = .ok (.iconst 1, 1) := by decide +kernel
theorem dX1_read_96 : decode cX1_read 96 = .ok (.goto 4, 3) := by decide +kernel
theorem dX1_read_99 : decode cX1_read 99 = .ok (.iconst 0, 1) := by decide +kernel
theorem dX1_read_100 : decode cX1_read 100 = .ok (.istore_n 3, 1) := by decide +kernel
theorem dX1_read_101 : decode cX1_read 101 = .ok (.iload_n 3, 1) := by decide +kernel
theorem dX1_read_102 : decode cX1_read 102 = .ok (.ifCond .ne 6, 3) := by decide +kernel
theorem dX1_read_105 : decode cX1_read 105 = .ok (.bipush (-9), 2) := by decide +kernel
theorem dX1_read_107 : decode cX1_read 107 = .ok (.ireturn, 1) := by decide +kernel
theorem dX1_read_108 : decode cX1_read 108 = .ok (.iinc 2 1, 3) := by decide +kernel
theorem dX1_read_111 : decode cX1_read 111 = .ok (.goto (-100), 3) := by decide +kernel
theorem dX1_read_114 : decode cX1_read 114 = .ok (.bipush (-9), 2) := by decide +kernel
theorem dX1_read_116 : decode cX1_read 116 = .ok (.ireturn, 1) := by decide +kernel
set_option maxRecDepth 20000 in
theorem ggX1_readKeeper_X1_readNumber : GoodIn wsX1_readKeeper wsX1_readNumber := goodIn_r _ [7, 8, 2, 9, 10, 11, 6, 12, 13, 14, 15, 16, 17, 18, 19, 20, 21, 22, 23, 24, 25, 26, 27, 28, 29, 30, 31, 32, 33, 34, 35, 36, 37, 57, 58, 59, 60, 61, 62] (by decide +kernel) (by decide +kernel)
set_option maxRecDepth 20000 in
theorem gX1_readKeeper_X1_readNumber : GoodIn wsX1_readKeeper (wsV RX1 53 RX1 yX1_readNumber wsX1_readNumber) := goodIn_app (goodIn_of _ (by decide +kernel)) ggX1_readKeeper_X1_readNumber
set_option maxRecDepth 20000 in
theorem ggX1_readKeeper_X4_addKeeper : GoodIn wsX1_readKeeper wsX4_addKeeper := goodIn_r _ [42, 43, 44, 45, 18, 46, 51, 52, 53, 54, 55, 56] (by decide +kernel) (by decide +kernel)
set_option maxRecDepth 20000 in
theorem gX1_readKeeper_X4_addKeeper : GoodIn wsX1_readKeeper (wsV RX1 57 RX4 yX4_addKeeper wsX4_addKeeper) := goodIn_app (goodIn_of _ (by decide +kernel)) ggX1_readKeeper_X4_addKeeper
set_option maxRecDepth 20000 in
theorem ggX1_readKeeper_X1_readSemicolon : GoodIn wsX1_readKeeper wsX1_readSemicolon := goodIn_r _ [50, 8, 9, 10, 11, 6, 12, 13, 14, 15, 16, 17, 18, 19, 20, 21, 22, 23, 24, 25, 26, 2, 27, 28, 29, 30, 31, 32, 33, 34, 35, 36, 37, 57, 58, 59, 60, 61, 62] (by decide +kernel) (by decide +kernel)
set_option maxRecDepth 20000 in
theorem gX1_readKeeper_X1_readSemicolon : GoodIn wsX1_readKeeper (wsV RX1 61 RX1 yX1_readSemicolon wsX1_readSemicolon) := goodIn_app (goodIn_of _ (by decide +kernel)) ggX1_readKeeper_X1_readSemicolon
theorem dX1_readKeeper_0 : decode cX1_readKeeper 0 = .ok (.aload_n 1, 1) := by decide +kernel
theorem dX1_readKeeper_1 : decode cX1_readKeeper 1 = .ok (.getfield 50, 3) := by decide +kernel
theorem dX1_readKeeper_4 : decode cX1_readKeeper 4 = .ok (.bipush 6, 2) := by decide +kernel
theorem dX1_readKeeper_6 : decode cX1_readKeeper 6 = .ok (.if_icmp .ge 13, 3) := by decide +kernel
theorem dX1_readKeeper_9 : decode cX1_readKeeper 9 = .ok (.aload_n 0, 1) := by decide +kernel
theorem dX1_readKeeper_10 : decode cX1_readKeeper 10 = .ok (.iconst 1, 1) := by decide +kernel
theorem dX1_readKeeper_11 : decode cX1_readKeeper 11 = .ok (.bipush 9, 2) := by decide +kernel
theorem dX1_readKeeper_13 : decode cX1_readKeeper 13 = .ok (.invokevirtual 53, 3) := by decide +kernel
theorem dX1_readKeeper_16 : decode cX1_readKeeper 16 = .ok (.ifCond .ne 5, 3) := by decide +kernel
theorem dX1_readKeeper_19 : decode cX1_readKeeper 19 = .ok (.iconst 0, 1) := by decide +kernel
theorem dX1_readKeeper_20 : decode cX1_readKeeper 20 = .ok (.ireturn, 1) := by decide +kernel
theorem dX1_readKeeper_21 : decode cX1_readKeeper 21 = .ok (.aload_n 1, 1) := by decide +kernel
theorem dX1_readKeeper_22 : decode cX1_readKeeper 22 = .ok (.aload_n 0, 1) := by decide +kernel
theorem dX1_readKeeper_23 : decode cX1_readKeeper 23 = .ok (.getfield 37, 3) := by decide +kernel
theorem dX1_readKeeper_26 : decode cX1_readKeeper 26 = .ok (.invokevirtual 57, 3) := by decide +kernel
theorem dX1_readKeeper_29 : decode cX1_readKeeper 29 = .ok (.aload_n 0, 1) := by decide +kernel
theorem dX1_readKeeper_30 : decode cX1_readKeeper 30 = .ok (.invokevirtual 61, 3) := by decide +kernel
theorem dX1_readKeeper_33 : decode cX1_readKeeper 33 = .ok (.ireturn, 1) := by decide +kernel
set_option maxRecDepth 20000 in
theorem ggX1_readHate_X1_readNumber : GoodIn wsX1_readHate wsX1_readNumber := goodIn_r _ [8, 9, 3, 10, 11, 12, 7, 13, 14, 15, 16, 17, 18, 19, 20, 21, 22, 23, 24, 25, 26, 27, 28, 29, 30, 31, 32, 33, 34, 35, 36, 37, 38, 62, 63, 64, 65, 66, 67] (by decide +kernel) (by decide +kernel)
set_option maxRecDepth 20000 in
theorem gX1_readHate_X1_readNumber : GoodIn wsX1_readHate (wsV RX1 53 RX1 yX1_readNumber wsX1_readNumber) := goodIn_app (goodIn_of _ (by decide +kernel)) ggX1_readHate_X1_readNumber
set_option maxRecDepth 20000 in
theorem ggX1_readHate_X4_addHate : GoodIn wsX1_readHate wsX4_addHate := goodIn_r _ [43, 44, 45, 46, 47, 48, 42, 49, 50, 19, 51, 56, 57, 58, 59, 60, 61] (by decide +kernel) (by decide +kernel)
set_option maxRecDepth 20000 in
theorem gX1_readHate_X4_addHate : GoodIn wsX1_readHate (wsV RX1 68 RX4 yX4_addHate wsX4_addHate) := goodIn_app (goodIn_of _ (by decide +kernel)) ggX1_readHate_X4_addHate
set_option maxRecDepth 20000 in
theorem ggX1_readHate_X1_readSemicolon : GoodIn wsX1_readHate wsX1_readSemicolon := goodIn_r _ [55, 9, 10, 11, 12, 7, 13, 14, 15, 16, 17, 18, 19, 20, 21, 22, 23, 24, 25, 26, 27, 3, 28, 29, 30, 31, 32, 33, 34, 35, 36, 37, 38, 62, 63, 64, 65, 66, 67] (by decide +kernel) (by decide +kernel)
set_option maxRecDepth 20000 in
theorem gX1_readHate_X1_readSemicolon : GoodIn wsX1_readHate (wsV RX1 61 RX1 yX1_readSemicolon wsX1_readSemicolon) := goodIn_app (goodIn_of _ (by decide +kernel)) ggX1_readHate_X1_readSemicolon
theorem dX1_readHate_0 : decode cX1_readHate 0 = .ok (.aload_n 1, 1) := by decide +kernel
theorem dX1_readHate_1 : decode cX1_readHate 1 = .ok (.getfield 65, 3) := by decide +kernel
theorem dX1_readHate_4 : decode cX1_readHate 4 = .ok (.bipush 8, 2) := by decide +kernel
theorem dX1_readHate_6 : decode cX1_readHate 6 = .ok (.if_icmp .ge 17, 3) := by decide +kernel
theorem dX1_readHate_9 : decode cX1_readHate 9 = .ok (.aload_n 0, 1) := by decide +kernel
theorem dX1_readHate_10 : decode cX1_readHate 10 = .ok (.iconst 0, 1) := by decide +kernel
theorem dX1_readHate_11 : decode cX1_readHate 11 = .ok (.aload_n 1, 1) := by decide +kernel
theorem dX1_readHate_12 : decode cX1_readHate 12 = .ok (.getfield 50, 3) := by decide +kernel
theorem dX1_readHate_15 : decode cX1_readHate 15 = .ok (.iconst 1, 1) := by decide +kernel
theorem dX1_readHate_16 : decode cX1_readHate 16 = .ok (.isub, 1) := by decide +kernel
theorem dX1_readHate_17 : decode cX1_readHate 17 = .ok (.invokevirtual 53, 3) := by decide +kernel
theorem dX1_readHate_20 : decode cX1_readHate 20 = .ok (.ifCond .ne 5, 3) := by decide +kernel
theorem dX1_readHate_23 : decode cX1_readHate 23 = .ok (.iconst 0, 1) := by decide +kernel
theorem dX1_readHate_24 : decode cX1_readHate 24 = .ok (.ireturn, 1) := by decide +kernel
theorem dX1_readHate_25 : decode cX1_readHate 25 = .ok (.aload_n 0, 1) := by decide +kernel
theorem dX1_readHate_26 : decode cX1_readHate 26 = .ok (.getfield 37, 3) := by decide +kernel
theorem dX1_readHate_29 : decode cX1_readHate 29 = .ok (.istore_n 2, 1) := by decide +kernel
theorem dX1_readHate_30 : decode cX1_readHate 30 = .ok (.aload_n 0, 1) := by decide +kernel
theorem dX1_readHate_31 : decode cX1_readHate 31 = .ok (.iconst 0, 1) := by decide +kernel
theorem dX1_readHate_32 : decode cX1_readHate 32 = .ok (.aload_n 1, 1) := by decide +kernel
theorem dX1_readHate_33 : decode cX1_readHate 33 = .ok (.getfield 50, 3) := by decide +kernel
theorem dX1_readHate_36 : decode cX1_readHate 36 = .ok (.iconst 1, 1) := by decide +kernel
theorem dX1_readHate_37 : decode cX1_readHate 37 = .ok (.isub, 1) := by decide +kernel
theorem dX1_readHate_38 : decode cX1_readHate 38 = .ok (.invokevirtual 53, 3) := by decide +kernel
theorem dX1_readHate_41 : decode cX1_readHate 41 = .ok (.ifCond .eq 11, 3) := by decide +kernel
theorem dX1_readHate_44 : decode cX1_readHate 44 = .ok (.aload_n 0, 1) := by decide +kernel
theorem dX1_readHate_45 : decode cX1_readHate 45 = .ok (.getfield 37, 3) := by decide +kernel
theorem dX1_readHate_48 : decode cX1_readHate 48 = .ok (.iload_n 2, 1) := by decide +kernel
theorem dX1_readHate_49 : decode cX1_readHate 49 = .ok (.if_icmp .ne 5, 3) := by decide +kernel
theorem dX1_readHate_52 : decode cX1_readHate 52 = .ok (.iconst 0, 1) := by decide +kernel
theorem dX1_readHate_53 : decode cX1_readHate 53 = .ok (.ireturn, 1) := by decide +kernel
theorem dX1_readHate_54 : decode cX1_readHate 54 = .ok (.aload_n 1, 1) := by decide +kernel
theorem dX1_readHate_55 : decode cX1_readHate 55 = .ok (.iload_n 2, 1) := by decide +kernel
theorem dX1_readHate_56 : decode cX1_readHate 56 = .ok (.aload_n 0, 1) := by decide +kernel
theorem dX1_readHate_57 : decode cX1_readHate 57 = .ok (.getfield 37, 3) := by decide +kernel
theorem dX1_readHate_60 : decode cX1_readHate 60 = .ok (.invokevirtual 68, 3) := by decide +kernel
theorem dX1_readHate_63 : decode cX1_readHate 63 = .ok (.aload_n 0, 1) := by decide +kernel
theorem dX1_readHate_64 : decode cX1_readHate 64 = .ok (.invokevirtual 61, 3) := by decide +kernel
theorem dX1_readHate_67 : decode cX1_readHate 67 = .ok (.ireturn, 1) := by decide +kernel
set_option maxRecDepth 20000 in
theorem ggX1_readSight_X1_readNumber : GoodIn wsX1_readSight wsX1_readNumber := goodIn_r _ [7, 8, 2, 9, 10, 11, 6, 12, 13, 14, 15, 16, 17, 18, 19, 20, 21, 22, 23, 24, 25, 26, 27, 28, 29, 30, 31, 32, 33, 34, 35, 36, 37, 55, 56, 57, 58, 59, 60] (by decide +kernel) (by decide +kernel)
set_option maxRecDepth 20000 in
theorem gX1_readSight_X1_readNumber : GoodIn wsX1_readSight (wsV RX1 53 RX1 yX1_readNumber wsX1_readNumber) := goodIn_app (goodIn_of _ (by decide +kernel)) ggX1_readSight_X1_readNumber
set_option maxRecDepth 20000 in
theorem ggX1_readSight_X4_tellSight : GoodIn wsX1_readSight wsX4_tellSight := goodIn_r _ [42, 43, 44, 49, 50, 51, 52, 53, 54] (by decide +kernel) (by decide +kernel)
set_option maxRecDepth 20000 in
theorem gX1_readSight_X4_tellSight : GoodIn wsX1_readSight (wsV RX1 76 RX4 yX4_tellSight wsX4_tellSight) := goodIn_app (goodIn_of _ (by decide +kernel)) ggX1_readSight_X4_tellSight
set_option maxRecDepth 20000 in
theorem ggX1_readSight_X1_readSemicolon : GoodIn wsX1_readSight wsX1_readSemicolon := goodIn_r _ [48, 8, 9, 10, 11, 6, 12, 13, 14, 15, 16, 17, 18, 19, 20, 21, 22, 23, 24, 25, 26, 2, 27, 28, 29, 30, 31, 32, 33, 34, 35, 36, 37, 55, 56, 57, 58, 59, 60] (by decide +kernel) (by decide +kernel)
set_option maxRecDepth 20000 in
theorem gX1_readSight_X1_readSemicolon : GoodIn wsX1_readSight (wsV RX1 61 RX1 yX1_readSemicolon wsX1_readSemicolon) := goodIn_app (goodIn_of _ (by decide +kernel)) ggX1_readSight_X1_readSemicolon
theorem dX1_readSight_0 : decode cX1_readSight 0 = .ok (.aload_n 1, 1) := by decide +kernel
theorem dX1_readSight_1 : decode cX1_readSight 1 = .ok (.getfield 72, 3) := by decide +kernel
theorem dX1_readSight_4 : decode cX1_readSight 4 = .ok (.ifCond .ne 12, 3) := by decide +kernel
theorem dX1_readSight_7 : decode cX1_readSight 7 = .ok (.aload_n 0, 1) := by decide +kernel
theorem dX1_readSight_8 : decode cX1_readSight 8 = .ok (.iconst 0, 1) := by decide +kernel
theorem dX1_readSight_9 : decode cX1_readSight 9 = .ok (.iconst 5, 1) := by decide +kernel
theorem dX1_readSight_10 : decode cX1_readSight 10 = .ok (.invokevirtual 53, 3) := by decide +kernel
theorem dX1_readSight_13 : decode cX1_readSight 13 = .ok (.ifCond .ne 5, 3) := by decide +kernel
theorem dX1_readSight_16 : decode cX1_readSight 16 = .ok (.iconst 0, 1) := by decide +kernel
theorem dX1_readSight_17 : decode cX1_readSight 17 = .ok (.ireturn, 1) := by decide +kernel
theorem dX1_readSight_18 : decode cX1_readSight 18 = .ok (.aload_n 1, 1) := by decide +kernel
theorem dX1_readSight_19 : decode cX1_readSight 19 = .ok (.aload_n 0, 1) := by decide +kernel
theorem dX1_readSight_20 : decode cX1_readSight 20 = .ok (.getfield 37, 3) := by decide +kernel
theorem dX1_readSight_23 : decode cX1_readSight 23 = .ok (.invokevirtual 76, 3) := by decide +kernel
theorem dX1_readSight_26 : decode cX1_readSight 26 = .ok (.aload_n 0, 1) := by decide +kernel
theorem dX1_readSight_27 : decode cX1_readSight 27 = .ok (.invokevirtual 61, 3) := by decide +kernel
theorem dX1_readSight_30 : decode cX1_readSight 30 = .ok (.ireturn, 1) := by decide +kernel
set_option maxRecDepth 20000 in
theorem ggX1_readNumber_X1_next : GoodIn wsX1_readNumber wsX1_next := goodIn_r _ [7, 8, 9, 10, 11, 1, 12, 13, 14, 15, 16, 6, 17, 18, 19, 20, 21, 2, 22, 23, 24, 25, 26, 27, 28, 29, 30, 31, 32, 33, 34, 35, 36, 37, 38] (by decide +kernel) (by decide +kernel)
set_option maxRecDepth 20000 in
theorem gX1_readNumber_X1_next : GoodIn wsX1_readNumber (wsV RX1 31 RX1 yX1_next wsX1_next) := goodIn_app (goodIn_of _ (by decide +kernel)) ggX1_readNumber_X1_next
theorem dX1_readNumber_0 : decode cX1_readNumber 0 = .ok (.aload_n 0, 1) := by decide +kernel
theorem dX1_readNumber_1 : decode cX1_readNumber 1 = .ok (.invokevirtual 31, 3) := by decide +kernel
theorem dX1_readNumber_4 : decode cX1_readNumber 4 = .ok (.aload_n 0, 1) := by decide +kernel
theorem dX1_readNumber_5 : decode cX1_readNumber 5 = .ok (.getfield 34, 3) := by decide +kernel
theorem dX1_readNumber_8 : decode cX1_readNumber 8 = .ok (.iconst 2, 1) := by decide +kernel
theorem dX1_readNumber_9 : decode cX1_readNumber 9 = .ok (.if_icmp .ne 23, 3) := by decide +kernel
theorem dX1_readNumber_12 : decode cX1_readNumber 12 = .ok (.aload_n 0, 1) := by decide +kernel
theorem dX1_readNumber_13 : decode cX1_readNumber 13 = .ok (.getfield 37, 3) := by decide +kernel
theorem dX1_readNumber_16 : decode cX1_readNumber 16 = .ok (.iload_n 1, 1) := by decide +kernel
theorem dX1_readNumber_17 : decode cX1_readNumber 17 = .ok (.if_icmp .lt 15, 3) := by decide +kernel
theorem dX1_readNumber_20 : decode cX1_readNumber 20 = .ok (.aload_n 0, 1) := by decide +kernel
theorem dX1_readNumber_21 : decode cX1_readNumber 21 = .ok (.getfield 37, 3) := by decide +kernel
theorem dX1_readNumber_24 : decode cX1_readNumber 24 = .ok (.iload_n 2, 1) := by decide +kernel
theorem dX1_readNumber_25 : decode cX1_readNumber 25 = .ok (.if_icmp .gt 7, 3) := by decide +kernel
theorem dX1_readNumber_28 : decode cX1_readNumber 28 = .ok (.iconst 1, 1) := by decide +kernel
theorem dX1_readNumber_29 : decode cX1_readNumber 29 = .ok (.goto 4, 3) := by decide +kernel
theorem dX1_readNumber_32 : decode cX1_readNumber 32 = .ok (.iconst 0, 1) := by decide +kernel
theorem dX1_readNumber_33 : decode cX1_readNumber 33 = .ok (.ireturn, 1) := by decide +kernel
set_option maxRecDepth 20000 in
theorem ggX1_readSemicolon_X1_next : GoodIn wsX1_readSemicolon wsX1_next := goodIn_r _ [6, 7, 8, 9, 10, 1, 11, 12, 13, 14, 15, 5, 16, 17, 18, 19, 20, 21, 22, 23, 24, 25, 26, 27, 28, 29, 30, 31, 32, 33, 34, 35, 36, 37, 38] (by decide +kernel) (by decide +kernel)
set_option maxRecDepth 20000 in
theorem gX1_readSemicolon_X1_next : GoodIn wsX1_readSemicolon (wsV RX1 31 RX1 yX1_next wsX1_next) := goodIn_app (goodIn_of _ (by decide +kernel)) ggX1_readSemicolon_X1_next
theorem dX1_readSemicolon_0 : decode cX1_readSemicolon 0 = .ok (.aload_n 0, 1) := by decide +kernel
theorem dX1_readSemicolon_1 : decode cX1_readSemicolon 1 = .ok (.invokevirtual 31, 3) := by decide +kernel
theorem dX1_readSemicolon_4 : decode cX1_readSemicolon 4 = .ok (.aload_n 0, 1) := by decide +kernel
theorem dX1_readSemicolon_5 : decode cX1_readSemicolon 5 = .ok (.getfield 34, 3) := by decide +kernel
theorem dX1_readSemicolon_8 : decode cX1_readSemicolon 8 = .ok (.iconst 3, 1) := by decide +kernel
theorem dX1_readSemicolon_9 : decode cX1_readSemicolon 9 = .ok (.if_icmp .ne 7, 3) := by decide +kernel
theorem dX1_readSemicolon_12 : decode cX1_readSemicolon 12 = .ok (.iconst 1, 1) := by decide +kernel
theorem dX1_readSemicolon_13 : decode cX1_readSemicolon 13 = .ok (.goto 4, 3) := by decide +kernel
theorem dX1_readSemicolon_16 : decode cX1_readSemicolon 16 = .ok (.iconst 0, 1) := by decide +kernel
theorem dX1_readSemicolon_17 : decode cX1_readSemicolon 17 = .ok (.ireturn, 1) := by decide +kernel
set_option maxRecDepth 20000 in
theorem ggX1_next_X6_item : GoodIn wsX1_next wsX6_item := goodIn_r _ [8] (by decide +kernel) (by decide +kernel)
set_option maxRecDepth 20000 in
theorem gX1_next_X6_item_n82 : GoodIn wsX1_next (wsX6_item) := ggX1_next_X6_item
set_option maxRecDepth 20000 in
theorem ggX1_next_X1_isLetter : GoodIn wsX1_next wsX1_isLetter := goodIn_r _ [12] (by decide +kernel) (by decide +kernel)
set_option maxRecDepth 20000 in
theorem gX1_next_X1_isLetter : GoodIn wsX1_next (va_wsS RX1 86 yX1_isLetter wsX1_isLetter) := goodIn_app (goodIn_of _ (by decide +kernel)) ggX1_next_X1_isLetter
set_option maxRecDepth 20000 in
theorem ggX1_next_X1_nextLetters : GoodIn wsX1_next wsX1_nextLetters := goodIn_r _ [16, 1, 3, 4, 2, 5, 17, 6, 7, 8, 9, 10, 11, 12, 29, 30, 31, 32, 33, 34] (by decide +kernel) (by decide +kernel)
set_option maxRecDepth 20000 in
theorem gX1_next_X1_nextLetters : GoodIn wsX1_next (wsV RX1 90 RX1 yX1_nextLetters wsX1_nextLetters) := goodIn_app (goodIn_of _ (by decide +kernel)) ggX1_next_X1_nextLetters
set_option maxRecDepth 20000 in
theorem ggX1_next_X1_isDigit : GoodIn wsX1_next wsX1_isDigit := goodIn_r _ [20] (by decide +kernel) (by decide +kernel)
set_option maxRecDepth 20000 in
theorem gX1_next_X1_isDigit : GoodIn wsX1_next (va_wsS RX1 93 yX1_isDigit wsX1_isDigit) := goodIn_app (goodIn_of _ (by decide +kernel)) ggX1_next_X1_isDigit
set_option maxRecDepth 20000 in
theorem ggX1_next_X1_nextDigits : GoodIn wsX1_next wsX1_nextDigits := goodIn_r _ [24, 17, 1, 3, 4, 25, 26, 27, 28, 2, 5, 6, 7, 8, 18, 19, 11, 20, 29, 30, 31, 32, 33, 34] (by decide +kernel) (by decide +kernel)
set_option maxRecDepth 20000 in
theorem gX1_next_X1_nextDigits : GoodIn wsX1_next (wsV RX1 96 RX1 yX1_nextDigits wsX1_nextDigits) := goodIn_app (goodIn_of _ (by decide +kernel)) ggX1_next_X1_nextDigits
theorem dX1_next_0 : decode cX1_next 0 = .ok (.aload_n 0, 1) := by decide +kernel
theorem dX1_next_1 : decode cX1_next 1 = .ok (.aload_n 0, 1) := by decide +kernel
theorem dX1_next_2 : decode cX1_next 2 = .ok (.getfield 28, 3) := by decide +kernel
theorem dX1_next_5 : decode cX1_next 5 = .ok (.putfield 79, 3) := by decide +kernel
theorem dX1_next_8 : decode cX1_next 8 = .ok (.aload_n 0, 1) := by decide +kernel
theorem dX1_next_9 : decode cX1_next 9 = .ok (.getfield 79, 3) := by decide +kernel
theorem dX1_next_12 : decode cX1_next 12 = .ok (.aload_n 0, 1) := by decide +kernel
theorem dX1_next_13 : decode cX1_next 13 = .ok (.getfield 15, 3) := by decide +kernel
theorem dX1_next_16 : decode cX1_next 16 = .ok (.if_icmp .ge 32, 3) := by decide +kernel
theorem dX1_next_19 : decode cX1_next 19 = .ok (.aload_n 0, 1) := by decide +kernel
theorem dX1_next_20 : decode cX1_next 20 = .ok (.getfield 9, 3) := by decide +kernel
theorem dX1_next_23 : decode cX1_next 23 = .ok (.aload_n 0, 1) := by decide +kernel
theorem dX1_next_24 : decode cX1_next 24 = .ok (.getfield 79, 3) := by decide +kernel
theorem dX1_next_27 : decode cX1_next 27 = .ok (.invokestatic 82, 3) := by decide +kernel
theorem dX1_next_30 : decode cX1_next 30 = .ok (.bipush 32, 2) := by decide +kernel
theorem dX1_next_32 : decode cX1_next 32 = .ok (.if_icmp .ne 16, 3) := by decide +kernel
theorem dX1_next_35 : decode cX1_next 35 = .ok (.aload_n 0, 1) := by decide +kernel
theorem dX1_next_36 : decode cX1_next 36 = .ok (.dup, 1) := by decide +kernel
theorem dX1_next_37 : decode cX1_next 37 = .ok (.getfield 79, 3) := by decide +kernel
theorem dX1_next_40 : decode cX1_next 40 = .ok (.iconst 1, 1) := by decide +kernel
theorem dX1_next_41 : decode cX1_next 41 = .ok (.iadd, 1) := by decide +kernel
theorem dX1_next_42 : decode cX1_next 42 = .ok (.putfield 79, 3) := by decide +kernel
theorem dX1_next_45 : decode cX1_next 45 = .ok (.goto (-37), 3) := by decide +kernel
theorem dX1_next_48 : decode cX1_next 48 = .ok (.aload_n 0, 1) := by decide +kernel
theorem dX1_next_49 : decode cX1_next 49 = .ok (.aload_n 0, 1) := by decide +kernel
theorem dX1_next_50 : decode cX1_next 50 = .ok (.getfield 79, 3) := by decide +kernel
theorem dX1_next_53 : decode cX1_next 53 = .ok (.iconst 1, 1) := by decide +kernel
theorem dX1_next_54 : decode cX1_next 54 = .ok (.iadd, 1) := by decide +kernel
theorem dX1_next_55 : decode cX1_next 55 = .ok (.putfield 28, 3) := by decide +kernel
theorem dX1_next_58 : decode cX1_next 58 = .ok (.aload_n 0, 1) := by decide +kernel
theorem dX1_next_59 : decode cX1_next 59 = .ok (.getfield 9, 3) := by decide +kernel
theorem dX1_next_62 : decode cX1_next 62 = .ok (.aload_n 0, 1) := by decide +kernel
theorem dX1_next_63 : decode cX1_next 63 = .ok (.getfield 79, 3) := by decide +kernel
theorem dX1_next_66 : decode cX1_next 66 = .ok (.invokestatic 82, 3) := by decide +kernel
theorem dX1_next_69 : decode cX1_next 69 = .ok (.istore_n 1, 1) := by decide +kernel
theorem dX1_next_70 : decode cX1_next 70 = .ok (.aload_n 0, 1) := by decide +kernel
theorem dX1_next_71 : decode cX1_next 71 = .ok (.getfield 79, 3) := by decide +kernel
theorem dX1_next_74 : decode cX1_next 74 = .ok (.aload_n 0, 1) := by decide +kernel
theorem dX1_next_75 : decode cX1_next 75 = .ok (.getfield 15, 3) := by decide +kernel
theorem dX1_next_78 : decode cX1_next 78 = .ok (.if_icmp .lt 11, 3) := by decide +kernel
theorem dX1_next_81 : decode cX1_next 81 = .ok (.aload_n 0, 1) := by decide +kernel
theorem dX1_next_82 : decode cX1_next 82 = .ok (.iconst 0, 1) := by decide +kernel
theorem dX1_next_83 : decode cX1_next 83 = .ok (.putfield 34, 3) := by decide +kernel
theorem dX1_next_86 : decode cX1_next 86 = .ok (.goto 48, 3) := by decide +kernel
theorem dX1_next_89 : decode cX1_next 89 = .ok (.iload_n 1, 1) := by decide +kernel
theorem dX1_next_90 : decode cX1_next 90 = .ok (.invokestatic 86, 3) := by decide +kernel
theorem dX1_next_93 : decode cX1_next 93 = .ok (.ifCond .eq 11, 3) := by decide +kernel
theorem dX1_next_96 : decode cX1_next 96 = .ok (.aload_n 0, 1) := by decide +kernel
theorem dX1_next_97 : decode cX1_next 97 = .ok (.iload_n 1, 1) := by decide +kernel
theorem dX1_next_98 : decode cX1_next 98 = .ok (.invokevirtual 90, 3) := by decide +kernel
theorem dX1_next_101 : decode cX1_next 101 = .ok (.goto 33, 3) := by decide +kernel
theorem dX1_next_104 : decode cX1_next 104 = .ok (.iload_n 1, 1) := by decide +kernel
theorem dX1_next_105 : decode cX1_next 105 = .ok (.invokestatic 93, 3) := by decide +kernel
theorem dX1_next_108 : decode cX1_next 108 = .ok (.ifCond .eq 11, 3) := by decide +kernel
theorem dX1_next_111 : decode cX1_next 111 = .ok (.aload_n 0, 1) := by decide +kernel
theorem dX1_next_112 : decode cX1_next 112 = .ok (.iload_n 1, 1) := by decide +kernel
theorem dX1_next_113 : decode cX1_next 113 = .ok (.invokevirtual 96, 3) := by decide +kernel
theorem dX1_next_116 : decode cX1_next 116 = .ok (.goto 18, 3) := by decide +kernel
theorem dX1_next_119 : decode cX1_next 119 = .ok (.aload_n 0, 1) := by decide +kernel
theorem dX1_next_120 : decode cX1_next 120 = .ok (.iload_n 1, 1) := by decide +kernel
theorem dX1_next_121 : decode cX1_next 121 = .ok (.bipush 59, 2) := by decide +kernel
theorem dX1_next_123 : decode cX1_next 123 = .ok (.if_icmp .ne 7, 3) := by decide +kernel
theorem dX1_next_126 : decode cX1_next 126 = .ok (.iconst 3, 1) := by decide +kernel
theorem dX1_next_127 : decode cX1_next 127 = .ok (.goto 4, 3) := by decide +kernel
theorem dX1_next_130 : decode cX1_next 130 = .ok (.iconst 4, 1) := by decide +kernel
theorem dX1_next_131 : decode cX1_next 131 = .ok (.putfield 34, 3) := by decide +kernel
theorem dX1_next_134 : decode cX1_next 134 = .ok (.return_, 1) := by decide +kernel
set_option maxRecDepth 20000 in
theorem ggX1_nextLetters_X6_item : GoodIn wsX1_nextLetters wsX6_item := goodIn_r _ [9] (by decide +kernel) (by decide +kernel)
set_option maxRecDepth 20000 in
theorem gX1_nextLetters_X6_item_n82 : GoodIn wsX1_nextLetters (wsX6_item) := ggX1_nextLetters_X6_item
set_option maxRecDepth 20000 in
theorem ggX1_nextLetters_X1_isLetter : GoodIn wsX1_nextLetters wsX1_isLetter := goodIn_r _ [13] (by decide +kernel) (by decide +kernel)
set_option maxRecDepth 20000 in
theorem gX1_nextLetters_X1_isLetter : GoodIn wsX1_nextLetters (va_wsS RX1 86 yX1_isLetter wsX1_isLetter) := goodIn_app (goodIn_of _ (by decide +kernel)) ggX1_nextLetters_X1_isLetter
theorem dX1_nextLetters_0 : decode cX1_nextLetters 0 = .ok (.aload_n 0, 1) := by decide +kernel
theorem dX1_nextLetters_1 : decode cX1_nextLetters 1 = .ok (.getfield 28, 3) := by decide +kernel
theorem dX1_nextLetters_4 : decode cX1_nextLetters 4 = .ok (.aload_n 0, 1) := by decide +kernel
theorem dX1_nextLetters_5 : decode cX1_nextLetters 5 = .ok (.getfield 15, 3) := by decide +kernel
theorem dX1_nextLetters_8 : decode cX1_nextLetters 8 = .ok (.if_icmp .ge 33, 3) := by decide +kernel
theorem dX1_nextLetters_11 : decode cX1_nextLetters 11 = .ok (.aload_n 0, 1) := by decide +kernel
theorem dX1_nextLetters_12 : decode cX1_nextLetters 12 = .ok (.getfield 9, 3) := by decide +kernel
theorem dX1_nextLetters_15 : decode cX1_nextLetters 15 = .ok (.aload_n 0, 1) := by decide +kernel
theorem dX1_nextLetters_16 : decode cX1_nextLetters 16 = .ok (.getfield 28, 3) := by decide +kernel
theorem dX1_nextLetters_19 : decode cX1_nextLetters 19 = .ok (.invokestatic 82, 3) := by decide +kernel
theorem dX1_nextLetters_22 : decode cX1_nextLetters 22 = .ok (.invokestatic 86, 3) := by decide +kernel
theorem dX1_nextLetters_25 : decode cX1_nextLetters 25 = .ok (.ifCond .eq 16, 3) := by decide +kernel
theorem dX1_nextLetters_28 : decode cX1_nextLetters 28 = .ok (.aload_n 0, 1) := by decide +kernel
theorem dX1_nextLetters_29 : decode cX1_nextLetters 29 = .ok (.dup, 1) := by decide +kernel
theorem dX1_nextLetters_30 : decode cX1_nextLetters 30 = .ok (.getfield 28, 3) := by decide +kernel
theorem dX1_nextLetters_33 : decode cX1_nextLetters 33 = .ok (.iconst 1, 1) := by decide +kernel
theorem dX1_nextLetters_34 : decode cX1_nextLetters 34 = .ok (.iadd, 1) := by decide +kernel
theorem dX1_nextLetters_35 : decode cX1_nextLetters 35 = .ok (.putfield 28, 3) := by decide +kernel
theorem dX1_nextLetters_38 : decode cX1_nextLetters 38 = .ok (.goto (-38), 3) := by decide +kernel
theorem dX1_nextLetters_41 : decode cX1_nextLetters 41 = .ok (.aload_n 0, 1) := by decide +kernel
theorem dX1_nextLetters_42 : decode cX1_nextLetters 42 = .ok (.aload_n 0, 1) := by decide +kernel
theorem dX1_nextLetters_43 : decode cX1_nextLetters 43 = .ok (.getfield 28, 3) := by decide +kernel
theorem dX1_nextLetters_46 : decode cX1_nextLetters 46 = .ok (.aload_n 0, 1) := by decide +kernel
theorem dX1_nextLetters_47 : decode cX1_nextLetters 47 = .ok (.getfield 79, 3) := by decide +kernel
theorem dX1_nextLetters_50 : decode cX1_nextLetters 50 = .ok (.isub, 1) := by decide +kernel
theorem dX1_nextLetters_51 : decode cX1_nextLetters 51 = .ok (.iconst 1, 1) := by decide +kernel
theorem dX1_nextLetters_52 : decode cX1_nextLetters 52 = .ok (.if_icmp .ne 7, 3) := by decide +kernel
theorem dX1_nextLetters_55 : decode cX1_nextLetters 55 = .ok (.iconst 1, 1) := by decide +kernel
theorem dX1_nextLetters_56 : decode cX1_nextLetters 56 = .ok (.goto 4, 3) := by decide +kernel
theorem dX1_nextLetters_59 : decode cX1_nextLetters 59 = .ok (.iconst 4, 1) := by decide +kernel
theorem dX1_nextLetters_60 : decode cX1_nextLetters 60 = .ok (.putfield 34, 3) := by decide +kernel
theorem dX1_nextLetters_63 : decode cX1_nextLetters 63 = .ok (.aload_n 0, 1) := by decide +kernel
theorem dX1_nextLetters_64 : decode cX1_nextLetters 64 = .ok (.iload_n 1, 1) := by decide +kernel
theorem dX1_nextLetters_65 : decode cX1_nextLetters 65 = .ok (.putfield 37, 3) := by decide +kernel
theorem dX1_nextLetters_68 : decode cX1_nextLetters 68 = .ok (.return_, 1) := by decide +kernel
set_option maxRecDepth 20000 in
theorem ggX1_nextDigits_X6_item : GoodIn wsX1_nextDigits wsX6_item := goodIn_r _ [13] (by decide +kernel) (by decide +kernel)
set_option maxRecDepth 20000 in
theorem gX1_nextDigits_X6_item_n82 : GoodIn wsX1_nextDigits (wsX6_item) := ggX1_nextDigits_X6_item
set_option maxRecDepth 20000 in
theorem ggX1_nextDigits_X1_isDigit : GoodIn wsX1_nextDigits wsX1_isDigit := goodIn_r _ [17] (by decide +kernel) (by decide +kernel)
set_option maxRecDepth 20000 in
theorem gX1_nextDigits_X1_isDigit : GoodIn wsX1_nextDigits (va_wsS RX1 93 yX1_isDigit wsX1_isDigit) := goodIn_app (goodIn_of _ (by decide +kernel)) ggX1_nextDigits_X1_isDigit
theorem dX1_nextDigits_0 : decode cX1_nextDigits 0 = .ok (.aload_n 0, 1) := by decide +kernel
theorem dX1_nextDigits_1 : decode cX1_nextDigits 1 = .ok (.iload_n 1, 1) := by decide +kernel
theorem dX1_nextDigits_2 : decode cX1_nextDigits 2 = .ok (.bipush 48, 2) := by decide +kernel
theorem dX1_nextDigits_4 : decode cX1_nextDigits 4 = .ok (.isub, 1) := by decide +kernel
theorem dX1_nextDigits_5 : decode cX1_nextDigits 5 = .ok (.putfield 37, 3) := by decide +kernel
theorem dX1_nextDigits_8 : decode cX1_nextDigits 8 = .ok (.aload_n 0, 1) := by decide +kernel
theorem dX1_nextDigits_9 : decode cX1_nextDigits 9 = .ok (.getfield 28, 3) := by decide +kernel
theorem dX1_nextDigits_12 : decode cX1_nextDigits 12 = .ok (.aload_n 0, 1) := by decide +kernel
theorem dX1_nextDigits_13 : decode cX1_nextDigits 13 = .ok (.getfield 15, 3) := by decide +kernel
theorem dX1_nextDigits_16 : decode cX1_nextDigits 16 = .ok (.if_icmp .ge 64, 3) := by decide +kernel
theorem dX1_nextDigits_19 : decode cX1_nextDigits 19 = .ok (.aload_n 0, 1) := by decide +kernel
theorem dX1_nextDigits_20 : decode cX1_nextDigits 20 = .ok (.getfield 9, 3) := by decide +kernel
theorem dX1_nextDigits_23 : decode cX1_nextDigits 23 = .ok (.aload_n 0, 1) := by decide +kernel
theorem dX1_nextDigits_24 : decode cX1_nextDigits 24 = .ok (.getfield 28, 3) := by decide +kernel
theorem dX1_nextDigits_27 : decode cX1_nextDigits 27 = .ok (.invokestatic 82, 3) := by decide +kernel
theorem dX1_nextDigits_30 : decode cX1_nextDigits 30 = .ok (.invokestatic 93, 3) := by decide +kernel
theorem dX1_nextDigits_33 : decode cX1_nextDigits 33 = .ok (.ifCond .eq 47, 3) := by decide +kernel
theorem dX1_nextDigits_36 : decode cX1_nextDigits 36 = .ok (.aload_n 0, 1) := by decide +kernel
theorem dX1_nextDigits_37 : decode cX1_nextDigits 37 = .ok (.bipush 100, 2) := by decide +kernel
theorem dX1_nextDigits_39 : decode cX1_nextDigits 39 = .ok (.aload_n 0, 1) := by decide +kernel
theorem dX1_nextDigits_40 : decode cX1_nextDigits 40 = .ok (.getfield 37, 3) := by decide +kernel
theorem dX1_nextDigits_43 : decode cX1_nextDigits 43 = .ok (.bipush 10, 2) := by decide +kernel
theorem dX1_nextDigits_45 : decode cX1_nextDigits 45 = .ok (.imul, 1) := by decide +kernel
theorem dX1_nextDigits_46 : decode cX1_nextDigits 46 = .ok (.aload_n 0, 1) := by decide +kernel
theorem dX1_nextDigits_47 : decode cX1_nextDigits 47 = .ok (.getfield 9, 3) := by decide +kernel
theorem dX1_nextDigits_50 : decode cX1_nextDigits 50 = .ok (.aload_n 0, 1) := by decide +kernel
theorem dX1_nextDigits_51 : decode cX1_nextDigits 51 = .ok (.getfield 28, 3) := by decide +kernel
theorem dX1_nextDigits_54 : decode cX1_nextDigits 54 = .ok (.invokestatic 82, 3) := by decide +kernel
theorem dX1_nextDigits_57 : decode cX1_nextDigits 57 = .ok (.iadd, 1) := by decide +kernel
theorem dX1_nextDigits_58 : decode cX1_nextDigits 58 = .ok (.bipush 48, 2) := by decide +kernel
theorem dX1_nextDigits_60 : decode cX1_nextDigits 60 = .ok (.isub, 1) := by decide +kernel
theorem dX1_nextDigits_61 : decode cX1_nextDigits 61 = .ok (.invokestatic 99, 3) := by decide +kernel
theorem dX1_nextDigits_64 : decode cX1_nextDigits 64 = .ok (.putfield 37, 3) := by decide +kernel
theorem dX1_nextDigits_67 : decode cX1_nextDigits 67 = .ok (.aload_n 0, 1) := by decide +kernel
theorem dX1_nextDigits_68 : decode cX1_nextDigits 68 = .ok (.dup, 1) := by decide +kernel
theorem dX1_nextDigits_69 : decode cX1_nextDigits 69 = .ok (.getfield 28, 3) := by decide +kernel
theorem dX1_nextDigits_72 : decode cX1_nextDigits 72 = .ok (.iconst 1, 1) := by decide +kernel
theorem dX1_nextDigits_73 : decode cX1_nextDigits 73 = .ok (.iadd, 1) := by decide +kernel
theorem dX1_nextDigits_74 : decode cX1_nextDigits 74 = .ok (.putfield 28, 3) := by decide +kernel
theorem dX1_nextDigits_77 : decode cX1_nextDigits 77 = .ok (.goto (-69), 3) := by decide +kernel
theorem dX1_nextDigits_80 : decode cX1_nextDigits 80 = .ok (.iload_n 1, 1) := by decide +kernel
theorem dX1_nextDigits_81 : decode cX1_nextDigits 81 = .ok (.bipush 48, 2) := by decide +kernel
theorem dX1_nextDigits_83 : decode cX1_nextDigits 83 = .ok (.if_icmp .ne 20, 3) := by decide +kernel
theorem dX1_nextDigits_86 : decode cX1_nextDigits 86 = .ok (.aload_n 0, 1) := by decide +kernel
theorem dX1_nextDigits_87 : decode cX1_nextDigits 87 = .ok (.getfield 28, 3) := by decide +kernel
theorem dX1_nextDigits_90 : decode cX1_nextDigits 90 = .ok (.aload_n 0, 1) := by decide +kernel
theorem dX1_nextDigits_91 : decode cX1_nextDigits 91 = .ok (.getfield 79, 3) := by decide +kernel
theorem dX1_nextDigits_94 : decode cX1_nextDigits 94 = .ok (.isub, 1) := by decide +kernel
theorem dX1_nextDigits_95 : decode cX1_nextDigits 95 = .ok (.iconst 1, 1) := by decide +kernel
theorem dX1_nextDigits_96 : decode cX1_nextDigits 96 = .ok (.if_icmp .le 7, 3) := by decide +kernel
theorem dX1_nextDigits_99 : decode cX1_nextDigits 99 = .ok (.iconst 1, 1) := by decide +kernel
theorem dX1_nextDigits_100 : decode cX1_nextDigits 100 = .ok (.goto 4, 3) := by decide +kernel
theorem dX1_nextDigits_103 : decode cX1_nextDigits 103 = .ok (.iconst 0, 1) := by decide +kernel
theorem dX1_nextDigits_104 : decode cX1_nextDigits 104 = .ok (.istore_n 2, 1) := by decide +kernel
theorem dX1_nextDigits_105 : decode cX1_nextDigits 105 = .ok (.aload_n 0, 1) := by decide +kernel
theorem dX1_nextDigits_106 : decode cX1_nextDigits 106 = .ok (.aload_n 0, 1) := by decide +kernel
theorem dX1_nextDigits_107 : decode cX1_nextDigits 107 = .ok (.getfield 37, 3) := by decide +kernel
theorem dX1_nextDigits_110 : decode cX1_nextDigits 110 = .ok (.bipush 99, 2) := by decide +kernel
theorem dX1_nextDigits_112 : decode cX1_nextDigits 112 = .ok (.if_icmp .gt 7, 3) := by decide +kernel
theorem dX1_nextDigits_115 : decode cX1_nextDigits 115 = .ok (.iload_n 2, 1) := by decide +kernel
theorem dX1_nextDigits_116 : decode cX1_nextDigits 116 = .ok (.ifCond .eq 7, 3) := by decide +kernel
theorem dX1_nextDigits_119 : decode cX1_nextDigits 119 = .ok (.iconst 4, 1) := by decide +kernel
theorem dX1_nextDigits_120 : decode cX1_nextDigits 120 = .ok (.goto 4, 3) := by decide +kernel
theorem dX1_nextDigits_123 : decode cX1_nextDigits 123 = .ok (.iconst 2, 1) := by decide +kernel
theorem dX1_nextDigits_124 : decode cX1_nextDigits 124 = .ok (.putfield 34, 3) := by decide +kernel
theorem dX1_nextDigits_127 : decode cX1_nextDigits 127 = .ok (.return_, 1) := by decide +kernel
theorem dX1_isLetter_0 : decode cX1_isLetter 0 = .ok (.iload_n 0, 1) := by decide +kernel
theorem dX1_isLetter_1 : decode cX1_isLetter 1 = .ok (.bipush 97, 2) := by decide +kernel
theorem dX1_isLetter_3 : decode cX1_isLetter 3 = .ok (.if_icmp .lt 13, 3) := by decide +kernel
theorem dX1_isLetter_6 : decode cX1_isLetter 6 = .ok (.iload_n 0, 1) := by decide +kernel
theorem dX1_isLetter_7 : decode cX1_isLetter 7 = .ok (.bipush 122, 2) := by decide +kernel
theorem dX1_isLetter_9 : decode cX1_isLetter 9 = .ok (.if_icmp .gt 7, 3) := by decide +kernel
theorem dX1_isLetter_12 : decode cX1_isLetter 12 = .ok (.iconst 1, 1) := by decide +kernel
theorem dX1_isLetter_13 : decode cX1_isLetter 13 = .ok (.goto 4, 3) := by decide +kernel
theorem dX1_isLetter_16 : decode cX1_isLetter 16 = .ok (.iconst 0, 1) := by decide +kernel
theorem dX1_isLetter_17 : decode cX1_isLetter 17 = .ok (.ireturn, 1) := by decide +kernel
theorem dX1_isDigit_0 : decode cX1_isDigit 0 = .ok (.iload_n 0, 1) := by decide +kernel
theorem dX1_isDigit_1 : decode cX1_isDigit 1 = .ok (.bipush 48, 2) := by decide +kernel
theorem dX1_isDigit_3 : decode cX1_isDigit 3 = .ok (.if_icmp .lt 13, 3) := by decide +kernel
theorem dX1_isDigit_6 : decode cX1_isDigit 6 = .ok (.iload_n 0, 1) := by decide +kernel
theorem dX1_isDigit_7 : decode cX1_isDigit 7 = .ok (.bipush 57, 2) := by decide +kernel
theorem dX1_isDigit_9 : decode cX1_isDigit 9 = .ok (.if_icmp .gt 7, 3) := by decide +kernel
theorem dX1_isDigit_12 : decode cX1_isDigit 12 = .ok (.iconst 1, 1) := by decide +kernel
theorem dX1_isDigit_13 : decode cX1_isDigit 13 = .ok (.goto 4, 3) := by decide +kernel
theorem dX1_isDigit_16 : decode cX1_isDigit 16 = .ok (.iconst 0, 1) := by decide +kernel
theorem dX1_isDigit_17 : decode cX1_isDigit 17 = .ok (.ireturn, 1) := by decide +kernel
theorem dX2_init_0 : decode cX2_init 0 = .ok (.aload_n 0, 1) := by decide +kernel
theorem dX2_init_1 : decode cX2_init 1 = .ok (.invokespecial 3, 3) := by decide +kernel
theorem dX2_init_4 : decode cX2_init 4 = .ok (.aload_n 0, 1) := by decide +kernel
theorem dX2_init_5 : decode cX2_init 5 = .ok (.sipush 720, 3) := by decide +kernel
theorem dX2_init_8 : decode cX2_init 8 = .ok (.newarray .int, 2) := by decide +kernel
theorem dX2_init_10 : decode cX2_init 10 = .ok (.putfield 9, 3) := by decide +kernel
theorem dX2_init_13 : decode cX2_init 13 = .ok (.aload_n 0, 1) := by decide +kernel
theorem dX2_init_14 : decode cX2_init 14 = .ok (.sipush 720, 3) := by decide +kernel
theorem dX2_init_17 : decode cX2_init 17 = .ok (.newarray .int, 2) := by decide +kernel
theorem dX2_init_19 : decode cX2_init 19 = .ok (.putfield 15, 3) := by decide +kernel
theorem dX2_init_22 : decode cX2_init 22 = .ok (.aload_n 0, 1) := by decide +kernel
theorem dX2_init_23 : decode cX2_init 23 = .ok (.sipush 720, 3) := by decide +kernel
theorem dX2_init_26 : decode cX2_init 26 = .ok (.newarray .int, 2) := by decide +kernel
theorem dX2_init_28 : decode cX2_init 28 = .ok (.putfield 18, 3) := by decide +kernel
theorem dX2_init_31 : decode cX2_init 31 = .ok (.aload_n 0, 1) := by decide +kernel
theorem dX2_init_32 : decode cX2_init 32 = .ok (.bipush (-9), 2) := by decide +kernel
theorem dX2_init_34 : decode cX2_init 34 = .ok (.putfield 21, 3) := by decide +kernel
theorem dX2_init_37 : decode cX2_init 37 = .ok (.aload_n 0, 1) := by decide +kernel
theorem dX2_init_38 : decode cX2_init 38 = .ok (.aload_n 1, 1) := by decide +kernel
theorem dX2_init_39 : decode cX2_init 39 = .ok (.putfield 25, 3) := by decide +kernel
theorem dX2_init_42 : decode cX2_init 42 = .ok (.aload_n 0, 1) := by decide +kernel
theorem dX2_init_43 : decode cX2_init 43 = .ok (.iload_n 2, 1) := by decide +kernel
theorem dX2_init_44 : decode cX2_init 44 = .ok (.putfield 29, 3) := by decide +kernel
theorem dX2_init_47 : decode cX2_init 47 = .ok (.return_, 1) := by decide +kernel
theorem dX2_renew_0 : decode cX2_renew 0 = .ok (.aload_n 0, 1) := by decide +kernel
theorem dX2_renew_1 : decode cX2_renew 1 = .ok (.bipush (-9), 2) := by decide +kernel
theorem dX2_renew_3 : decode cX2_renew 3 = .ok (.putfield 21, 3) := by decide +kernel
theorem dX2_renew_6 : decode cX2_renew 6 = .ok (.return_, 1) := by decide +kernel
set_option maxRecDepth 20000 in
theorem ggX2_spread_J7_fill_53178 : GoodIn wsX2_spread wsJ7_fill_53178 := goodIn_r _ [8] (by decide +kernel) (by decide +kernel)
set_option maxRecDepth 20000 in
theorem gX2_spread_J7_fill_53178 : GoodIn wsX2_spread (va_wsS RX2 36 yJ7_fill_53178 wsJ7_fill_53178) := goodIn_app (goodIn_of _ (by decide +kernel)) ggX2_spread_J7_fill_53178
set_option maxRecDepth 20000 in
theorem ggX2_spread_X2_enter : GoodIn wsX2_spread wsX2_enter := goodIn_r _ [13, 3, 14, 4, 2, 15, 16, 17, 84, 85, 86, 87, 88, 89, 90] (by decide +kernel) (by decide +kernel)
set_option maxRecDepth 20000 in
theorem gX2_spread_X2_enter : GoodIn wsX2_spread (wsV RX2 42 RX2 yX2_enter wsX2_enter) := goodIn_app (goodIn_of _ (by decide +kernel)) ggX2_spread_X2_enter
set_option maxRecDepth 20000 in
theorem ggX2_spread_X6_item : GoodIn wsX2_spread wsX6_item := goodIn_r _ [19] (by decide +kernel) (by decide +kernel)
set_option maxRecDepth 20000 in
theorem gX2_spread_X6_item_n46 : GoodIn wsX2_spread (wsX6_item) := ggX2_spread_X6_item
set_option maxRecDepth 20000 in
theorem ggX2_spread_X2_step : GoodIn wsX2_spread wsX2_step := goodIn_r _ [23, 24, 3, 14, 25, 26, 27, 28, 29, 30, 31, 32, 33, 34, 35, 36, 37, 38, 39, 40, 41, 42, 43, 44, 18, 16, 19, 45, 46, 47, 48, 49, 50, 51, 52, 53, 54, 55, 56, 57, 58, 59, 60, 61, 62, 63, 12, 64, 65, 66, 67, 68, 69, 70, 71, 72, 73, 74, 75, 76, 77, 78, 79, 80, 81, 82, 83, 15, 17, 9, 10, 11, 13, 4, 2, 84, 85, 86, 87, 88, 89, 90, 91, 92, 93, 94, 95, 96, 97, 98, 99, 100, 101, 102, 103] (by decide +kernel) (by decide +kernel)
set_option maxRecDepth 20000 in
theorem gX2_spread_X2_step : GoodIn wsX2_spread (wsV RX2 50 RX2 yX2_step wsX2_step) := goodIn_app (goodIn_of _ (by decide +kernel)) ggX2_spread_X2_step
theorem dX2_spread_0 : decode cX2_spread 0 = .ok (.iload_n 1, 1) := by decide +kernel
theorem dX2_spread_1 : decode cX2_spread 1 = .ok (.aload_n 0, 1) := by decide +kernel
theorem dX2_spread_2 : decode cX2_spread 2 = .ok (.getfield 21, 3) := by decide +kernel
theorem dX2_spread_5 : decode cX2_spread 5 = .ok (.if_icmp .ne 4, 3) := by decide +kernel
theorem dX2_spread_8 : decode cX2_spread 8 = .ok (.return_, 1) := by decide +kernel
theorem dX2_spread_9 : decode cX2_spread 9 = .ok (.aload_n 0, 1) := by decide +kernel
theorem dX2_spread_10 : decode cX2_spread 10 = .ok (.iload_n 1, 1) := by decide +kernel
theorem dX2_spread_11 : decode cX2_spread 11 = .ok (.putfield 21, 3) := by decide +kernel
theorem dX2_spread_14 : decode cX2_spread 14 = .ok (.aload_n 0, 1) := by decide +kernel
theorem dX2_spread_15 : decode cX2_spread 15 = .ok (.iconst 0, 1) := by decide +kernel
theorem dX2_spread_16 : decode cX2_spread 16 = .ok (.putfield 33, 3) := by decide +kernel
theorem dX2_spread_19 : decode cX2_spread 19 = .ok (.aload_n 0, 1) := by decide +kernel
theorem dX2_spread_20 : decode cX2_spread 20 = .ok (.getfield 9, 3) := by decide +kernel
theorem dX2_spread_23 : decode cX2_spread 23 = .ok (.bipush (-9), 2) := by decide +kernel
theorem dX2_spread_25 : decode cX2_spread 25 = .ok (.invokestatic 36, 3) := by decide +kernel
theorem dX2_spread_28 : decode cX2_spread 28 = .ok (.aload_n 0, 1) := by decide +kernel
theorem dX2_spread_29 : decode cX2_spread 29 = .ok (.iload_n 1, 1) := by decide +kernel
theorem dX2_spread_30 : decode cX2_spread 30 = .ok (.iconst 0, 1) := by decide +kernel
theorem dX2_spread_31 : decode cX2_spread 31 = .ok (.iconst 0, 1) := by decide +kernel
theorem dX2_spread_32 : decode cX2_spread 32 = .ok (.invokevirtual 42, 3) := by decide +kernel
theorem dX2_spread_35 : decode cX2_spread 35 = .ok (.iconst 0, 1) := by decide +kernel
theorem dX2_spread_36 : decode cX2_spread 36 = .ok (.istore_n 2, 1) := by decide +kernel
theorem dX2_spread_37 : decode cX2_spread 37 = .ok (.iload_n 2, 1) := by decide +kernel
theorem dX2_spread_38 : decode cX2_spread 38 = .ok (.aload_n 0, 1) := by decide +kernel
theorem dX2_spread_39 : decode cX2_spread 39 = .ok (.getfield 33, 3) := by decide +kernel
theorem dX2_spread_42 : decode cX2_spread 42 = .ok (.if_icmp .ge 28, 3) := by decide +kernel
theorem dX2_spread_45 : decode cX2_spread 45 = .ok (.iload_n 2, 1) := by decide +kernel
theorem dX2_spread_46 : decode cX2_spread 46 = .ok (.sipush 720, 3) := by decide +kernel
theorem dX2_spread_49 : decode cX2_spread 49 = .ok (.if_icmp .ge 21, 3) := by decide +kernel
theorem dX2_spread_52 : decode cX2_spread 52 = .ok (.aload_n 0, 1) := by decide +kernel
theorem dX2_spread_53 : decode cX2_spread 53 = .ok (.aload_n 0, 1) := by decide +kernel
theorem dX2_spread_54 : decode cX2_spread 54 = .ok (.getfield 18, 3) := by decide +kernel
theorem dX2_spread_57 : decode cX2_spread 57 = .ok (.iload_n 2, 1) := by decide +kernel
theorem dX2_spread_58 : decode cX2_spread 58 = .ok (.invokestatic 46, 3) := by decide +kernel
theorem dX2_spread_61 : decode cX2_spread 61 = .ok (.invokevirtual 50, 3) := by decide +kernel
theorem dX2_spread_64 : decode cX2_spread 64 = .ok (.iinc 2 1, 3) := by decide +kernel
theorem dX2_spread_67 : decode cX2_spread 67 = .ok (.goto (-30), 3) := by decide +kernel
theorem dX2_spread_70 : decode cX2_spread 70 = .ok (.return_, 1) := by decide +kernel
set_option maxRecDepth 20000 in
theorem ggX2_moonsTo_X6_item : GoodIn wsX2_moonsTo wsX6_item := goodIn_r _ [4] (by decide +kernel) (by decide +kernel)
set_option maxRecDepth 20000 in
theorem gX2_moonsTo_X6_item_n46 : GoodIn wsX2_moonsTo (wsX6_item) := ggX2_moonsTo_X6_item
theorem dX2_moonsTo_0 : decode cX2_moonsTo 0 = .ok (.aload_n 0, 1) := by decide +kernel
theorem dX2_moonsTo_1 : decode cX2_moonsTo 1 = .ok (.getfield 9, 3) := by decide +kernel
theorem dX2_moonsTo_4 : decode cX2_moonsTo 4 = .ok (.iload_n 1, 1) := by decide +kernel
theorem dX2_moonsTo_5 : decode cX2_moonsTo 5 = .ok (.invokestatic 46, 3) := by decide +kernel
theorem dX2_moonsTo_8 : decode cX2_moonsTo 8 = .ok (.istore_n 2, 1) := by decide +kernel
theorem dX2_moonsTo_9 : decode cX2_moonsTo 9 = .ok (.iload_n 2, 1) := by decide +kernel
theorem dX2_moonsTo_10 : decode cX2_moonsTo 10 = .ok (.ifCond .lt 7, 3) := by decide +kernel
theorem dX2_moonsTo_13 : decode cX2_moonsTo 13 = .ok (.iload_n 2, 1) := by decide +kernel
theorem dX2_moonsTo_14 : decode cX2_moonsTo 14 = .ok (.goto 5, 3) := by decide +kernel
theorem dX2_moonsTo_17 : decode cX2_moonsTo 17 = .ok (.bipush (-9), 2) := by decide +kernel
theorem dX2_moonsTo_19 : decode cX2_moonsTo 19 = .ok (.ireturn, 1) := by decide +kernel
set_option maxRecDepth 20000 in
theorem ggX2_firstTo_X6_item : GoodIn wsX2_firstTo wsX6_item := goodIn_r _ [4] (by decide +kernel) (by decide +kernel)
set_option maxRecDepth 20000 in
theorem gX2_firstTo_X6_item_n46 : GoodIn wsX2_firstTo (wsX6_item) := ggX2_firstTo_X6_item
theorem dX2_firstTo_0 : decode cX2_firstTo 0 = .ok (.aload_n 0, 1) := by decide +kernel
theorem dX2_firstTo_1 : decode cX2_firstTo 1 = .ok (.getfield 15, 3) := by decide +kernel
theorem dX2_firstTo_4 : decode cX2_firstTo 4 = .ok (.iload_n 1, 1) := by decide +kernel
theorem dX2_firstTo_5 : decode cX2_firstTo 5 = .ok (.invokestatic 46, 3) := by decide +kernel
theorem dX2_firstTo_8 : decode cX2_firstTo 8 = .ok (.ireturn, 1) := by decide +kernel
set_option maxRecDepth 20000 in
theorem ggX2_step_X3_willing : GoodIn wsX2_step wsX3_willing := goodIn_r _ [8, 9, 10, 11, 12, 13, 14, 15, 16, 17, 18, 19, 20, 21, 22, 23, 82, 83, 84, 85, 86, 87, 88, 89, 90, 91, 92, 93, 94] (by decide +kernel) (by decide +kernel)
set_option maxRecDepth 20000 in
theorem gX2_step_X3_willing : GoodIn wsX2_step (wsV RX2 54 RX3 yX3_willing wsX3_willing) := goodIn_app (goodIn_of _ (by decide +kernel)) ggX2_step_X3_willing
set_option maxRecDepth 20000 in
theorem ggX2_step_X6_item : GoodIn wsX2_step wsX6_item := goodIn_r _ [26] (by decide +kernel) (by decide +kernel)
set_option maxRecDepth 20000 in
theorem gX2_step_X6_item_n46 : GoodIn wsX2_step (wsX6_item) := ggX2_step_X6_item
set_option maxRecDepth 20000 in
theorem ggX2_step_X3_changes : GoodIn wsX2_step wsX3_changes := goodIn_r _ [30, 9, 10, 82, 83, 84, 85, 86, 87, 88, 89] (by decide +kernel) (by decide +kernel)
set_option maxRecDepth 20000 in
theorem gX2_step_X3_changes : GoodIn wsX2_step (wsV RX2 60 RX3 yX3_changes wsX3_changes) := goodIn_app (goodIn_of _ (by decide +kernel)) ggX2_step_X3_changes
set_option maxRecDepth 20000 in
theorem ggX2_step_X3_allows : GoodIn wsX2_step wsX3_allows := goodIn_r _ [33] (by decide +kernel) (by decide +kernel)
set_option maxRecDepth 20000 in
theorem gX2_step_X3_allows : GoodIn wsX2_step (va_wsS RX2 64 yX3_allows wsX3_allows) := goodIn_app (goodIn_of _ (by decide +kernel)) ggX2_step_X3_allows
set_option maxRecDepth 20000 in
theorem ggX2_step_X3_after : GoodIn wsX2_step wsX3_after := goodIn_r _ [37, 11, 38, 39, 40, 15, 41, 42, 82, 83, 90, 91, 92, 93, 94] (by decide +kernel) (by decide +kernel)
set_option maxRecDepth 20000 in
theorem gX2_step_X3_after : GoodIn wsX2_step (wsV RX2 68 RX3 yX3_after wsX3_after) := goodIn_app (goodIn_of _ (by decide +kernel)) ggX2_step_X3_after
set_option maxRecDepth 20000 in
theorem ggX2_step_X2_reach : GoodIn wsX2_step wsX2_reach := goodIn_r _ [47, 2, 48, 1, 24, 25, 26, 49, 50, 51, 7, 52, 9, 10, 53, 54, 55, 56, 57, 58, 59, 60, 61, 11, 12, 13, 14, 15, 16, 17, 62, 63, 64, 21, 65, 66, 67, 68, 69, 70, 71, 46, 72, 3, 73, 74, 75, 76, 77, 78, 79, 80, 81, 82, 83, 84, 85, 86, 87, 88, 89, 90, 91, 92, 93, 94] (by decide +kernel) (by decide +kernel)
set_option maxRecDepth 20000 in
theorem gX2_step_X2_reach : GoodIn wsX2_step (wsV RX2 72 RX2 yX2_reach wsX2_reach) := goodIn_app (goodIn_of _ (by decide +kernel)) ggX2_step_X2_reach
theorem dX2_step_0 : decode cX2_step 0 = .ok (.aload_n 0, 1) := by decide +kernel
theorem dX2_step_1 : decode cX2_step 1 = .ok (.getfield 25, 3) := by decide +kernel
theorem dX2_step_4 : decode cX2_step 4 = .ok (.iload_n 1, 1) := by decide +kernel
theorem dX2_step_5 : decode cX2_step 5 = .ok (.invokevirtual 54, 3) := by decide +kernel
theorem dX2_step_8 : decode cX2_step 8 = .ok (.istore_n 2, 1) := by decide +kernel
theorem dX2_step_9 : decode cX2_step 9 = .ok (.aload_n 0, 1) := by decide +kernel
theorem dX2_step_10 : decode cX2_step 10 = .ok (.getfield 9, 3) := by decide +kernel
theorem dX2_step_13 : decode cX2_step 13 = .ok (.iload_n 1, 1) := by decide +kernel
theorem dX2_step_14 : decode cX2_step 14 = .ok (.invokestatic 46, 3) := by decide +kernel
theorem dX2_step_17 : decode cX2_step 17 = .ok (.iconst 1, 1) := by decide +kernel
theorem dX2_step_18 : decode cX2_step 18 = .ok (.iadd, 1) := by decide +kernel
theorem dX2_step_19 : decode cX2_step 19 = .ok (.istore_n 3, 1) := by decide +kernel
theorem dX2_step_20 : decode cX2_step 20 = .ok (.iconst 1, 1) := by decide +kernel
theorem dX2_step_21 : decode cX2_step 21 = .ok (.istore 4, 2) := by decide +kernel
theorem dX2_step_23 : decode cX2_step 23 = .ok (.iload 4, 2) := by decide +kernel
theorem dX2_step_25 : decode cX2_step 25 = .ok (.aload_n 0, 1) := by decide +kernel
theorem dX2_step_26 : decode cX2_step 26 = .ok (.getfield 25, 3) := by decide +kernel
theorem dX2_step_29 : decode cX2_step 29 = .ok (.invokevirtual 60, 3) := by decide +kernel
theorem dX2_step_32 : decode cX2_step 32 = .ok (.if_icmp .ge 55, 3) := by decide +kernel
theorem dX2_step_35 : decode cX2_step 35 = .ok (.iload_n 2, 1) := by decide +kernel
theorem dX2_step_36 : decode cX2_step 36 = .ok (.iload 4, 2) := by decide +kernel
theorem dX2_step_38 : decode cX2_step 38 = .ok (.invokestatic 64, 3) := by decide +kernel
theorem dX2_step_41 : decode cX2_step 41 = .ok (.ifCond .eq 40, 3) := by decide +kernel
theorem dX2_step_44 : decode cX2_step 44 = .ok (.iload_n 3, 1) := by decide +kernel
theorem dX2_step_45 : decode cX2_step 45 = .ok (.iconst 1, 1) := by decide +kernel
theorem dX2_step_46 : decode cX2_step 46 = .ok (.if_icmp .ne 8, 3) := by decide +kernel
theorem dX2_step_49 : decode cX2_step 49 = .ok (.iload 4, 2) := by decide +kernel
theorem dX2_step_51 : decode cX2_step 51 = .ok (.goto 11, 3) := by decide +kernel
theorem dX2_step_54 : decode cX2_step 54 = .ok (.aload_n 0, 1) := by decide +kernel
theorem dX2_step_55 : decode cX2_step 55 = .ok (.getfield 15, 3) := by decide +kernel
theorem dX2_step_58 : decode cX2_step 58 = .ok (.iload_n 1, 1) := by decide +kernel
theorem dX2_step_59 : decode cX2_step 59 = .ok (.invokestatic 46, 3) := by decide +kernel
theorem dX2_step_62 : decode cX2_step 62 = .ok (.istore 5, 2) := by decide +kernel
theorem dX2_step_64 : decode cX2_step 64 = .ok (.aload_n 0, 1) := by decide +kernel
theorem dX2_step_65 : decode cX2_step 65 = .ok (.aload_n 0, 1) := by decide +kernel
theorem dX2_step_66 : decode cX2_step 66 = .ok (.getfield 25, 3) := by decide +kernel
theorem dX2_step_69 : decode cX2_step 69 = .ok (.iload_n 1, 1) := by decide +kernel
theorem dX2_step_70 : decode cX2_step 70 = .ok (.iload 4, 2) := by decide +kernel
theorem dX2_step_72 : decode cX2_step 72 = .ok (.invokevirtual 68, 3) := by decide +kernel
theorem dX2_step_75 : decode cX2_step 75 = .ok (.iload_n 3, 1) := by decide +kernel
theorem dX2_step_76 : decode cX2_step 76 = .ok (.iload 5, 2) := by decide +kernel
theorem dX2_step_78 : decode cX2_step 78 = .ok (.invokevirtual 72, 3) := by decide +kernel
theorem dX2_step_81 : decode cX2_step 81 = .ok (.iinc 4 1, 3) := by decide +kernel
theorem dX2_step_84 : decode cX2_step 84 = .ok (.goto (-61), 3) := by decide +kernel
theorem dX2_step_87 : decode cX2_step 87 = .ok (.return_, 1) := by decide +kernel
set_option maxRecDepth 20000 in
theorem ggX2_reach_X6_item : GoodIn wsX2_reach wsX6_item := goodIn_r _ [6] (by decide +kernel) (by decide +kernel)
set_option maxRecDepth 20000 in
theorem gX2_reach_X6_item_n46 : GoodIn wsX2_reach (wsX6_item) := ggX2_reach_X6_item
set_option maxRecDepth 20000 in
theorem ggX2_reach_X3_likes : GoodIn wsX2_reach wsX3_likes := goodIn_r _ [11, 12, 13, 14, 15, 16, 17, 18, 19, 20, 21, 10, 22, 23, 24, 25, 26, 27, 28, 29, 30, 31, 32, 33, 34, 35, 53, 54, 55, 56, 57, 58, 59, 60, 61, 62, 63, 64, 65] (by decide +kernel) (by decide +kernel)
set_option maxRecDepth 20000 in
theorem gX2_reach_X3_likes : GoodIn wsX2_reach (wsV RX2 75 RX3 yX3_likes wsX3_likes) := goodIn_app (goodIn_of _ (by decide +kernel)) ggX2_reach_X3_likes
set_option maxRecDepth 20000 in
theorem ggX2_reach_X6_put : GoodIn wsX2_reach wsX6_put := goodIn_r _ [37] (by decide +kernel) (by decide +kernel)
set_option maxRecDepth 20000 in
theorem gX2_reach_X6_put_n78 : GoodIn wsX2_reach (wsX6_put) := ggX2_reach_X6_put
set_option maxRecDepth 20000 in
theorem ggX2_reach_X2_enter : GoodIn wsX2_reach wsX2_enter := goodIn_r _ [42, 1, 43, 44, 45, 36, 5, 37, 46, 47, 48, 49, 50, 51, 52] (by decide +kernel) (by decide +kernel)
set_option maxRecDepth 20000 in
theorem gX2_reach_X2_enter : GoodIn wsX2_reach (wsV RX2 42 RX2 yX2_enter wsX2_enter) := goodIn_app (goodIn_of _ (by decide +kernel)) ggX2_reach_X2_enter
theorem dX2_reach_0 : decode cX2_reach 0 = .ok (.aload_n 0, 1) := by decide +kernel
theorem dX2_reach_1 : decode cX2_reach 1 = .ok (.getfield 9, 3) := by decide +kernel
theorem dX2_reach_4 : decode cX2_reach 4 = .ok (.iload_n 1, 1) := by decide +kernel
theorem dX2_reach_5 : decode cX2_reach 5 = .ok (.invokestatic 46, 3) := by decide +kernel
theorem dX2_reach_8 : decode cX2_reach 8 = .ok (.bipush (-9), 2) := by decide +kernel
theorem dX2_reach_10 : decode cX2_reach 10 = .ok (.if_icmp .eq 4, 3) := by decide +kernel
theorem dX2_reach_13 : decode cX2_reach 13 = .ok (.return_, 1) := by decide +kernel
theorem dX2_reach_14 : decode cX2_reach 14 = .ok (.aload_n 0, 1) := by decide +kernel
theorem dX2_reach_15 : decode cX2_reach 15 = .ok (.getfield 29, 3) := by decide +kernel
theorem dX2_reach_18 : decode cX2_reach 18 = .ok (.ifCond .eq 27, 3) := by decide +kernel
theorem dX2_reach_21 : decode cX2_reach 21 = .ok (.aload_n 0, 1) := by decide +kernel
theorem dX2_reach_22 : decode cX2_reach 22 = .ok (.getfield 25, 3) := by decide +kernel
theorem dX2_reach_25 : decode cX2_reach 25 = .ok (.iload_n 1, 1) := by decide +kernel
theorem dX2_reach_26 : decode cX2_reach 26 = .ok (.invokevirtual 75, 3) := by decide +kernel
theorem dX2_reach_29 : decode cX2_reach 29 = .ok (.ifCond .le 16, 3) := by decide +kernel
theorem dX2_reach_32 : decode cX2_reach 32 = .ok (.aload_n 0, 1) := by decide +kernel
theorem dX2_reach_33 : decode cX2_reach 33 = .ok (.getfield 9, 3) := by decide +kernel
theorem dX2_reach_36 : decode cX2_reach 36 = .ok (.iload_n 1, 1) := by decide +kernel
theorem dX2_reach_37 : decode cX2_reach 37 = .ok (.bipush (-8), 2) := by decide +kernel
theorem dX2_reach_39 : decode cX2_reach 39 = .ok (.invokestatic 78, 3) := by decide +kernel
theorem dX2_reach_42 : decode cX2_reach 42 = .ok (.goto 10, 3) := by decide +kernel
theorem dX2_reach_45 : decode cX2_reach 45 = .ok (.aload_n 0, 1) := by decide +kernel
theorem dX2_reach_46 : decode cX2_reach 46 = .ok (.iload_n 1, 1) := by decide +kernel
theorem dX2_reach_47 : decode cX2_reach 47 = .ok (.iload_n 2, 1) := by decide +kernel
theorem dX2_reach_48 : decode cX2_reach 48 = .ok (.iload_n 3, 1) := by decide +kernel
theorem dX2_reach_49 : decode cX2_reach 49 = .ok (.invokevirtual 42, 3) := by decide +kernel
theorem dX2_reach_52 : decode cX2_reach 52 = .ok (.return_, 1) := by decide +kernel
set_option maxRecDepth 20000 in
theorem ggX2_enter_X6_put : GoodIn wsX2_enter wsX6_put := goodIn_r _ [7] (by decide +kernel) (by decide +kernel)
set_option maxRecDepth 20000 in
theorem gX2_enter_X6_put_n78 : GoodIn wsX2_enter (wsX6_put) := ggX2_enter_X6_put
theorem dX2_enter_0 : decode cX2_enter 0 = .ok (.aload_n 0, 1) := by decide +kernel
theorem dX2_enter_1 : decode cX2_enter 1 = .ok (.getfield 9, 3) := by decide +kernel
theorem dX2_enter_4 : decode cX2_enter 4 = .ok (.iload_n 1, 1) := by decide +kernel
theorem dX2_enter_5 : decode cX2_enter 5 = .ok (.iload_n 2, 1) := by decide +kernel
theorem dX2_enter_6 : decode cX2_enter 6 = .ok (.invokestatic 78, 3) := by decide +kernel
theorem dX2_enter_9 : decode cX2_enter 9 = .ok (.aload_n 0, 1) := by decide +kernel
theorem dX2_enter_10 : decode cX2_enter 10 = .ok (.getfield 15, 3) := by decide +kernel
theorem dX2_enter_13 : decode cX2_enter 13 = .ok (.iload_n 1, 1) := by decide +kernel
theorem dX2_enter_14 : decode cX2_enter 14 = .ok (.iload_n 3, 1) := by decide +kernel
theorem dX2_enter_15 : decode cX2_enter 15 = .ok (.invokestatic 78, 3) := by decide +kernel
theorem dX2_enter_18 : decode cX2_enter 18 = .ok (.aload_n 0, 1) := by decide +kernel
theorem dX2_enter_19 : decode cX2_enter 19 = .ok (.getfield 18, 3) := by decide +kernel
theorem dX2_enter_22 : decode cX2_enter 22 = .ok (.aload_n 0, 1) := by decide +kernel
theorem dX2_enter_23 : decode cX2_enter 23 = .ok (.getfield 33, 3) := by decide +kernel
theorem dX2_enter_26 : decode cX2_enter 26 = .ok (.iload_n 1, 1) := by decide +kernel
theorem dX2_enter_27 : decode cX2_enter 27 = .ok (.invokestatic 78, 3) := by decide +kernel
theorem dX2_enter_30 : decode cX2_enter 30 = .ok (.aload_n 0, 1) := by decide +kernel
theorem dX2_enter_31 : decode cX2_enter 31 = .ok (.dup, 1) := by decide +kernel
theorem dX2_enter_32 : decode cX2_enter 32 = .ok (.getfield 33, 3) := by decide +kernel
theorem dX2_enter_35 : decode cX2_enter 35 = .ok (.iconst 1, 1) := by decide +kernel
theorem dX2_enter_36 : decode cX2_enter 36 = .ok (.iadd, 1) := by decide +kernel
theorem dX2_enter_37 : decode cX2_enter 37 = .ok (.putfield 33, 3) := by decide +kernel
theorem dX2_enter_40 : decode cX2_enter 40 = .ok (.return_, 1) := by decide +kernel
set_option maxRecDepth 20000 in
theorem ggX3_init_X4_init : GoodIn wsX3_init wsX4_init := goodIn_r _ [13, 14, 2, 3, 15, 16, 17, 18, 26, 27, 28, 29, 30, 31] (by decide +kernel) (by decide +kernel)
set_option maxRecDepth 20000 in
theorem gX3_init_X4_init_n11 : GoodIn wsX3_init (wsX4_init) := ggX3_init_X4_init
set_option maxRecDepth 20000 in
theorem ggX3_init_X5_init : GoodIn wsX3_init wsX5_init := goodIn_r _ [20, 21, 2, 3, 22, 16, 23, 24, 25, 34, 35, 36, 37, 38] (by decide +kernel) (by decide +kernel)
set_option maxRecDepth 20000 in
theorem gX3_init_X5_init_n20 : GoodIn wsX3_init (wsX5_init) := ggX3_init_X5_init
theorem dX3_init_0 : decode cX3_init 0 = .ok (.aload_n 0, 1) := by decide +kernel
theorem dX3_init_1 : decode cX3_init 1 = .ok (.invokespecial 3, 3) := by decide +kernel
theorem dX3_init_4 : decode cX3_init 4 = .ok (.aload_n 0, 1) := by decide +kernel
theorem dX3_init_5 : decode cX3_init 5 = .ok (.new 9, 3) := by decide +kernel
theorem dX3_init_8 : decode cX3_init 8 = .ok (.dup, 1) := by decide +kernel
theorem dX3_init_9 : decode cX3_init 9 = .ok (.invokespecial 11, 3) := by decide +kernel
theorem dX3_init_12 : decode cX3_init 12 = .ok (.putfield 12, 3) := by decide +kernel
theorem dX3_init_15 : decode cX3_init 15 = .ok (.aload_n 0, 1) := by decide +kernel
theorem dX3_init_16 : decode cX3_init 16 = .ok (.new 18, 3) := by decide +kernel
theorem dX3_init_19 : decode cX3_init 19 = .ok (.dup, 1) := by decide +kernel
theorem dX3_init_20 : decode cX3_init 20 = .ok (.invokespecial 20, 3) := by decide +kernel
theorem dX3_init_23 : decode cX3_init 23 = .ok (.putfield 21, 3) := by decide +kernel
theorem dX3_init_26 : decode cX3_init 26 = .ok (.return_, 1) := by decide +kernel
set_option maxRecDepth 20000 in
theorem ggX3_become_X4_become : GoodIn wsX3_become wsX4_become := goodIn_r _ [8, 9, 10, 11, 12, 13, 14, 15, 16, 17, 62, 63, 64, 65, 66, 67] (by decide +kernel) (by decide +kernel)
set_option maxRecDepth 20000 in
theorem gX3_become_X4_become : GoodIn wsX3_become (wsV RX3 25 RX4 yX4_become wsX4_become) := goodIn_app (goodIn_of _ (by decide +kernel)) ggX3_become_X4_become
set_option maxRecDepth 20000 in
theorem ggX3_become_X5_become : GoodIn wsX3_become wsX5_become := goodIn_r _ [22, 23, 24, 25, 26, 27, 14, 15, 16, 28, 29, 30, 21, 31, 32, 33, 34, 35, 36, 37, 38, 39, 40, 41, 42, 43, 44, 45, 46, 47, 48, 49, 50, 51, 52, 53, 54, 55, 56, 57, 58, 59, 68, 69, 70, 71, 72] (by decide +kernel) (by decide +kernel)
set_option maxRecDepth 20000 in
theorem gX3_become_X5_become : GoodIn wsX3_become (wsV RX3 33 RX5 yX5_become wsX5_become) := goodIn_app (goodIn_of _ (by decide +kernel)) ggX3_become_X5_become
theorem dX3_become_0 : decode cX3_become 0 = .ok (.aload_n 0, 1) := by decide +kernel
theorem dX3_become_1 : decode cX3_become 1 = .ok (.getfield 12, 3) := by decide +kernel
theorem dX3_become_4 : decode cX3_become 4 = .ok (.aload_n 1, 1) := by decide +kernel
theorem dX3_become_5 : decode cX3_become 5 = .ok (.invokevirtual 25, 3) := by decide +kernel
theorem dX3_become_8 : decode cX3_become 8 = .ok (.aload_n 0, 1) := by decide +kernel
theorem dX3_become_9 : decode cX3_become 9 = .ok (.getfield 21, 3) := by decide +kernel
theorem dX3_become_12 : decode cX3_become 12 = .ok (.aload_n 0, 1) := by decide +kernel
theorem dX3_become_13 : decode cX3_become 13 = .ok (.getfield 12, 3) := by decide +kernel
theorem dX3_become_16 : decode cX3_become 16 = .ok (.getfield 29, 3) := by decide +kernel
theorem dX3_become_19 : decode cX3_become 19 = .ok (.invokevirtual 33, 3) := by decide +kernel
theorem dX3_become_22 : decode cX3_become 22 = .ok (.return_, 1) := by decide +kernel
theorem dX3_changes_0 : decode cX3_changes 0 = .ok (.aload_n 0, 1) := by decide +kernel
theorem dX3_changes_1 : decode cX3_changes 1 = .ok (.getfield 12, 3) := by decide +kernel
theorem dX3_changes_4 : decode cX3_changes 4 = .ok (.getfield 29, 3) := by decide +kernel
theorem dX3_changes_7 : decode cX3_changes 7 = .ok (.iconst 1, 1) := by decide +kernel
theorem dX3_changes_8 : decode cX3_changes 8 = .ok (.if_icmp .le 17, 3) := by decide +kernel
theorem dX3_changes_11 : decode cX3_changes 11 = .ok (.iconst 1, 1) := by decide +kernel
theorem dX3_changes_12 : decode cX3_changes 12 = .ok (.aload_n 0, 1) := by decide +kernel
theorem dX3_changes_13 : decode cX3_changes 13 = .ok (.getfield 12, 3) := by decide +kernel
theorem dX3_changes_16 : decode cX3_changes 16 = .ok (.getfield 29, 3) := by decide +kernel
theorem dX3_changes_19 : decode cX3_changes 19 = .ok (.iconst 1, 1) := by decide +kernel
theorem dX3_changes_20 : decode cX3_changes 20 = .ok (.isub, 1) := by decide +kernel
theorem dX3_changes_21 : decode cX3_changes 21 = .ok (.ishl, 1) := by decide +kernel
theorem dX3_changes_22 : decode cX3_changes 22 = .ok (.goto 4, 3) := by decide +kernel
theorem dX3_changes_25 : decode cX3_changes 25 = .ok (.iconst 1, 1) := by decide +kernel
theorem dX3_changes_26 : decode cX3_changes 26 = .ok (.ireturn, 1) := by decide +kernel
set_option maxRecDepth 20000 in
theorem ggX3_willing_X5_who : GoodIn wsX3_willing wsX5_who := goodIn_r _ [8, 9, 24, 25, 26, 27, 28] (by decide +kernel) (by decide +kernel)
set_option maxRecDepth 20000 in
theorem gX3_willing_X5_who : GoodIn wsX3_willing (wsV RX3 36 RX5 yX5_who wsX5_who) := goodIn_app (goodIn_of _ (by decide +kernel)) ggX3_willing_X5_who
set_option maxRecDepth 20000 in
theorem ggX3_willing_X4_hatersOf : GoodIn wsX3_willing wsX4_hatersOf := goodIn_r _ [14, 15, 18, 19, 20, 21, 22, 23] (by decide +kernel) (by decide +kernel)
set_option maxRecDepth 20000 in
theorem gX3_willing_X4_hatersOf : GoodIn wsX3_willing (wsV RX3 40 RX4 yX4_hatersOf wsX4_hatersOf) := goodIn_app (goodIn_of _ (by decide +kernel)) ggX3_willing_X4_hatersOf
theorem dX3_willing_0 : decode cX3_willing 0 = .ok (.iconst 0, 1) := by decide +kernel
theorem dX3_willing_1 : decode cX3_willing 1 = .ok (.istore_n 2, 1) := by decide +kernel
theorem dX3_willing_2 : decode cX3_willing 2 = .ok (.iconst 0, 1) := by decide +kernel
theorem dX3_willing_3 : decode cX3_willing 3 = .ok (.istore_n 3, 1) := by decide +kernel
theorem dX3_willing_4 : decode cX3_willing 4 = .ok (.iload_n 3, 1) := by decide +kernel
theorem dX3_willing_5 : decode cX3_willing 5 = .ok (.iconst 1, 1) := by decide +kernel
theorem dX3_willing_6 : decode cX3_willing 6 = .ok (.iadd, 1) := by decide +kernel
theorem dX3_willing_7 : decode cX3_willing 7 = .ok (.aload_n 0, 1) := by decide +kernel
theorem dX3_willing_8 : decode cX3_willing 8 = .ok (.getfield 12, 3) := by decide +kernel
theorem dX3_willing_11 : decode cX3_willing 11 = .ok (.getfield 29, 3) := by decide +kernel
theorem dX3_willing_14 : decode cX3_willing 14 = .ok (.if_icmp .ge 52, 3) := by decide +kernel
theorem dX3_willing_17 : decode cX3_willing 17 = .ok (.aload_n 0, 1) := by decide +kernel
theorem dX3_willing_18 : decode cX3_willing 18 = .ok (.getfield 12, 3) := by decide +kernel
theorem dX3_willing_21 : decode cX3_willing 21 = .ok (.aload_n 0, 1) := by decide +kernel
theorem dX3_willing_22 : decode cX3_willing 22 = .ok (.getfield 21, 3) := by decide +kernel
theorem dX3_willing_25 : decode cX3_willing 25 = .ok (.iload_n 1, 1) := by decide +kernel
theorem dX3_willing_26 : decode cX3_willing 26 = .ok (.iload_n 3, 1) := by decide +kernel
theorem dX3_willing_27 : decode cX3_willing 27 = .ok (.invokevirtual 36, 3) := by decide +kernel
theorem dX3_willing_30 : decode cX3_willing 30 = .ok (.invokevirtual 40, 3) := by decide +kernel
theorem dX3_willing_33 : decode cX3_willing 33 = .ok (.istore 4, 2) := by decide +kernel
theorem dX3_willing_35 : decode cX3_willing 35 = .ok (.iload 4, 2) := by decide +kernel
theorem dX3_willing_37 : decode cX3_willing 37 = .ok (.aload_n 0, 1) := by decide +kernel
theorem dX3_willing_38 : decode cX3_willing 38 = .ok (.getfield 21, 3) := by decide +kernel
theorem dX3_willing_41 : decode cX3_willing 41 = .ok (.iload_n 1, 1) := by decide +kernel
theorem dX3_willing_42 : decode cX3_willing 42 = .ok (.iload_n 3, 1) := by decide +kernel
theorem dX3_willing_43 : decode cX3_willing 43 = .ok (.iconst 1, 1) := by decide +kernel
theorem dX3_willing_44 : decode cX3_willing 44 = .ok (.iadd, 1) := by decide +kernel
theorem dX3_willing_45 : decode cX3_willing 45 = .ok (.invokevirtual 36, 3) := by decide +kernel
theorem dX3_willing_48 : decode cX3_willing 48 = .ok (.ishr, 1) := by decide +kernel
theorem dX3_willing_49 : decode cX3_willing 49 = .ok (.iconst 1, 1) := by decide +kernel
theorem dX3_willing_50 : decode cX3_willing 50 = .ok (.iand, 1) := by decide +kernel
theorem dX3_willing_51 : decode cX3_willing 51 = .ok (.ifCond .ne 9, 3) := by decide +kernel
theorem dX3_willing_54 : decode cX3_willing 54 = .ok (.iload_n 2, 1) := by decide +kernel
theorem dX3_willing_55 : decode cX3_willing 55 = .ok (.iconst 1, 1) := by decide +kernel
theorem dX3_willing_56 : decode cX3_willing 56 = .ok (.iload_n 3, 1) := by decide +kernel
theorem dX3_willing_57 : decode cX3_willing 57 = .ok (.ishl, 1) := by decide +kernel
theorem dX3_willing_58 : decode cX3_willing 58 = .ok (.ior, 1) := by decide +kernel
theorem dX3_willing_59 : decode cX3_willing 59 = .ok (.istore_n 2, 1) := by decide +kernel
theorem dX3_willing_60 : decode cX3_willing 60 = .ok (.iinc 3 1, 3) := by decide +kernel
theorem dX3_willing_63 : decode cX3_willing 63 = .ok (.goto (-59), 3) := by decide +kernel
theorem dX3_willing_66 : decode cX3_willing 66 = .ok (.iload_n 2, 1) := by decide +kernel
theorem dX3_willing_67 : decode cX3_willing 67 = .ok (.ireturn, 1) := by decide +kernel
theorem dX3_allows_0 : decode cX3_allows 0 = .ok (.iload_n 1, 1) := by decide +kernel
theorem dX3_allows_1 : decode cX3_allows 1 = .ok (.iload_n 1, 1) := by decide +kernel
theorem dX3_allows_2 : decode cX3_allows 2 = .ok (.iconst 1, 1) := by decide +kernel
theorem dX3_allows_3 : decode cX3_allows 3 = .ok (.ishr, 1) := by decide +kernel
theorem dX3_allows_4 : decode cX3_allows 4 = .ok (.iand, 1) := by decide +kernel
theorem dX3_allows_5 : decode cX3_allows 5 = .ok (.ifCond .ne 7, 3) := by decide +kernel
theorem dX3_allows_8 : decode cX3_allows 8 = .ok (.iconst 1, 1) := by decide +kernel
theorem dX3_allows_9 : decode cX3_allows 9 = .ok (.goto 4, 3) := by decide +kernel
theorem dX3_allows_12 : decode cX3_allows 12 = .ok (.iconst 0, 1) := by decide +kernel
theorem dX3_allows_13 : decode cX3_allows 13 = .ok (.istore_n 2, 1) := by decide +kernel
theorem dX3_allows_14 : decode cX3_allows 14 = .ok (.iload_n 2, 1) := by decide +kernel
theorem dX3_allows_15 : decode cX3_allows 15 = .ok (.ifCond .eq 15, 3) := by decide +kernel
theorem dX3_allows_18 : decode cX3_allows 18 = .ok (.iload_n 1, 1) := by decide +kernel
theorem dX3_allows_19 : decode cX3_allows 19 = .ok (.iload_n 0, 1) := by decide +kernel
theorem dX3_allows_20 : decode cX3_allows 20 = .ok (.iconst (-1), 1) := by decide +kernel
theorem dX3_allows_21 : decode cX3_allows 21 = .ok (.ixor, 1) := by decide +kernel
theorem dX3_allows_22 : decode cX3_allows 22 = .ok (.iand, 1) := by decide +kernel
theorem dX3_allows_23 : decode cX3_allows 23 = .ok (.ifCond .ne 7, 3) := by decide +kernel
theorem dX3_allows_26 : decode cX3_allows 26 = .ok (.iconst 1, 1) := by decide +kernel
theorem dX3_allows_27 : decode cX3_allows 27 = .ok (.goto 4, 3) := by decide +kernel
theorem dX3_allows_30 : decode cX3_allows 30 = .ok (.iconst 0, 1) := by decide +kernel
theorem dX3_allows_31 : decode cX3_allows 31 = .ok (.ireturn, 1) := by decide +kernel
set_option maxRecDepth 20000 in
theorem ggX3_after_X5_changedAt : GoodIn wsX3_after wsX5_changedAt := goodIn_r _ [6, 7, 10, 11, 12, 13, 14] (by decide +kernel) (by decide +kernel)
set_option maxRecDepth 20000 in
theorem gX3_after_X5_changedAt : GoodIn wsX3_after (wsV RX3 44 RX5 yX5_changedAt wsX5_changedAt) := goodIn_app (goodIn_of _ (by decide +kernel)) ggX3_after_X5_changedAt
theorem dX3_after_0 : decode cX3_after 0 = .ok (.iload_n 1, 1) := by decide +kernel
theorem dX3_after_1 : decode cX3_after 1 = .ok (.istore_n 3, 1) := by decide +kernel
theorem dX3_after_2 : decode cX3_after 2 = .ok (.iconst 0, 1) := by decide +kernel
theorem dX3_after_3 : decode cX3_after 3 = .ok (.istore 4, 2) := by decide +kernel
theorem dX3_after_5 : decode cX3_after 5 = .ok (.iload 4, 2) := by decide +kernel
theorem dX3_after_7 : decode cX3_after 7 = .ok (.iconst 5, 1) := by decide +kernel
theorem dX3_after_8 : decode cX3_after 8 = .ok (.if_icmp .ge 30, 3) := by decide +kernel
theorem dX3_after_11 : decode cX3_after 11 = .ok (.iload_n 2, 1) := by decide +kernel
theorem dX3_after_12 : decode cX3_after 12 = .ok (.iload 4, 2) := by decide +kernel
theorem dX3_after_14 : decode cX3_after 14 = .ok (.ishr, 1) := by decide +kernel
theorem dX3_after_15 : decode cX3_after 15 = .ok (.iconst 1, 1) := by decide +kernel
theorem dX3_after_16 : decode cX3_after 16 = .ok (.iand, 1) := by decide +kernel
theorem dX3_after_17 : decode cX3_after 17 = .ok (.iconst 1, 1) := by decide +kernel
theorem dX3_after_18 : decode cX3_after 18 = .ok (.if_icmp .ne 14, 3) := by decide +kernel
theorem dX3_after_21 : decode cX3_after 21 = .ok (.aload_n 0, 1) := by decide +kernel
theorem dX3_after_22 : decode cX3_after 22 = .ok (.getfield 21, 3) := by decide +kernel
theorem dX3_after_25 : decode cX3_after 25 = .ok (.iload_n 3, 1) := by decide +kernel
theorem dX3_after_26 : decode cX3_after 26 = .ok (.iload 4, 2) := by decide +kernel
theorem dX3_after_28 : decode cX3_after 28 = .ok (.invokevirtual 44, 3) := by decide +kernel
theorem dX3_after_31 : decode cX3_after 31 = .ok (.istore_n 3, 1) := by decide +kernel
theorem dX3_after_32 : decode cX3_after 32 = .ok (.iinc 4 1, 3) := by decide +kernel
theorem dX3_after_35 : decode cX3_after 35 = .ok (.goto (-30), 3) := by decide +kernel
theorem dX3_after_38 : decode cX3_after 38 = .ok (.iload_n 3, 1) := by decide +kernel
theorem dX3_after_39 : decode cX3_after 39 = .ok (.ireturn, 1) := by decide +kernel
set_option maxRecDepth 20000 in
theorem ggX3_flashAt_X5_who : GoodIn wsX3_flashAt wsX5_who := goodIn_r _ [7, 8, 17, 18, 19, 20, 21] (by decide +kernel) (by decide +kernel)
set_option maxRecDepth 20000 in
theorem gX3_flashAt_X5_who : GoodIn wsX3_flashAt (wsV RX3 36 RX5 yX5_who wsX5_who) := goodIn_app (goodIn_of _ (by decide +kernel)) ggX3_flashAt_X5_who
set_option maxRecDepth 20000 in
theorem ggX3_flashAt_X4_flashOf : GoodIn wsX3_flashAt wsX4_flashOf := goodIn_r _ [13, 14, 22, 23, 24, 25, 26, 27] (by decide +kernel) (by decide +kernel)
set_option maxRecDepth 20000 in
theorem gX3_flashAt_X4_flashOf : GoodIn wsX3_flashAt (wsV RX3 47 RX4 yX4_flashOf wsX4_flashOf) := goodIn_app (goodIn_of _ (by decide +kernel)) ggX3_flashAt_X4_flashOf
theorem dX3_flashAt_0 : decode cX3_flashAt 0 = .ok (.aload_n 0, 1) := by decide +kernel
theorem dX3_flashAt_1 : decode cX3_flashAt 1 = .ok (.getfield 12, 3) := by decide +kernel
theorem dX3_flashAt_4 : decode cX3_flashAt 4 = .ok (.aload_n 0, 1) := by decide +kernel
theorem dX3_flashAt_5 : decode cX3_flashAt 5 = .ok (.getfield 21, 3) := by decide +kernel
theorem dX3_flashAt_8 : decode cX3_flashAt 8 = .ok (.iload_n 1, 1) := by decide +kernel
theorem dX3_flashAt_9 : decode cX3_flashAt 9 = .ok (.iload_n 2, 1) := by decide +kernel
theorem dX3_flashAt_10 : decode cX3_flashAt 10 = .ok (.invokevirtual 36, 3) := by decide +kernel
theorem dX3_flashAt_13 : decode cX3_flashAt 13 = .ok (.invokevirtual 47, 3) := by decide +kernel
theorem dX3_flashAt_16 : decode cX3_flashAt 16 = .ok (.ireturn, 1) := by decide +kernel
set_option maxRecDepth 20000 in
theorem ggX3_likes_X3_flashAt : GoodIn wsX3_likes wsX3_flashAt := goodIn_r _ [12, 1, 13, 14, 15, 16, 17, 18, 19, 20, 21, 22, 23, 24, 25, 26, 27, 34, 35, 36, 37, 38, 28, 29, 30, 31, 32, 33] (by decide +kernel) (by decide +kernel)
set_option maxRecDepth 20000 in
theorem gX3_likes_X3_flashAt : GoodIn wsX3_likes (wsV RX3 50 RX3 yX3_flashAt wsX3_flashAt) := goodIn_app (goodIn_of _ (by decide +kernel)) ggX3_likes_X3_flashAt
theorem dX3_likes_0 : decode cX3_likes 0 = .ok (.iconst 0, 1) := by decide +kernel
theorem dX3_likes_1 : decode cX3_likes 1 = .ok (.istore_n 2, 1) := by decide +kernel
theorem dX3_likes_2 : decode cX3_likes 2 = .ok (.iconst 0, 1) := by decide +kernel
theorem dX3_likes_3 : decode cX3_likes 3 = .ok (.istore_n 3, 1) := by decide +kernel
theorem dX3_likes_4 : decode cX3_likes 4 = .ok (.iload_n 3, 1) := by decide +kernel
theorem dX3_likes_5 : decode cX3_likes 5 = .ok (.aload_n 0, 1) := by decide +kernel
theorem dX3_likes_6 : decode cX3_likes 6 = .ok (.getfield 12, 3) := by decide +kernel
theorem dX3_likes_9 : decode cX3_likes 9 = .ok (.getfield 29, 3) := by decide +kernel
theorem dX3_likes_12 : decode cX3_likes 12 = .ok (.if_icmp .ge 73, 3) := by decide +kernel
theorem dX3_likes_15 : decode cX3_likes 15 = .ok (.aload_n 0, 1) := by decide +kernel
theorem dX3_likes_16 : decode cX3_likes 16 = .ok (.iload_n 1, 1) := by decide +kernel
theorem dX3_likes_17 : decode cX3_likes 17 = .ok (.iload_n 3, 1) := by decide +kernel
theorem dX3_likes_18 : decode cX3_likes 18 = .ok (.invokevirtual 50, 3) := by decide +kernel
theorem dX3_likes_21 : decode cX3_likes 21 = .ok (.istore 4, 2) := by decide +kernel
theorem dX3_likes_23 : decode cX3_likes 23 = .ok (.iload_n 3, 1) := by decide +kernel
theorem dX3_likes_24 : decode cX3_likes 24 = .ok (.aload_n 0, 1) := by decide +kernel
theorem dX3_likes_25 : decode cX3_likes 25 = .ok (.getfield 12, 3) := by decide +kernel
theorem dX3_likes_28 : decode cX3_likes 28 = .ok (.getfield 53, 3) := by decide +kernel
theorem dX3_likes_31 : decode cX3_likes 31 = .ok (.iadd, 1) := by decide +kernel
theorem dX3_likes_32 : decode cX3_likes 32 = .ok (.aload_n 0, 1) := by decide +kernel
theorem dX3_likes_33 : decode cX3_likes 33 = .ok (.getfield 12, 3) := by decide +kernel
theorem dX3_likes_36 : decode cX3_likes 36 = .ok (.getfield 29, 3) := by decide +kernel
theorem dX3_likes_39 : decode cX3_likes 39 = .ok (.iconst 1, 1) := by decide +kernel
theorem dX3_likes_40 : decode cX3_likes 40 = .ok (.isub, 1) := by decide +kernel
theorem dX3_likes_41 : decode cX3_likes 41 = .ok (.invokestatic 56, 3) := by decide +kernel
theorem dX3_likes_44 : decode cX3_likes 44 = .ok (.istore 5, 2) := by decide +kernel
theorem dX3_likes_46 : decode cX3_likes 46 = .ok (.iload_n 3, 1) := by decide +kernel
theorem dX3_likes_47 : decode cX3_likes 47 = .ok (.iconst 1, 1) := by decide +kernel
theorem dX3_likes_48 : decode cX3_likes 48 = .ok (.iadd, 1) := by decide +kernel
theorem dX3_likes_49 : decode cX3_likes 49 = .ok (.istore 6, 2) := by decide +kernel
theorem dX3_likes_51 : decode cX3_likes 51 = .ok (.iload 6, 2) := by decide +kernel
theorem dX3_likes_53 : decode cX3_likes 53 = .ok (.iload 5, 2) := by decide +kernel
theorem dX3_likes_55 : decode cX3_likes 55 = .ok (.if_icmp .gt 24, 3) := by decide +kernel
theorem dX3_likes_58 : decode cX3_likes 58 = .ok (.aload_n 0, 1) := by decide +kernel
theorem dX3_likes_59 : decode cX3_likes 59 = .ok (.iload_n 1, 1) := by decide +kernel
theorem dX3_likes_60 : decode cX3_likes 60 = .ok (.iload 6, 2) := by decide +kernel
theorem dX3_likes_62 : decode cX3_likes 62 = .ok (.invokevirtual 50, 3) := by decide +kernel
theorem dX3_likes_65 : decode cX3_likes 65 = .ok (.iload 4, 2) := by decide +kernel
theorem dX3_likes_67 : decode cX3_likes 67 = .ok (.if_icmp .ne 6, 3) := by decide +kernel
theorem dX3_likes_70 : decode cX3_likes 70 = .ok (.iinc 2 1, 3) := by decide +kernel
theorem dX3_likes_73 : decode cX3_likes 73 = .ok (.iinc 6 1, 3) := by decide +kernel
theorem dX3_likes_76 : decode cX3_likes 76 = .ok (.goto (-25), 3) := by decide +kernel
theorem dX3_likes_79 : decode cX3_likes 79 = .ok (.iinc 3 1, 3) := by decide +kernel
theorem dX3_likes_82 : decode cX3_likes 82 = .ok (.goto (-78), 3) := by decide +kernel
theorem dX3_likes_85 : decode cX3_likes 85 = .ok (.iload_n 2, 1) := by decide +kernel
theorem dX3_likes_86 : decode cX3_likes 86 = .ok (.ireturn, 1) := by decide +kernel
set_option maxRecDepth 20000 in
theorem ggX3_calmest_X3_willing : GoodIn wsX3_calmest wsX3_willing := goodIn_r _ [5, 6, 7, 8, 9, 10, 11, 12, 13, 14, 15, 16, 17, 18, 19, 20, 62, 63, 64, 65, 66, 67, 68, 69, 70, 71, 72, 73, 74] (by decide +kernel) (by decide +kernel)
set_option maxRecDepth 20000 in
theorem gX3_calmest_X3_willing : GoodIn wsX3_calmest (wsV RX3 61 RX3 yX3_willing wsX3_willing) := goodIn_app (goodIn_of _ (by decide +kernel)) ggX3_calmest_X3_willing
set_option maxRecDepth 20000 in
theorem ggX3_calmest_X3_likes : GoodIn wsX3_calmest wsX3_likes := goodIn_r _ [24, 6, 7, 25, 26, 27, 28, 29, 30, 31, 32, 4, 33, 8, 9, 10, 11, 12, 13, 14, 34, 35, 36, 18, 37, 38, 62, 63, 64, 65, 66, 67, 68, 69, 70, 71, 72, 73, 74] (by decide +kernel) (by decide +kernel)
set_option maxRecDepth 20000 in
theorem gX3_calmest_X3_likes : GoodIn wsX3_calmest (wsV RX3 64 RX3 yX3_likes wsX3_likes) := goodIn_app (goodIn_of _ (by decide +kernel)) ggX3_calmest_X3_likes
set_option maxRecDepth 20000 in
theorem ggX3_calmest_X3_changes : GoodIn wsX3_calmest wsX3_changes := goodIn_r _ [42, 6, 7, 62, 63, 64, 65, 66, 67, 68, 69] (by decide +kernel) (by decide +kernel)
set_option maxRecDepth 20000 in
theorem gX3_calmest_X3_changes : GoodIn wsX3_calmest (wsV RX3 67 RX3 yX3_changes wsX3_changes) := goodIn_app (goodIn_of _ (by decide +kernel)) ggX3_calmest_X3_changes
set_option maxRecDepth 20000 in
theorem ggX3_calmest_X3_allows : GoodIn wsX3_calmest wsX3_allows := goodIn_r _ [45] (by decide +kernel) (by decide +kernel)
set_option maxRecDepth 20000 in
theorem gX3_calmest_X3_allows : GoodIn wsX3_calmest (va_wsS RX3 71 yX3_allows wsX3_allows) := goodIn_app (goodIn_of _ (by decide +kernel)) ggX3_calmest_X3_allows
set_option maxRecDepth 20000 in
theorem ggX3_calmest_X3_after : GoodIn wsX3_calmest wsX3_after := goodIn_r _ [49, 8, 50, 51, 52, 12, 53, 54, 62, 63, 70, 71, 72, 73, 74] (by decide +kernel) (by decide +kernel)
set_option maxRecDepth 20000 in
theorem gX3_calmest_X3_after : GoodIn wsX3_calmest (wsV RX3 75 RX3 yX3_after wsX3_after) := goodIn_app (goodIn_of _ (by decide +kernel)) ggX3_calmest_X3_after
set_option maxRecDepth 20000 in
theorem ggX3_calmest_J6_bitCount_0f7a4 : GoodIn wsX3_calmest wsJ6_bitCount_0f7a4 := goodIn_r _ [58, 59, 60, 61] (by decide +kernel) (by decide +kernel)
set_option maxRecDepth 20000 in
theorem gX3_calmest_J6_bitCount_0f7a4 : GoodIn wsX3_calmest (va_wsS RX3 78 yJ6_bitCount_0f7a4 wsJ6_bitCount_0f7a4) := goodIn_app (goodIn_of _ (by decide +kernel)) ggX3_calmest_J6_bitCount_0f7a4
theorem dX3_calmest_0 : decode cX3_calmest 0 = .ok (.aload_n 0, 1) := by decide +kernel
theorem dX3_calmest_1 : decode cX3_calmest 1 = .ok (.iload_n 1, 1) := by decide +kernel
theorem dX3_calmest_2 : decode cX3_calmest 2 = .ok (.invokevirtual 61, 3) := by decide +kernel
theorem dX3_calmest_5 : decode cX3_calmest 5 = .ok (.istore_n 2, 1) := by decide +kernel
theorem dX3_calmest_6 : decode cX3_calmest 6 = .ok (.iconst 0, 1) := by decide +kernel
theorem dX3_calmest_7 : decode cX3_calmest 7 = .ok (.istore_n 3, 1) := by decide +kernel
theorem dX3_calmest_8 : decode cX3_calmest 8 = .ok (.aload_n 0, 1) := by decide +kernel
theorem dX3_calmest_9 : decode cX3_calmest 9 = .ok (.iload_n 1, 1) := by decide +kernel
theorem dX3_calmest_10 : decode cX3_calmest 10 = .ok (.invokevirtual 64, 3) := by decide +kernel
theorem dX3_calmest_13 : decode cX3_calmest 13 = .ok (.istore 4, 2) := by decide +kernel
theorem dX3_calmest_15 : decode cX3_calmest 15 = .ok (.iconst 1, 1) := by decide +kernel
theorem dX3_calmest_16 : decode cX3_calmest 16 = .ok (.istore 5, 2) := by decide +kernel
theorem dX3_calmest_18 : decode cX3_calmest 18 = .ok (.iload 5, 2) := by decide +kernel
theorem dX3_calmest_20 : decode cX3_calmest 20 = .ok (.aload_n 0, 1) := by decide +kernel
theorem dX3_calmest_21 : decode cX3_calmest 21 = .ok (.invokevirtual 67, 3) := by decide +kernel
theorem dX3_calmest_24 : decode cX3_calmest 24 = .ok (.if_icmp .ge 76, 3) := by decide +kernel
theorem dX3_calmest_27 : decode cX3_calmest 27 = .ok (.iload_n 2, 1) := by decide +kernel
theorem dX3_calmest_28 : decode cX3_calmest 28 = .ok (.iload 5, 2) := by decide +kernel
theorem dX3_calmest_30 : decode cX3_calmest 30 = .ok (.invokestatic 71, 3) := by decide +kernel
theorem dX3_calmest_33 : decode cX3_calmest 33 = .ok (.ifCond .eq 61, 3) := by decide +kernel
theorem dX3_calmest_36 : decode cX3_calmest 36 = .ok (.aload_n 0, 1) := by decide +kernel
theorem dX3_calmest_37 : decode cX3_calmest 37 = .ok (.aload_n 0, 1) := by decide +kernel
theorem dX3_calmest_38 : decode cX3_calmest 38 = .ok (.iload_n 1, 1) := by decide +kernel
theorem dX3_calmest_39 : decode cX3_calmest 39 = .ok (.iload 5, 2) := by decide +kernel
theorem dX3_calmest_41 : decode cX3_calmest 41 = .ok (.invokevirtual 75, 3) := by decide +kernel
theorem dX3_calmest_44 : decode cX3_calmest 44 = .ok (.invokevirtual 64, 3) := by decide +kernel
theorem dX3_calmest_47 : decode cX3_calmest 47 = .ok (.istore 6, 2) := by decide +kernel
theorem dX3_calmest_49 : decode cX3_calmest 49 = .ok (.iload 5, 2) := by decide +kernel
theorem dX3_calmest_51 : decode cX3_calmest 51 = .ok (.invokestatic 78, 3) := by decide +kernel
theorem dX3_calmest_54 : decode cX3_calmest 54 = .ok (.iload_n 3, 1) := by decide +kernel
theorem dX3_calmest_55 : decode cX3_calmest 55 = .ok (.invokestatic 78, 3) := by decide +kernel
theorem dX3_calmest_58 : decode cX3_calmest 58 = .ok (.if_icmp .le 7, 3) := by decide +kernel
theorem dX3_calmest_61 : decode cX3_calmest 61 = .ok (.iconst 1, 1) := by decide +kernel
theorem dX3_calmest_62 : decode cX3_calmest 62 = .ok (.goto 4, 3) := by decide +kernel
theorem dX3_calmest_65 : decode cX3_calmest 65 = .ok (.iconst 0, 1) := by decide +kernel
theorem dX3_calmest_66 : decode cX3_calmest 66 = .ok (.istore 7, 2) := by decide +kernel
theorem dX3_calmest_68 : decode cX3_calmest 68 = .ok (.iload 6, 2) := by decide +kernel
theorem dX3_calmest_70 : decode cX3_calmest 70 = .ok (.iload 4, 2) := by decide +kernel
theorem dX3_calmest_72 : decode cX3_calmest 72 = .ok (.if_icmp .lt 15, 3) := by decide +kernel
theorem dX3_calmest_75 : decode cX3_calmest 75 = .ok (.iload 6, 2) := by decide +kernel
theorem dX3_calmest_77 : decode cX3_calmest 77 = .ok (.iload 4, 2) := by decide +kernel
theorem dX3_calmest_79 : decode cX3_calmest 79 = .ok (.if_icmp .ne 15, 3) := by decide +kernel
theorem dX3_calmest_82 : decode cX3_calmest 82 = .ok (.iload 7, 2) := by decide +kernel
theorem dX3_calmest_84 : decode cX3_calmest 84 = .ok (.ifCond .eq 10, 3) := by decide +kernel
theorem dX3_calmest_87 : decode cX3_calmest 87 = .ok (.iload 5, 2) := by decide +kernel
theorem dX3_calmest_89 : decode cX3_calmest 89 = .ok (.istore_n 3, 1) := by decide +kernel
theorem dX3_calmest_90 : decode cX3_calmest 90 = .ok (.iload 6, 2) := by decide +kernel
theorem dX3_calmest_92 : decode cX3_calmest 92 = .ok (.istore 4, 2) := by decide +kernel
theorem dX3_calmest_94 : decode cX3_calmest 94 = .ok (.iinc 5 1, 3) := by decide +kernel
theorem dX3_calmest_97 : decode cX3_calmest 97 = .ok (.goto (-79), 3) := by decide +kernel
theorem dX3_calmest_100 : decode cX3_calmest 100 = .ok (.iload_n 3, 1) := by decide +kernel
theorem dX3_calmest_101 : decode cX3_calmest 101 = .ok (.ireturn, 1) := by decide +kernel
theorem dX4_init_0 : decode cX4_init 0 = .ok (.aload_n 0, 1) := by decide +kernel
theorem dX4_init_1 : decode cX4_init 1 = .ok (.invokespecial 3, 3) := by decide +kernel
theorem dX4_init_4 : decode cX4_init 4 = .ok (.aload_n 0, 1) := by decide +kernel
theorem dX4_init_5 : decode cX4_init 5 = .ok (.iconst 1, 1) := by decide +kernel
theorem dX4_init_6 : decode cX4_init 6 = .ok (.putfield 9, 3) := by decide +kernel
theorem dX4_init_9 : decode cX4_init 9 = .ok (.aload_n 0, 1) := by decide +kernel
theorem dX4_init_10 : decode cX4_init 10 = .ok (.bipush 6, 2) := by decide +kernel
theorem dX4_init_12 : decode cX4_init 12 = .ok (.newarray .int, 2) := by decide +kernel
theorem dX4_init_14 : decode cX4_init 14 = .ok (.putfield 15, 3) := by decide +kernel
theorem dX4_init_17 : decode cX4_init 17 = .ok (.aload_n 0, 1) := by decide +kernel
theorem dX4_init_18 : decode cX4_init 18 = .ok (.bipush 6, 2) := by decide +kernel
theorem dX4_init_20 : decode cX4_init 20 = .ok (.newarray .int, 2) := by decide +kernel
theorem dX4_init_22 : decode cX4_init 22 = .ok (.putfield 19, 3) := by decide +kernel
theorem dX4_init_25 : decode cX4_init 25 = .ok (.return_, 1) := by decide +kernel
set_option maxRecDepth 20000 in
theorem ggX4_begin_J7_fill_53178 : GoodIn wsX4_begin wsJ7_fill_53178 := goodIn_r _ [9] (by decide +kernel) (by decide +kernel)
set_option maxRecDepth 20000 in
theorem gX4_begin_J7_fill_53178 : GoodIn wsX4_begin (va_wsS RX4 32 yJ7_fill_53178 wsJ7_fill_53178) := goodIn_app (goodIn_of _ (by decide +kernel)) ggX4_begin_J7_fill_53178
theorem dX4_begin_0 : decode cX4_begin 0 = .ok (.aload_n 0, 1) := by decide +kernel
theorem dX4_begin_1 : decode cX4_begin 1 = .ok (.iconst 0, 1) := by decide +kernel
theorem dX4_begin_2 : decode cX4_begin 2 = .ok (.putfield 22, 3) := by decide +kernel
theorem dX4_begin_5 : decode cX4_begin 5 = .ok (.aload_n 0, 1) := by decide +kernel
theorem dX4_begin_6 : decode cX4_begin 6 = .ok (.iconst 0, 1) := by decide +kernel
theorem dX4_begin_7 : decode cX4_begin 7 = .ok (.putfield 25, 3) := by decide +kernel
theorem dX4_begin_10 : decode cX4_begin 10 = .ok (.aload_n 0, 1) := by decide +kernel
theorem dX4_begin_11 : decode cX4_begin 11 = .ok (.iconst 1, 1) := by decide +kernel
theorem dX4_begin_12 : decode cX4_begin 12 = .ok (.putfield 9, 3) := by decide +kernel
theorem dX4_begin_15 : decode cX4_begin 15 = .ok (.aload_n 0, 1) := by decide +kernel
theorem dX4_begin_16 : decode cX4_begin 16 = .ok (.iconst 0, 1) := by decide +kernel
theorem dX4_begin_17 : decode cX4_begin 17 = .ok (.putfield 28, 3) := by decide +kernel
theorem dX4_begin_20 : decode cX4_begin 20 = .ok (.aload_n 0, 1) := by decide +kernel
theorem dX4_begin_21 : decode cX4_begin 21 = .ok (.getfield 19, 3) := by decide +kernel
theorem dX4_begin_24 : decode cX4_begin 24 = .ok (.iconst 0, 1) := by decide +kernel
theorem dX4_begin_25 : decode cX4_begin 25 = .ok (.invokestatic 32, 3) := by decide +kernel
theorem dX4_begin_28 : decode cX4_begin 28 = .ok (.return_, 1) := by decide +kernel
theorem dX4_become_0 : decode cX4_become 0 = .ok (.aload_n 0, 1) := by decide +kernel
theorem dX4_become_1 : decode cX4_become 1 = .ok (.aload_n 1, 1) := by decide +kernel
theorem dX4_become_2 : decode cX4_become 2 = .ok (.getfield 22, 3) := by decide +kernel
theorem dX4_become_5 : decode cX4_become 5 = .ok (.putfield 22, 3) := by decide +kernel
theorem dX4_become_8 : decode cX4_become 8 = .ok (.aload_n 0, 1) := by decide +kernel
theorem dX4_become_9 : decode cX4_become 9 = .ok (.aload_n 1, 1) := by decide +kernel
theorem dX4_become_10 : decode cX4_become 10 = .ok (.getfield 25, 3) := by decide +kernel
theorem dX4_become_13 : decode cX4_become 13 = .ok (.putfield 25, 3) := by decide +kernel
theorem dX4_become_16 : decode cX4_become 16 = .ok (.aload_n 0, 1) := by decide +kernel
theorem dX4_become_17 : decode cX4_become 17 = .ok (.aload_n 1, 1) := by decide +kernel
theorem dX4_become_18 : decode cX4_become 18 = .ok (.getfield 9, 3) := by decide +kernel
theorem dX4_become_21 : decode cX4_become 21 = .ok (.putfield 9, 3) := by decide +kernel
theorem dX4_become_24 : decode cX4_become 24 = .ok (.aload_n 1, 1) := by decide +kernel
theorem dX4_become_25 : decode cX4_become 25 = .ok (.getfield 15, 3) := by decide +kernel
theorem dX4_become_28 : decode cX4_become 28 = .ok (.iconst 0, 1) := by decide +kernel
theorem dX4_become_29 : decode cX4_become 29 = .ok (.aload_n 0, 1) := by decide +kernel
theorem dX4_become_30 : decode cX4_become 30 = .ok (.getfield 15, 3) := by decide +kernel
theorem dX4_become_33 : decode cX4_become 33 = .ok (.iconst 0, 1) := by decide +kernel
theorem dX4_become_34 : decode cX4_become 34 = .ok (.bipush 6, 2) := by decide +kernel
theorem dX4_become_36 : decode cX4_become 36 = .ok (.invokestatic 38, 3) := by decide +kernel
theorem dX4_become_39 : decode cX4_become 39 = .ok (.aload_n 1, 1) := by decide +kernel
theorem dX4_become_40 : decode cX4_become 40 = .ok (.getfield 19, 3) := by decide +kernel
theorem dX4_become_43 : decode cX4_become 43 = .ok (.iconst 0, 1) := by decide +kernel
theorem dX4_become_44 : decode cX4_become 44 = .ok (.aload_n 0, 1) := by decide +kernel
theorem dX4_become_45 : decode cX4_become 45 = .ok (.getfield 19, 3) := by decide +kernel
theorem dX4_become_48 : decode cX4_become 48 = .ok (.iconst 0, 1) := by decide +kernel
theorem dX4_become_49 : decode cX4_become 49 = .ok (.bipush 6, 2) := by decide +kernel
theorem dX4_become_51 : decode cX4_become 51 = .ok (.invokestatic 38, 3) := by decide +kernel
theorem dX4_become_54 : decode cX4_become 54 = .ok (.return_, 1) := by decide +kernel
set_option maxRecDepth 20000 in
theorem ggX4_addKeeper_X6_put : GoodIn wsX4_addKeeper wsX6_put := goodIn_r _ [5] (by decide +kernel) (by decide +kernel)
set_option maxRecDepth 20000 in
theorem gX4_addKeeper_X6_put_n44 : GoodIn wsX4_addKeeper (wsX6_put) := ggX4_addKeeper_X6_put
theorem dX4_addKeeper_0 : decode cX4_addKeeper 0 = .ok (.aload_n 0, 1) := by decide +kernel
theorem dX4_addKeeper_1 : decode cX4_addKeeper 1 = .ok (.getfield 15, 3) := by decide +kernel
theorem dX4_addKeeper_4 : decode cX4_addKeeper 4 = .ok (.aload_n 0, 1) := by decide +kernel
theorem dX4_addKeeper_5 : decode cX4_addKeeper 5 = .ok (.getfield 22, 3) := by decide +kernel
theorem dX4_addKeeper_8 : decode cX4_addKeeper 8 = .ok (.iload_n 1, 1) := by decide +kernel
theorem dX4_addKeeper_9 : decode cX4_addKeeper 9 = .ok (.invokestatic 44, 3) := by decide +kernel
theorem dX4_addKeeper_12 : decode cX4_addKeeper 12 = .ok (.aload_n 0, 1) := by decide +kernel
theorem dX4_addKeeper_13 : decode cX4_addKeeper 13 = .ok (.dup, 1) := by decide +kernel
theorem dX4_addKeeper_14 : decode cX4_addKeeper 14 = .ok (.getfield 22, 3) := by decide +kernel
theorem dX4_addKeeper_17 : decode cX4_addKeeper 17 = .ok (.iconst 1, 1) := by decide +kernel
theorem dX4_addKeeper_18 : decode cX4_addKeeper 18 = .ok (.iadd, 1) := by decide +kernel
theorem dX4_addKeeper_19 : decode cX4_addKeeper 19 = .ok (.putfield 22, 3) := by decide +kernel
theorem dX4_addKeeper_22 : decode cX4_addKeeper 22 = .ok (.return_, 1) := by decide +kernel
set_option maxRecDepth 20000 in
theorem ggX4_addHate_X4_hatersOf : GoodIn wsX4_addHate wsX4_hatersOf := goodIn_r _ [7, 1, 11, 12, 13, 14, 15, 16] (by decide +kernel) (by decide +kernel)
set_option maxRecDepth 20000 in
theorem gX4_addHate_X4_hatersOf : GoodIn wsX4_addHate (wsV RX4 48 RX4 yX4_hatersOf wsX4_hatersOf) := goodIn_app (goodIn_of _ (by decide +kernel)) ggX4_addHate_X4_hatersOf
set_option maxRecDepth 20000 in
theorem ggX4_addHate_X6_put : GoodIn wsX4_addHate wsX6_put := goodIn_r _ [10] (by decide +kernel) (by decide +kernel)
set_option maxRecDepth 20000 in
theorem gX4_addHate_X6_put_n44 : GoodIn wsX4_addHate (wsX6_put) := ggX4_addHate_X6_put
theorem dX4_addHate_0 : decode cX4_addHate 0 = .ok (.aload_n 0, 1) := by decide +kernel
theorem dX4_addHate_1 : decode cX4_addHate 1 = .ok (.getfield 19, 3) := by decide +kernel
theorem dX4_addHate_4 : decode cX4_addHate 4 = .ok (.iload_n 1, 1) := by decide +kernel
theorem dX4_addHate_5 : decode cX4_addHate 5 = .ok (.aload_n 0, 1) := by decide +kernel
theorem dX4_addHate_6 : decode cX4_addHate 6 = .ok (.iload_n 1, 1) := by decide +kernel
theorem dX4_addHate_7 : decode cX4_addHate 7 = .ok (.invokevirtual 48, 3) := by decide +kernel
theorem dX4_addHate_10 : decode cX4_addHate 10 = .ok (.iconst 1, 1) := by decide +kernel
theorem dX4_addHate_11 : decode cX4_addHate 11 = .ok (.iload_n 2, 1) := by decide +kernel
theorem dX4_addHate_12 : decode cX4_addHate 12 = .ok (.ishl, 1) := by decide +kernel
theorem dX4_addHate_13 : decode cX4_addHate 13 = .ok (.ior, 1) := by decide +kernel
theorem dX4_addHate_14 : decode cX4_addHate 14 = .ok (.invokestatic 44, 3) := by decide +kernel
theorem dX4_addHate_17 : decode cX4_addHate 17 = .ok (.aload_n 0, 1) := by decide +kernel
theorem dX4_addHate_18 : decode cX4_addHate 18 = .ok (.getfield 19, 3) := by decide +kernel
theorem dX4_addHate_21 : decode cX4_addHate 21 = .ok (.iload_n 2, 1) := by decide +kernel
theorem dX4_addHate_22 : decode cX4_addHate 22 = .ok (.aload_n 0, 1) := by decide +kernel
theorem dX4_addHate_23 : decode cX4_addHate 23 = .ok (.iload_n 2, 1) := by decide +kernel
theorem dX4_addHate_24 : decode cX4_addHate 24 = .ok (.invokevirtual 48, 3) := by decide +kernel
theorem dX4_addHate_27 : decode cX4_addHate 27 = .ok (.iconst 1, 1) := by decide +kernel
theorem dX4_addHate_28 : decode cX4_addHate 28 = .ok (.iload_n 1, 1) := by decide +kernel
theorem dX4_addHate_29 : decode cX4_addHate 29 = .ok (.ishl, 1) := by decide +kernel
theorem dX4_addHate_30 : decode cX4_addHate 30 = .ok (.ior, 1) := by decide +kernel
theorem dX4_addHate_31 : decode cX4_addHate 31 = .ok (.invokestatic 44, 3) := by decide +kernel
theorem dX4_addHate_34 : decode cX4_addHate 34 = .ok (.aload_n 0, 1) := by decide +kernel
theorem dX4_addHate_35 : decode cX4_addHate 35 = .ok (.dup, 1) := by decide +kernel
theorem dX4_addHate_36 : decode cX4_addHate 36 = .ok (.getfield 25, 3) := by decide +kernel
theorem dX4_addHate_39 : decode cX4_addHate 39 = .ok (.iconst 1, 1) := by decide +kernel
theorem dX4_addHate_40 : decode cX4_addHate 40 = .ok (.iadd, 1) := by decide +kernel
theorem dX4_addHate_41 : decode cX4_addHate 41 = .ok (.putfield 25, 3) := by decide +kernel
theorem dX4_addHate_44 : decode cX4_addHate 44 = .ok (.return_, 1) := by decide +kernel
theorem dX4_tellSight_0 : decode cX4_tellSight 0 = .ok (.aload_n 0, 1) := by decide +kernel
theorem dX4_tellSight_1 : decode cX4_tellSight 1 = .ok (.iload_n 1, 1) := by decide +kernel
theorem dX4_tellSight_2 : decode cX4_tellSight 2 = .ok (.putfield 9, 3) := by decide +kernel
theorem dX4_tellSight_5 : decode cX4_tellSight 5 = .ok (.aload_n 0, 1) := by decide +kernel
theorem dX4_tellSight_6 : decode cX4_tellSight 6 = .ok (.iconst 1, 1) := by decide +kernel
theorem dX4_tellSight_7 : decode cX4_tellSight 7 = .ok (.putfield 28, 3) := by decide +kernel
theorem dX4_tellSight_10 : decode cX4_tellSight 10 = .ok (.return_, 1) := by decide +kernel
theorem dX4_flashOf_0 : decode cX4_flashOf 0 = .ok (.iload_n 1, 1) := by decide +kernel
theorem dX4_flashOf_1 : decode cX4_flashOf 1 = .ok (.ifCond .lt 18, 3) := by decide +kernel
theorem dX4_flashOf_4 : decode cX4_flashOf 4 = .ok (.iload_n 1, 1) := by decide +kernel
theorem dX4_flashOf_5 : decode cX4_flashOf 5 = .ok (.bipush 6, 2) := by decide +kernel
theorem dX4_flashOf_7 : decode cX4_flashOf 7 = .ok (.if_icmp .ge 12, 3) := by decide +kernel
theorem dX4_flashOf_10 : decode cX4_flashOf 10 = .ok (.aload_n 0, 1) := by decide +kernel
theorem dX4_flashOf_11 : decode cX4_flashOf 11 = .ok (.getfield 15, 3) := by decide +kernel
theorem dX4_flashOf_14 : decode cX4_flashOf 14 = .ok (.iload_n 1, 1) := by decide +kernel
theorem dX4_flashOf_15 : decode cX4_flashOf 15 = .ok (.iaload, 1) := by decide +kernel
theorem dX4_flashOf_16 : decode cX4_flashOf 16 = .ok (.goto 4, 3) := by decide +kernel
theorem dX4_flashOf_19 : decode cX4_flashOf 19 = .ok (.iconst 0, 1) := by decide +kernel
theorem dX4_flashOf_20 : decode cX4_flashOf 20 = .ok (.ireturn, 1) := by decide +kernel
theorem dX4_hatersOf_0 : decode cX4_hatersOf 0 = .ok (.iload_n 1, 1) := by decide +kernel
theorem dX4_hatersOf_1 : decode cX4_hatersOf 1 = .ok (.ifCond .lt 18, 3) := by decide +kernel
theorem dX4_hatersOf_4 : decode cX4_hatersOf 4 = .ok (.iload_n 1, 1) := by decide +kernel
theorem dX4_hatersOf_5 : decode cX4_hatersOf 5 = .ok (.bipush 6, 2) := by decide +kernel
theorem dX4_hatersOf_7 : decode cX4_hatersOf 7 = .ok (.if_icmp .ge 12, 3) := by decide +kernel
theorem dX4_hatersOf_10 : decode cX4_hatersOf 10 = .ok (.aload_n 0, 1) := by decide +kernel
theorem dX4_hatersOf_11 : decode cX4_hatersOf 11 = .ok (.getfield 19, 3) := by decide +kernel
theorem dX4_hatersOf_14 : decode cX4_hatersOf 14 = .ok (.iload_n 1, 1) := by decide +kernel
theorem dX4_hatersOf_15 : decode cX4_hatersOf 15 = .ok (.iaload, 1) := by decide +kernel
theorem dX4_hatersOf_16 : decode cX4_hatersOf 16 = .ok (.goto 4, 3) := by decide +kernel
theorem dX4_hatersOf_19 : decode cX4_hatersOf 19 = .ok (.iconst 0, 1) := by decide +kernel
theorem dX4_hatersOf_20 : decode cX4_hatersOf 20 = .ok (.ireturn, 1) := by decide +kernel
theorem dX5_init_0 : decode cX5_init 0 = .ok (.aload_n 0, 1) := by decide +kernel
theorem dX5_init_1 : decode cX5_init 1 = .ok (.invokespecial 3, 3) := by decide +kernel
theorem dX5_init_4 : decode cX5_init 4 = .ok (.aload_n 0, 1) := by decide +kernel
theorem dX5_init_5 : decode cX5_init 5 = .ok (.iconst 1, 1) := by decide +kernel
theorem dX5_init_6 : decode cX5_init 6 = .ok (.putfield 9, 3) := by decide +kernel
theorem dX5_init_9 : decode cX5_init 9 = .ok (.aload_n 0, 1) := by decide +kernel
theorem dX5_init_10 : decode cX5_init 10 = .ok (.sipush 4320, 3) := by decide +kernel
theorem dX5_init_13 : decode cX5_init 13 = .ok (.newarray .int, 2) := by decide +kernel
theorem dX5_init_15 : decode cX5_init 15 = .ok (.putfield 15, 3) := by decide +kernel
theorem dX5_init_18 : decode cX5_init 18 = .ok (.aload_n 0, 1) := by decide +kernel
theorem dX5_init_19 : decode cX5_init 19 = .ok (.sipush 3600, 3) := by decide +kernel
theorem dX5_init_22 : decode cX5_init 22 = .ok (.newarray .int, 2) := by decide +kernel
theorem dX5_init_24 : decode cX5_init 24 = .ok (.putfield 19, 3) := by decide +kernel
theorem dX5_init_27 : decode cX5_init 27 = .ok (.aload_n 0, 1) := by decide +kernel
theorem dX5_init_28 : decode cX5_init 28 = .ok (.bipush 6, 2) := by decide +kernel
theorem dX5_init_30 : decode cX5_init 30 = .ok (.newarray .int, 2) := by decide +kernel
theorem dX5_init_32 : decode cX5_init 32 = .ok (.putfield 22, 3) := by decide +kernel
theorem dX5_init_35 : decode cX5_init 35 = .ok (.return_, 1) := by decide +kernel
set_option maxRecDepth 20000 in
theorem ggX5_become_X5_factorial : GoodIn wsX5_become wsX5_factorial := goodIn_r _ [13, 14] (by decide +kernel) (by decide +kernel)
set_option maxRecDepth 20000 in
theorem gX5_become_X5_factorial : GoodIn wsX5_become (va_wsS RX5 28 yX5_factorial wsX5_factorial) := goodIn_app (goodIn_of _ (by decide +kernel)) ggX5_become_X5_factorial
set_option maxRecDepth 20000 in
theorem ggX5_become_X5_fillRow : GoodIn wsX5_become wsX5_fillRow := goodIn_r _ [18, 1, 3, 10, 11, 12, 13, 14, 19, 20, 21, 22, 23, 24, 42, 43, 44, 45, 46] (by decide +kernel) (by decide +kernel)
set_option maxRecDepth 20000 in
theorem gX5_become_X5_fillRow : GoodIn wsX5_become (wsV RX5 32 RX5 yX5_fillRow wsX5_fillRow) := goodIn_app (goodIn_of _ (by decide +kernel)) ggX5_become_X5_fillRow
set_option maxRecDepth 20000 in
theorem ggX5_become_X5_swapInRow : GoodIn wsX5_become wsX5_swapInRow := goodIn_r _ [28, 3, 29, 23, 30, 22, 24, 42, 43, 44, 45, 46] (by decide +kernel) (by decide +kernel)
set_option maxRecDepth 20000 in
theorem gX5_become_X5_swapInRow : GoodIn wsX5_become (wsV RX5 42 RX5 yX5_swapInRow wsX5_swapInRow) := goodIn_app (goodIn_of _ (by decide +kernel)) ggX5_become_X5_swapInRow
set_option maxRecDepth 20000 in
theorem ggX5_become_X5_numberOfRow : GoodIn wsX5_become wsX5_numberOfRow := goodIn_r _ [34, 1, 3, 29, 23, 30, 35, 36, 37, 38, 39, 40, 41, 10, 11, 12, 13, 14, 42, 43, 44, 45, 46] (by decide +kernel) (by decide +kernel)
set_option maxRecDepth 20000 in
theorem gX5_become_X5_numberOfRow : GoodIn wsX5_become (wsV RX5 45 RX5 yX5_numberOfRow wsX5_numberOfRow) := goodIn_app (goodIn_of _ (by decide +kernel)) ggX5_become_X5_numberOfRow
set_option maxRecDepth 20000 in
theorem ggX5_become_X6_put : GoodIn wsX5_become wsX6_put := goodIn_r _ [24] (by decide +kernel) (by decide +kernel)
set_option maxRecDepth 20000 in
theorem gX5_become_X6_put_n49 : GoodIn wsX5_become (wsX6_put) := ggX5_become_X6_put
theorem dX5_become_0 : decode cX5_become 0 = .ok (.iload_n 1, 1) := by decide +kernel
theorem dX5_become_1 : decode cX5_become 1 = .ok (.aload_n 0, 1) := by decide +kernel
theorem dX5_become_2 : decode cX5_become 2 = .ok (.getfield 25, 3) := by decide +kernel
theorem dX5_become_5 : decode cX5_become 5 = .ok (.if_icmp .eq 13, 3) := by decide +kernel
theorem dX5_become_8 : decode cX5_become 8 = .ok (.iload_n 1, 1) := by decide +kernel
theorem dX5_become_9 : decode cX5_become 9 = .ok (.ifCond .lt 9, 3) := by decide +kernel
theorem dX5_become_12 : decode cX5_become 12 = .ok (.iload_n 1, 1) := by decide +kernel
theorem dX5_become_13 : decode cX5_become 13 = .ok (.bipush 6, 2) := by decide +kernel
theorem dX5_become_15 : decode cX5_become 15 = .ok (.if_icmp .le 4, 3) := by decide +kernel
theorem dX5_become_18 : decode cX5_become 18 = .ok (.return_, 1) := by decide +kernel
theorem dX5_become_19 : decode cX5_become 19 = .ok (.aload_n 0, 1) := by decide +kernel
theorem dX5_become_20 : decode cX5_become 20 = .ok (.iload_n 1, 1) := by decide +kernel
theorem dX5_become_21 : decode cX5_become 21 = .ok (.putfield 25, 3) := by decide +kernel
theorem dX5_become_24 : decode cX5_become 24 = .ok (.aload_n 0, 1) := by decide +kernel
theorem dX5_become_25 : decode cX5_become 25 = .ok (.aload_n 0, 1) := by decide +kernel
theorem dX5_become_26 : decode cX5_become 26 = .ok (.getfield 25, 3) := by decide +kernel
theorem dX5_become_29 : decode cX5_become 29 = .ok (.invokestatic 28, 3) := by decide +kernel
theorem dX5_become_32 : decode cX5_become 32 = .ok (.putfield 9, 3) := by decide +kernel
theorem dX5_become_35 : decode cX5_become 35 = .ok (.iconst 0, 1) := by decide +kernel
theorem dX5_become_36 : decode cX5_become 36 = .ok (.istore_n 2, 1) := by decide +kernel
theorem dX5_become_37 : decode cX5_become 37 = .ok (.iload_n 2, 1) := by decide +kernel
theorem dX5_become_38 : decode cX5_become 38 = .ok (.aload_n 0, 1) := by decide +kernel
theorem dX5_become_39 : decode cX5_become 39 = .ok (.getfield 9, 3) := by decide +kernel
theorem dX5_become_42 : decode cX5_become 42 = .ok (.if_icmp .ge 83, 3) := by decide +kernel
theorem dX5_become_45 : decode cX5_become 45 = .ok (.iload_n 2, 1) := by decide +kernel
theorem dX5_become_46 : decode cX5_become 46 = .ok (.sipush 720, 3) := by decide +kernel
theorem dX5_become_49 : decode cX5_become 49 = .ok (.if_icmp .ge 76, 3) := by decide +kernel
theorem dX5_become_52 : decode cX5_become 52 = .ok (.aload_n 0, 1) := by decide +kernel
theorem dX5_become_53 : decode cX5_become 53 = .ok (.iload_n 2, 1) := by decide +kernel
theorem dX5_become_54 : decode cX5_become 54 = .ok (.invokevirtual 32, 3) := by decide +kernel
theorem dX5_become_57 : decode cX5_become 57 = .ok (.aload_n 0, 1) := by decide +kernel
theorem dX5_become_58 : decode cX5_become 58 = .ok (.getfield 22, 3) := by decide +kernel
theorem dX5_become_61 : decode cX5_become 61 = .ok (.iconst 0, 1) := by decide +kernel
theorem dX5_become_62 : decode cX5_become 62 = .ok (.aload_n 0, 1) := by decide +kernel
theorem dX5_become_63 : decode cX5_become 63 = .ok (.getfield 15, 3) := by decide +kernel
theorem dX5_become_66 : decode cX5_become 66 = .ok (.iload_n 2, 1) := by decide +kernel
theorem dX5_become_67 : decode cX5_become 67 = .ok (.bipush 6, 2) := by decide +kernel
theorem dX5_become_69 : decode cX5_become 69 = .ok (.imul, 1) := by decide +kernel
theorem dX5_become_70 : decode cX5_become 70 = .ok (.bipush 6, 2) := by decide +kernel
theorem dX5_become_72 : decode cX5_become 72 = .ok (.invokestatic 36, 3) := by decide +kernel
theorem dX5_become_75 : decode cX5_become 75 = .ok (.iconst 0, 1) := by decide +kernel
theorem dX5_become_76 : decode cX5_become 76 = .ok (.istore_n 3, 1) := by decide +kernel
theorem dX5_become_77 : decode cX5_become 77 = .ok (.iload_n 3, 1) := by decide +kernel
theorem dX5_become_78 : decode cX5_become 78 = .ok (.iconst 1, 1) := by decide +kernel
theorem dX5_become_79 : decode cX5_become 79 = .ok (.iadd, 1) := by decide +kernel
theorem dX5_become_80 : decode cX5_become 80 = .ok (.aload_n 0, 1) := by decide +kernel
theorem dX5_become_81 : decode cX5_become 81 = .ok (.getfield 25, 3) := by decide +kernel
theorem dX5_become_84 : decode cX5_become 84 = .ok (.if_icmp .ge 35, 3) := by decide +kernel
theorem dX5_become_87 : decode cX5_become 87 = .ok (.aload_n 0, 1) := by decide +kernel
theorem dX5_become_88 : decode cX5_become 88 = .ok (.iload_n 3, 1) := by decide +kernel
theorem dX5_become_89 : decode cX5_become 89 = .ok (.invokevirtual 42, 3) := by decide +kernel
theorem dX5_become_92 : decode cX5_become 92 = .ok (.aload_n 0, 1) := by decide +kernel
theorem dX5_become_93 : decode cX5_become 93 = .ok (.getfield 19, 3) := by decide +kernel
theorem dX5_become_96 : decode cX5_become 96 = .ok (.iload_n 2, 1) := by decide +kernel
theorem dX5_become_97 : decode cX5_become 97 = .ok (.iconst 5, 1) := by decide +kernel
theorem dX5_become_98 : decode cX5_become 98 = .ok (.imul, 1) := by decide +kernel
theorem dX5_become_99 : decode cX5_become 99 = .ok (.iload_n 3, 1) := by decide +kernel
theorem dX5_become_100 : decode cX5_become 100 = .ok (.iadd, 1) := by decide +kernel
theorem dX5_become_101 : decode cX5_become 101 = .ok (.aload_n 0, 1) := by decide +kernel
theorem dX5_become_102 : decode cX5_become 102 = .ok (.invokevirtual 45, 3) := by decide +kernel
theorem dX5_become_105 : decode cX5_become 105 = .ok (.invokestatic 49, 3) := by decide +kernel
theorem dX5_become_108 : decode cX5_become 108 = .ok (.aload_n 0, 1) := by decide +kernel
theorem dX5_become_109 : decode cX5_become 109 = .ok (.iload_n 3, 1) := by decide +kernel
theorem dX5_become_110 : decode cX5_become 110 = .ok (.invokevirtual 42, 3) := by decide +kernel
theorem dX5_become_113 : decode cX5_become 113 = .ok (.iinc 3 1, 3) := by decide +kernel
theorem dX5_become_116 : decode cX5_become 116 = .ok (.goto (-39), 3) := by decide +kernel
theorem dX5_become_119 : decode cX5_become 119 = .ok (.iinc 2 1, 3) := by decide +kernel
theorem dX5_become_122 : decode cX5_become 122 = .ok (.goto (-85), 3) := by decide +kernel
theorem dX5_become_125 : decode cX5_become 125 = .ok (.return_, 1) := by decide +kernel
theorem dX5_who_0 : decode cX5_who 0 = .ok (.iload_n 1, 1) := by decide +kernel
theorem dX5_who_1 : decode cX5_who 1 = .ok (.ifCond .lt 20, 3) := by decide +kernel
theorem dX5_who_4 : decode cX5_who 4 = .ok (.iload_n 1, 1) := by decide +kernel
theorem dX5_who_5 : decode cX5_who 5 = .ok (.sipush 720, 3) := by decide +kernel
theorem dX5_who_8 : decode cX5_who 8 = .ok (.if_icmp .ge 13, 3) := by decide +kernel
theorem dX5_who_11 : decode cX5_who 11 = .ok (.iload_n 2, 1) := by decide +kernel
theorem dX5_who_12 : decode cX5_who 12 = .ok (.ifCond .lt 9, 3) := by decide +kernel
theorem dX5_who_15 : decode cX5_who 15 = .ok (.iload_n 2, 1) := by decide +kernel
theorem dX5_who_16 : decode cX5_who 16 = .ok (.bipush 6, 2) := by decide +kernel
theorem dX5_who_18 : decode cX5_who 18 = .ok (.if_icmp .lt 6, 3) := by decide +kernel
theorem dX5_who_21 : decode cX5_who 21 = .ok (.bipush (-9), 2) := by decide +kernel
theorem dX5_who_23 : decode cX5_who 23 = .ok (.ireturn, 1) := by decide +kernel
theorem dX5_who_24 : decode cX5_who 24 = .ok (.aload_n 0, 1) := by decide +kernel
theorem dX5_who_25 : decode cX5_who 25 = .ok (.getfield 15, 3) := by decide +kernel
theorem dX5_who_28 : decode cX5_who 28 = .ok (.iload_n 1, 1) := by decide +kernel
theorem dX5_who_29 : decode cX5_who 29 = .ok (.bipush 6, 2) := by decide +kernel
theorem dX5_who_31 : decode cX5_who 31 = .ok (.imul, 1) := by decide +kernel
theorem dX5_who_32 : decode cX5_who 32 = .ok (.iload_n 2, 1) := by decide +kernel
theorem dX5_who_33 : decode cX5_who 33 = .ok (.iadd, 1) := by decide +kernel
theorem dX5_who_34 : decode cX5_who 34 = .ok (.iaload, 1) := by decide +kernel
theorem dX5_who_35 : decode cX5_who 35 = .ok (.ireturn, 1) := by decide +kernel
set_option maxRecDepth 20000 in
theorem ggX5_rockOf_X5_who : GoodIn wsX5_rockOf wsX5_who := goodIn_r _ [6, 7, 8, 9, 10, 11, 12] (by decide +kernel) (by decide +kernel)
set_option maxRecDepth 20000 in
theorem gX5_rockOf_X5_who : GoodIn wsX5_rockOf (wsV RX5 53 RX5 yX5_who wsX5_who) := goodIn_app (goodIn_of _ (by decide +kernel)) ggX5_rockOf_X5_who
theorem dX5_rockOf_0 : decode cX5_rockOf 0 = .ok (.iconst 0, 1) := by decide +kernel
theorem dX5_rockOf_1 : decode cX5_rockOf 1 = .ok (.istore_n 3, 1) := by decide +kernel
theorem dX5_rockOf_2 : decode cX5_rockOf 2 = .ok (.iload_n 3, 1) := by decide +kernel
theorem dX5_rockOf_3 : decode cX5_rockOf 3 = .ok (.aload_n 0, 1) := by decide +kernel
theorem dX5_rockOf_4 : decode cX5_rockOf 4 = .ok (.getfield 25, 3) := by decide +kernel
theorem dX5_rockOf_7 : decode cX5_rockOf 7 = .ok (.if_icmp .ge 21, 3) := by decide +kernel
theorem dX5_rockOf_10 : decode cX5_rockOf 10 = .ok (.aload_n 0, 1) := by decide +kernel
theorem dX5_rockOf_11 : decode cX5_rockOf 11 = .ok (.iload_n 1, 1) := by decide +kernel
theorem dX5_rockOf_12 : decode cX5_rockOf 12 = .ok (.iload_n 3, 1) := by decide +kernel
theorem dX5_rockOf_13 : decode cX5_rockOf 13 = .ok (.invokevirtual 53, 3) := by decide +kernel
theorem dX5_rockOf_16 : decode cX5_rockOf 16 = .ok (.iload_n 2, 1) := by decide +kernel
theorem dX5_rockOf_17 : decode cX5_rockOf 17 = .ok (.if_icmp .ne 5, 3) := by decide +kernel
theorem dX5_rockOf_20 : decode cX5_rockOf 20 = .ok (.iload_n 3, 1) := by decide +kernel
theorem dX5_rockOf_21 : decode cX5_rockOf 21 = .ok (.ireturn, 1) := by decide +kernel
theorem dX5_rockOf_22 : decode cX5_rockOf 22 = .ok (.iinc 3 1, 3) := by decide +kernel
theorem dX5_rockOf_25 : decode cX5_rockOf 25 = .ok (.goto (-23), 3) := by decide +kernel
theorem dX5_rockOf_28 : decode cX5_rockOf 28 = .ok (.bipush (-9), 2) := by decide +kernel
theorem dX5_rockOf_30 : decode cX5_rockOf 30 = .ok (.ireturn, 1) := by decide +kernel
theorem dX5_changedAt_0 : decode cX5_changedAt 0 = .ok (.iload_n 1, 1) := by decide +kernel
theorem dX5_changedAt_1 : decode cX5_changedAt 1 = .ok (.ifCond .lt 19, 3) := by decide +kernel
theorem dX5_changedAt_4 : decode cX5_changedAt 4 = .ok (.iload_n 1, 1) := by decide +kernel
theorem dX5_changedAt_5 : decode cX5_changedAt 5 = .ok (.sipush 720, 3) := by decide +kernel
theorem dX5_changedAt_8 : decode cX5_changedAt 8 = .ok (.if_icmp .ge 12, 3) := by decide +kernel
theorem dX5_changedAt_11 : decode cX5_changedAt 11 = .ok (.iload_n 2, 1) := by decide +kernel
theorem dX5_changedAt_12 : decode cX5_changedAt 12 = .ok (.ifCond .lt 8, 3) := by decide +kernel
theorem dX5_changedAt_15 : decode cX5_changedAt 15 = .ok (.iload_n 2, 1) := by decide +kernel
theorem dX5_changedAt_16 : decode cX5_changedAt 16 = .ok (.iconst 5, 1) := by decide +kernel
theorem dX5_changedAt_17 : decode cX5_changedAt 17 = .ok (.if_icmp .lt 5, 3) := by decide +kernel
theorem dX5_changedAt_20 : decode cX5_changedAt 20 = .ok (.iload_n 1, 1) := by decide +kernel
theorem dX5_changedAt_21 : decode cX5_changedAt 21 = .ok (.ireturn, 1) := by decide +kernel
theorem dX5_changedAt_22 : decode cX5_changedAt 22 = .ok (.aload_n 0, 1) := by decide +kernel
theorem dX5_changedAt_23 : decode cX5_changedAt 23 = .ok (.getfield 19, 3) := by decide +kernel
theorem dX5_changedAt_26 : decode cX5_changedAt 26 = .ok (.iload_n 1, 1) := by decide +kernel
theorem dX5_changedAt_27 : decode cX5_changedAt 27 = .ok (.iconst 5, 1) := by decide +kernel
theorem dX5_changedAt_28 : decode cX5_changedAt 28 = .ok (.imul, 1) := by decide +kernel
theorem dX5_changedAt_29 : decode cX5_changedAt 29 = .ok (.iload_n 2, 1) := by decide +kernel
theorem dX5_changedAt_30 : decode cX5_changedAt 30 = .ok (.iadd, 1) := by decide +kernel
theorem dX5_changedAt_31 : decode cX5_changedAt 31 = .ok (.iaload, 1) := by decide +kernel
theorem dX5_changedAt_32 : decode cX5_changedAt 32 = .ok (.ireturn, 1) := by decide +kernel
set_option maxRecDepth 20000 in
theorem ggX5_fillRow_X5_factorial : GoodIn wsX5_fillRow wsX5_factorial := goodIn_r _ [6, 7] (by decide +kernel) (by decide +kernel)
set_option maxRecDepth 20000 in
theorem gX5_fillRow_X5_factorial : GoodIn wsX5_fillRow (va_wsS RX5 28 yX5_factorial wsX5_factorial) := goodIn_app (goodIn_of _ (by decide +kernel)) ggX5_fillRow_X5_factorial
set_option maxRecDepth 20000 in
theorem ggX5_fillRow_X5_freeKeeper : GoodIn wsX5_fillRow wsX5_freeKeeper := goodIn_r _ [10] (by decide +kernel) (by decide +kernel)
set_option maxRecDepth 20000 in
theorem gX5_fillRow_X5_freeKeeper : GoodIn wsX5_fillRow (va_wsS RX5 57 yX5_freeKeeper wsX5_freeKeeper) := goodIn_app (goodIn_of _ (by decide +kernel)) ggX5_fillRow_X5_freeKeeper
set_option maxRecDepth 20000 in
theorem ggX5_fillRow_X6_put : GoodIn wsX5_fillRow wsX6_put := goodIn_r _ [13] (by decide +kernel) (by decide +kernel)
set_option maxRecDepth 20000 in
theorem gX5_fillRow_X6_put_n49 : GoodIn wsX5_fillRow (wsX6_put) := ggX5_fillRow_X6_put
theorem dX5_fillRow_0 : decode cX5_fillRow 0 = .ok (.iload_n 1, 1) := by decide +kernel
theorem dX5_fillRow_1 : decode cX5_fillRow 1 = .ok (.istore_n 2, 1) := by decide +kernel
theorem dX5_fillRow_2 : decode cX5_fillRow 2 = .ok (.iconst 1, 1) := by decide +kernel
theorem dX5_fillRow_3 : decode cX5_fillRow 3 = .ok (.aload_n 0, 1) := by decide +kernel
theorem dX5_fillRow_4 : decode cX5_fillRow 4 = .ok (.getfield 25, 3) := by decide +kernel
theorem dX5_fillRow_7 : decode cX5_fillRow 7 = .ok (.ishl, 1) := by decide +kernel
theorem dX5_fillRow_8 : decode cX5_fillRow 8 = .ok (.iconst 1, 1) := by decide +kernel
theorem dX5_fillRow_9 : decode cX5_fillRow 9 = .ok (.isub, 1) := by decide +kernel
theorem dX5_fillRow_10 : decode cX5_fillRow 10 = .ok (.istore_n 3, 1) := by decide +kernel
theorem dX5_fillRow_11 : decode cX5_fillRow 11 = .ok (.iconst 0, 1) := by decide +kernel
theorem dX5_fillRow_12 : decode cX5_fillRow 12 = .ok (.istore 4, 2) := by decide +kernel
theorem dX5_fillRow_14 : decode cX5_fillRow 14 = .ok (.iload 4, 2) := by decide +kernel
theorem dX5_fillRow_16 : decode cX5_fillRow 16 = .ok (.aload_n 0, 1) := by decide +kernel
theorem dX5_fillRow_17 : decode cX5_fillRow 17 = .ok (.getfield 25, 3) := by decide +kernel
theorem dX5_fillRow_20 : decode cX5_fillRow 20 = .ok (.if_icmp .ge 76, 3) := by decide +kernel
theorem dX5_fillRow_23 : decode cX5_fillRow 23 = .ok (.aload_n 0, 1) := by decide +kernel
theorem dX5_fillRow_24 : decode cX5_fillRow 24 = .ok (.getfield 25, 3) := by decide +kernel
theorem dX5_fillRow_27 : decode cX5_fillRow 27 = .ok (.iconst 1, 1) := by decide +kernel
theorem dX5_fillRow_28 : decode cX5_fillRow 28 = .ok (.isub, 1) := by decide +kernel
theorem dX5_fillRow_29 : decode cX5_fillRow 29 = .ok (.iload 4, 2) := by decide +kernel
theorem dX5_fillRow_31 : decode cX5_fillRow 31 = .ok (.isub, 1) := by decide +kernel
theorem dX5_fillRow_32 : decode cX5_fillRow 32 = .ok (.invokestatic 28, 3) := by decide +kernel
theorem dX5_fillRow_35 : decode cX5_fillRow 35 = .ok (.istore 5, 2) := by decide +kernel
theorem dX5_fillRow_37 : decode cX5_fillRow 37 = .ok (.iload_n 3, 1) := by decide +kernel
theorem dX5_fillRow_38 : decode cX5_fillRow 38 = .ok (.iload 5, 2) := by decide +kernel
theorem dX5_fillRow_40 : decode cX5_fillRow 40 = .ok (.ifCond .le 10, 3) := by decide +kernel
theorem dX5_fillRow_43 : decode cX5_fillRow 43 = .ok (.iload_n 2, 1) := by decide +kernel
theorem dX5_fillRow_44 : decode cX5_fillRow 44 = .ok (.iload 5, 2) := by decide +kernel
theorem dX5_fillRow_46 : decode cX5_fillRow 46 = .ok (.idiv, 1) := by decide +kernel
theorem dX5_fillRow_47 : decode cX5_fillRow 47 = .ok (.goto 4, 3) := by decide +kernel
theorem dX5_fillRow_50 : decode cX5_fillRow 50 = .ok (.iconst 0, 1) := by decide +kernel
theorem dX5_fillRow_51 : decode cX5_fillRow 51 = .ok (.invokestatic 57, 3) := by decide +kernel
theorem dX5_fillRow_54 : decode cX5_fillRow 54 = .ok (.istore 6, 2) := by decide +kernel
theorem dX5_fillRow_56 : decode cX5_fillRow 56 = .ok (.iload 5, 2) := by decide +kernel
theorem dX5_fillRow_58 : decode cX5_fillRow 58 = .ok (.ifCond .le 10, 3) := by decide +kernel
theorem dX5_fillRow_61 : decode cX5_fillRow 61 = .ok (.iload_n 2, 1) := by decide +kernel
theorem dX5_fillRow_62 : decode cX5_fillRow 62 = .ok (.iload 5, 2) := by decide +kernel
theorem dX5_fillRow_64 : decode cX5_fillRow 64 = .ok (.irem, 1) := by decide +kernel
theorem dX5_fillRow_65 : decode cX5_fillRow 65 = .ok (.goto 4, 3) := by decide +kernel
theorem dX5_fillRow_68 : decode cX5_fillRow 68 = .ok (.iconst 0, 1) := by decide +kernel
theorem dX5_fillRow_69 : decode cX5_fillRow 69 = .ok (.istore_n 2, 1) := by decide +kernel
theorem dX5_fillRow_70 : decode cX5_fillRow 70 = .ok (.iload_n 3, 1) := by decide +kernel
theorem dX5_fillRow_71 : decode cX5_fillRow 71 = .ok (.iconst 1, 1) := by decide +kernel
theorem dX5_fillRow_72 : decode cX5_fillRow 72 = .ok (.iload 6, 2) := by decide +kernel
theorem dX5_fillRow_74 : decode cX5_fillRow 74 = .ok (.ishl, 1) := by decide +kernel
theorem dX5_fillRow_75 : decode cX5_fillRow 75 = .ok (.iconst (-1), 1) := by decide +kernel
theorem dX5_fillRow_76 : decode cX5_fillRow 76 = .ok (.ixor, 1) := by decide +kernel
theorem dX5_fillRow_77 : decode cX5_fillRow 77 = .ok (.iand, 1) := by decide +kernel
theorem dX5_fillRow_78 : decode cX5_fillRow 78 = .ok (.istore_n 3, 1) := by decide +kernel
theorem dX5_fillRow_79 : decode cX5_fillRow 79 = .ok (.aload_n 0, 1) := by decide +kernel
theorem dX5_fillRow_80 : decode cX5_fillRow 80 = .ok (.getfield 22, 3) := by decide +kernel
theorem dX5_fillRow_83 : decode cX5_fillRow 83 = .ok (.iload 4, 2) := by decide +kernel
theorem dX5_fillRow_85 : decode cX5_fillRow 85 = .ok (.iload 6, 2) := by decide +kernel
theorem dX5_fillRow_87 : decode cX5_fillRow 87 = .ok (.invokestatic 49, 3) := by decide +kernel
theorem dX5_fillRow_90 : decode cX5_fillRow 90 = .ok (.iinc 4 1, 3) := by decide +kernel
theorem dX5_fillRow_93 : decode cX5_fillRow 93 = .ok (.goto (-79), 3) := by decide +kernel
theorem dX5_fillRow_96 : decode cX5_fillRow 96 = .ok (.return_, 1) := by decide +kernel
set_option maxRecDepth 20000 in
theorem ggX5_numberOfRow_X6_item : GoodIn wsX5_numberOfRow wsX6_item := goodIn_r _ [5] (by decide +kernel) (by decide +kernel)
set_option maxRecDepth 20000 in
theorem gX5_numberOfRow_X6_item_n60 : GoodIn wsX5_numberOfRow (wsX6_item) := ggX5_numberOfRow_X6_item
set_option maxRecDepth 20000 in
theorem ggX5_numberOfRow_J6_bitCount_0f7a4 : GoodIn wsX5_numberOfRow wsJ6_bitCount_0f7a4 := goodIn_r _ [9, 10, 11, 12] (by decide +kernel) (by decide +kernel)
set_option maxRecDepth 20000 in
theorem gX5_numberOfRow_J6_bitCount_0f7a4 : GoodIn wsX5_numberOfRow (va_wsS RX5 64 yJ6_bitCount_0f7a4 wsJ6_bitCount_0f7a4) := goodIn_app (goodIn_of _ (by decide +kernel)) ggX5_numberOfRow_J6_bitCount_0f7a4
set_option maxRecDepth 20000 in
theorem ggX5_numberOfRow_X5_factorial : GoodIn wsX5_numberOfRow wsX5_factorial := goodIn_r _ [16, 17] (by decide +kernel) (by decide +kernel)
set_option maxRecDepth 20000 in
theorem gX5_numberOfRow_X5_factorial : GoodIn wsX5_numberOfRow (va_wsS RX5 28 yX5_factorial wsX5_factorial) := goodIn_app (goodIn_of _ (by decide +kernel)) ggX5_numberOfRow_X5_factorial
theorem dX5_numberOfRow_0 : decode cX5_numberOfRow 0 = .ok (.iconst 0, 1) := by decide +kernel
theorem dX5_numberOfRow_1 : decode cX5_numberOfRow 1 = .ok (.istore_n 1, 1) := by decide +kernel
theorem dX5_numberOfRow_2 : decode cX5_numberOfRow 2 = .ok (.iconst 1, 1) := by decide +kernel
theorem dX5_numberOfRow_3 : decode cX5_numberOfRow 3 = .ok (.aload_n 0, 1) := by decide +kernel
theorem dX5_numberOfRow_4 : decode cX5_numberOfRow 4 = .ok (.getfield 25, 3) := by decide +kernel
theorem dX5_numberOfRow_7 : decode cX5_numberOfRow 7 = .ok (.ishl, 1) := by decide +kernel
theorem dX5_numberOfRow_8 : decode cX5_numberOfRow 8 = .ok (.iconst 1, 1) := by decide +kernel
theorem dX5_numberOfRow_9 : decode cX5_numberOfRow 9 = .ok (.isub, 1) := by decide +kernel
theorem dX5_numberOfRow_10 : decode cX5_numberOfRow 10 = .ok (.istore_n 2, 1) := by decide +kernel
theorem dX5_numberOfRow_11 : decode cX5_numberOfRow 11 = .ok (.iconst 0, 1) := by decide +kernel
theorem dX5_numberOfRow_12 : decode cX5_numberOfRow 12 = .ok (.istore_n 3, 1) := by decide +kernel
theorem dX5_numberOfRow_13 : decode cX5_numberOfRow 13 = .ok (.iload_n 3, 1) := by decide +kernel
theorem dX5_numberOfRow_14 : decode cX5_numberOfRow 14 = .ok (.aload_n 0, 1) := by decide +kernel
theorem dX5_numberOfRow_15 : decode cX5_numberOfRow 15 = .ok (.getfield 25, 3) := by decide +kernel
theorem dX5_numberOfRow_18 : decode cX5_numberOfRow 18 = .ok (.if_icmp .ge 58, 3) := by decide +kernel
theorem dX5_numberOfRow_21 : decode cX5_numberOfRow 21 = .ok (.aload_n 0, 1) := by decide +kernel
theorem dX5_numberOfRow_22 : decode cX5_numberOfRow 22 = .ok (.getfield 22, 3) := by decide +kernel
theorem dX5_numberOfRow_25 : decode cX5_numberOfRow 25 = .ok (.iload_n 3, 1) := by decide +kernel
theorem dX5_numberOfRow_26 : decode cX5_numberOfRow 26 = .ok (.invokestatic 60, 3) := by decide +kernel
theorem dX5_numberOfRow_29 : decode cX5_numberOfRow 29 = .ok (.istore 4, 2) := by decide +kernel
theorem dX5_numberOfRow_31 : decode cX5_numberOfRow 31 = .ok (.iload_n 2, 1) := by decide +kernel
theorem dX5_numberOfRow_32 : decode cX5_numberOfRow 32 = .ok (.iconst 1, 1) := by decide +kernel
theorem dX5_numberOfRow_33 : decode cX5_numberOfRow 33 = .ok (.iload 4, 2) := by decide +kernel
theorem dX5_numberOfRow_35 : decode cX5_numberOfRow 35 = .ok (.ishl, 1) := by decide +kernel
theorem dX5_numberOfRow_36 : decode cX5_numberOfRow 36 = .ok (.iconst 1, 1) := by decide +kernel
theorem dX5_numberOfRow_37 : decode cX5_numberOfRow 37 = .ok (.isub, 1) := by decide +kernel
theorem dX5_numberOfRow_38 : decode cX5_numberOfRow 38 = .ok (.iand, 1) := by decide +kernel
theorem dX5_numberOfRow_39 : decode cX5_numberOfRow 39 = .ok (.invokestatic 64, 3) := by decide +kernel
theorem dX5_numberOfRow_42 : decode cX5_numberOfRow 42 = .ok (.istore 5, 2) := by decide +kernel
theorem dX5_numberOfRow_44 : decode cX5_numberOfRow 44 = .ok (.iload_n 1, 1) := by decide +kernel
theorem dX5_numberOfRow_45 : decode cX5_numberOfRow 45 = .ok (.iload 5, 2) := by decide +kernel
theorem dX5_numberOfRow_47 : decode cX5_numberOfRow 47 = .ok (.aload_n 0, 1) := by decide +kernel
theorem dX5_numberOfRow_48 : decode cX5_numberOfRow 48 = .ok (.getfield 25, 3) := by decide +kernel
theorem dX5_numberOfRow_51 : decode cX5_numberOfRow 51 = .ok (.iconst 1, 1) := by decide +kernel
theorem dX5_numberOfRow_52 : decode cX5_numberOfRow 52 = .ok (.isub, 1) := by decide +kernel
theorem dX5_numberOfRow_53 : decode cX5_numberOfRow 53 = .ok (.iload_n 3, 1) := by decide +kernel
theorem dX5_numberOfRow_54 : decode cX5_numberOfRow 54 = .ok (.isub, 1) := by decide +kernel
theorem dX5_numberOfRow_55 : decode cX5_numberOfRow 55 = .ok (.invokestatic 28, 3) := by decide +kernel
theorem dX5_numberOfRow_58 : decode cX5_numberOfRow 58 = .ok (.imul, 1) := by decide +kernel
theorem dX5_numberOfRow_59 : decode cX5_numberOfRow 59 = .ok (.iadd, 1) := by decide +kernel
theorem dX5_numberOfRow_60 : decode cX5_numberOfRow 60 = .ok (.istore_n 1, 1) := by decide +kernel
theorem dX5_numberOfRow_61 : decode cX5_numberOfRow 61 = .ok (.iload_n 2, 1) := by decide +kernel
theorem dX5_numberOfRow_62 : decode cX5_numberOfRow 62 = .ok (.iconst 1, 1) := by decide +kernel
theorem dX5_numberOfRow_63 : decode cX5_numberOfRow 63 = .ok (.iload 4, 2) := by decide +kernel
theorem dX5_numberOfRow_65 : decode cX5_numberOfRow 65 = .ok (.ishl, 1) := by decide +kernel
theorem dX5_numberOfRow_66 : decode cX5_numberOfRow 66 = .ok (.iconst (-1), 1) := by decide +kernel
theorem dX5_numberOfRow_67 : decode cX5_numberOfRow 67 = .ok (.ixor, 1) := by decide +kernel
theorem dX5_numberOfRow_68 : decode cX5_numberOfRow 68 = .ok (.iand, 1) := by decide +kernel
theorem dX5_numberOfRow_69 : decode cX5_numberOfRow 69 = .ok (.istore_n 2, 1) := by decide +kernel
theorem dX5_numberOfRow_70 : decode cX5_numberOfRow 70 = .ok (.iinc 3 1, 3) := by decide +kernel
theorem dX5_numberOfRow_73 : decode cX5_numberOfRow 73 = .ok (.goto (-60), 3) := by decide +kernel
theorem dX5_numberOfRow_76 : decode cX5_numberOfRow 76 = .ok (.iload_n 1, 1) := by decide +kernel
theorem dX5_numberOfRow_77 : decode cX5_numberOfRow 77 = .ok (.ireturn, 1) := by decide +kernel
set_option maxRecDepth 20000 in
theorem ggX5_swapInRow_X6_item : GoodIn wsX5_swapInRow wsX6_item := goodIn_r _ [4] (by decide +kernel) (by decide +kernel)
set_option maxRecDepth 20000 in
theorem gX5_swapInRow_X6_item_n60 : GoodIn wsX5_swapInRow (wsX6_item) := ggX5_swapInRow_X6_item
set_option maxRecDepth 20000 in
theorem ggX5_swapInRow_X6_put : GoodIn wsX5_swapInRow wsX6_put := goodIn_r _ [6] (by decide +kernel) (by decide +kernel)
set_option maxRecDepth 20000 in
theorem gX5_swapInRow_X6_put_n49 : GoodIn wsX5_swapInRow (wsX6_put) := ggX5_swapInRow_X6_put
theorem dX5_swapInRow_0 : decode cX5_swapInRow 0 = .ok (.aload_n 0, 1) := by decide +kernel
theorem dX5_swapInRow_1 : decode cX5_swapInRow 1 = .ok (.getfield 22, 3) := by decide +kernel
theorem dX5_swapInRow_4 : decode cX5_swapInRow 4 = .ok (.iload_n 1, 1) := by decide +kernel
theorem dX5_swapInRow_5 : decode cX5_swapInRow 5 = .ok (.invokestatic 60, 3) := by decide +kernel
theorem dX5_swapInRow_8 : decode cX5_swapInRow 8 = .ok (.istore_n 2, 1) := by decide +kernel
theorem dX5_swapInRow_9 : decode cX5_swapInRow 9 = .ok (.aload_n 0, 1) := by decide +kernel
theorem dX5_swapInRow_10 : decode cX5_swapInRow 10 = .ok (.getfield 22, 3) := by decide +kernel
theorem dX5_swapInRow_13 : decode cX5_swapInRow 13 = .ok (.iload_n 1, 1) := by decide +kernel
theorem dX5_swapInRow_14 : decode cX5_swapInRow 14 = .ok (.aload_n 0, 1) := by decide +kernel
theorem dX5_swapInRow_15 : decode cX5_swapInRow 15 = .ok (.getfield 22, 3) := by decide +kernel
theorem dX5_swapInRow_18 : decode cX5_swapInRow 18 = .ok (.iload_n 1, 1) := by decide +kernel
theorem dX5_swapInRow_19 : decode cX5_swapInRow 19 = .ok (.iconst 1, 1) := by decide +kernel
theorem dX5_swapInRow_20 : decode cX5_swapInRow 20 = .ok (.iadd, 1) := by decide +kernel
theorem dX5_swapInRow_21 : decode cX5_swapInRow 21 = .ok (.invokestatic 60, 3) := by decide +kernel
theorem dX5_swapInRow_24 : decode cX5_swapInRow 24 = .ok (.invokestatic 49, 3) := by decide +kernel
theorem dX5_swapInRow_27 : decode cX5_swapInRow 27 = .ok (.aload_n 0, 1) := by decide +kernel
theorem dX5_swapInRow_28 : decode cX5_swapInRow 28 = .ok (.getfield 22, 3) := by decide +kernel
theorem dX5_swapInRow_31 : decode cX5_swapInRow 31 = .ok (.iload_n 1, 1) := by decide +kernel
theorem dX5_swapInRow_32 : decode cX5_swapInRow 32 = .ok (.iconst 1, 1) := by decide +kernel
theorem dX5_swapInRow_33 : decode cX5_swapInRow 33 = .ok (.iadd, 1) := by decide +kernel
theorem dX5_swapInRow_34 : decode cX5_swapInRow 34 = .ok (.iload_n 2, 1) := by decide +kernel
theorem dX5_swapInRow_35 : decode cX5_swapInRow 35 = .ok (.invokestatic 49, 3) := by decide +kernel
theorem dX5_swapInRow_38 : decode cX5_swapInRow 38 = .ok (.return_, 1) := by decide +kernel
theorem dX5_freeKeeper_0 : decode cX5_freeKeeper 0 = .ok (.iload_n 1, 1) := by decide +kernel
theorem dX5_freeKeeper_1 : decode cX5_freeKeeper 1 = .ok (.istore_n 2, 1) := by decide +kernel
theorem dX5_freeKeeper_2 : decode cX5_freeKeeper 2 = .ok (.iconst 0, 1) := by decide +kernel
theorem dX5_freeKeeper_3 : decode cX5_freeKeeper 3 = .ok (.istore_n 3, 1) := by decide +kernel
theorem dX5_freeKeeper_4 : decode cX5_freeKeeper 4 = .ok (.iload_n 3, 1) := by decide +kernel
theorem dX5_freeKeeper_5 : decode cX5_freeKeeper 5 = .ok (.bipush 6, 2) := by decide +kernel
theorem dX5_freeKeeper_7 : decode cX5_freeKeeper 7 = .ok (.if_icmp .ge 27, 3) := by decide +kernel
theorem dX5_freeKeeper_10 : decode cX5_freeKeeper 10 = .ok (.iload_n 0, 1) := by decide +kernel
theorem dX5_freeKeeper_11 : decode cX5_freeKeeper 11 = .ok (.iload_n 3, 1) := by decide +kernel
theorem dX5_freeKeeper_12 : decode cX5_freeKeeper 12 = .ok (.ishr, 1) := by decide +kernel
theorem dX5_freeKeeper_13 : decode cX5_freeKeeper 13 = .ok (.iconst 1, 1) := by decide +kernel
theorem dX5_freeKeeper_14 : decode cX5_freeKeeper 14 = .ok (.iand, 1) := by decide +kernel
theorem dX5_freeKeeper_15 : decode cX5_freeKeeper 15 = .ok (.iconst 1, 1) := by decide +kernel
theorem dX5_freeKeeper_16 : decode cX5_freeKeeper 16 = .ok (.if_icmp .ne 12, 3) := by decide +kernel
theorem dX5_freeKeeper_19 : decode cX5_freeKeeper 19 = .ok (.iload_n 2, 1) := by decide +kernel
theorem dX5_freeKeeper_20 : decode cX5_freeKeeper 20 = .ok (.ifCond .ne 5, 3) := by decide +kernel
theorem dX5_freeKeeper_23 : decode cX5_freeKeeper 23 = .ok (.iload_n 3, 1) := by decide +kernel
theorem dX5_freeKeeper_24 : decode cX5_freeKeeper 24 = .ok (.ireturn, 1) := by decide +kernel
theorem dX5_freeKeeper_25 : decode cX5_freeKeeper 25 = .ok (.iinc 2 (-1), 3) := by decide +kernel
theorem dX5_freeKeeper_28 : decode cX5_freeKeeper 28 = .ok (.iinc 3 1, 3) := by decide +kernel
theorem dX5_freeKeeper_31 : decode cX5_freeKeeper 31 = .ok (.goto (-27), 3) := by decide +kernel
theorem dX5_freeKeeper_34 : decode cX5_freeKeeper 34 = .ok (.iconst 0, 1) := by decide +kernel
theorem dX5_freeKeeper_35 : decode cX5_freeKeeper 35 = .ok (.ireturn, 1) := by decide +kernel
theorem dX5_factorial_0 : decode cX5_factorial 0 = .ok (.iload_n 0, 1) := by decide +kernel
theorem dX5_factorial_1 : decode cX5_factorial 1 = .ok (.ifCond .lt 19, 3) := by decide +kernel
theorem dX5_factorial_4 : decode cX5_factorial 4 = .ok (.iload_n 0, 1) := by decide +kernel
theorem dX5_factorial_5 : decode cX5_factorial 5 = .ok (.getstatic 69, 3) := by decide +kernel
theorem dX5_factorial_8 : decode cX5_factorial 8 = .ok (.arraylength, 1) := by decide +kernel
theorem dX5_factorial_9 : decode cX5_factorial 9 = .ok (.if_icmp .ge 11, 3) := by decide +kernel
theorem dX5_factorial_12 : decode cX5_factorial 12 = .ok (.getstatic 69, 3) := by decide +kernel
theorem dX5_factorial_15 : decode cX5_factorial 15 = .ok (.iload_n 0, 1) := by decide +kernel
theorem dX5_factorial_16 : decode cX5_factorial 16 = .ok (.iaload, 1) := by decide +kernel
theorem dX5_factorial_17 : decode cX5_factorial 17 = .ok (.goto 4, 3) := by decide +kernel
theorem dX5_factorial_20 : decode cX5_factorial 20 = .ok (.iconst 0, 1) := by decide +kernel
theorem dX5_factorial_21 : decode cX5_factorial 21 = .ok (.ireturn, 1) := by decide +kernel
