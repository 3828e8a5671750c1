theorem dX7_init_0 : decode cX7_init 0 = .ok (.aload_n 0, 1) := by decide +kernel
theorem dX7_init_1 : decode cX7_init 1 = .ok (.invokespecial 1, 3) := by decide +kernel
theorem dX7_init_4 : decode cX7_init 4 = .ok (.aload_n 0, 1) := by decide +kernel
theorem dX7_init_5 : decode cX7_init 5 = .ok (.bipush 6, 2) := by decide +kernel
theorem dX7_init_7 : decode cX7_init 7 = .ok (.newarray .int, 2) := by decide +kernel
theorem dX7_init_9 : decode cX7_init 9 = .ok (.putfield 7, 3) := by decide +kernel
theorem dX7_init_12 : decode cX7_init 12 = .ok (.aload_n 0, 1) := by decide +kernel
theorem dX7_init_13 : decode cX7_init 13 = .ok (.bipush 6, 2) := by decide +kernel
theorem dX7_init_15 : decode cX7_init 15 = .ok (.newarray .int, 2) := by decide +kernel
theorem dX7_init_17 : decode cX7_init 17 = .ok (.putfield 13, 3) := by decide +kernel
theorem dX7_init_20 : decode cX7_init 20 = .ok (.aload_n 0, 1) := by decide +kernel
theorem dX7_init_21 : decode cX7_init 21 = .ok (.iconst 1, 1) := by decide +kernel
theorem dX7_init_22 : decode cX7_init 22 = .ok (.putfield 16, 3) := by decide +kernel
theorem dX7_init_25 : decode cX7_init 25 = .ok (.aload_n 0, 1) := by decide +kernel
theorem dX7_init_26 : decode cX7_init 26 = .ok (.bipush 100, 2) := by decide +kernel
theorem dX7_init_28 : decode cX7_init 28 = .ok (.newarray .int, 2) := by decide +kernel
theorem dX7_init_30 : decode cX7_init 30 = .ok (.putfield 20, 3) := by decide +kernel
theorem dX7_init_33 : decode cX7_init 33 = .ok (.aload_n 0, 1) := by decide +kernel
theorem dX7_init_34 : decode cX7_init 34 = .ok (.sipush 200, 3) := by decide +kernel
theorem dX7_init_37 : decode cX7_init 37 = .ok (.newarray .int, 2) := by decide +kernel
theorem dX7_init_39 : decode cX7_init 39 = .ok (.putfield 23, 3) := by decide +kernel
theorem dX7_init_42 : decode cX7_init 42 = .ok (.aload_n 0, 1) := by decide +kernel
theorem dX7_init_43 : decode cX7_init 43 = .ok (.iconst 2, 1) := by decide +kernel
theorem dX7_init_44 : decode cX7_init 44 = .ok (.newarray .boolean, 2) := by decide +kernel
theorem dX7_init_46 : decode cX7_init 46 = .ok (.putfield 26, 3) := by decide +kernel
theorem dX7_init_49 : decode cX7_init 49 = .ok (.aload_n 0, 1) := by decide +kernel
theorem dX7_init_50 : decode cX7_init 50 = .ok (.bipush 12, 2) := by decide +kernel
theorem dX7_init_52 : decode cX7_init 52 = .ok (.newarray .int, 2) := by decide +kernel
theorem dX7_init_54 : decode cX7_init 54 = .ok (.putfield 30, 3) := by decide +kernel
theorem dX7_init_57 : decode cX7_init 57 = .ok (.aload_n 0, 1) := by decide +kernel
theorem dX7_init_58 : decode cX7_init 58 = .ok (.bipush 120, 2) := by decide +kernel
theorem dX7_init_60 : decode cX7_init 60 = .ok (.newarray .int, 2) := by decide +kernel
theorem dX7_init_62 : decode cX7_init 62 = .ok (.putfield 33, 3) := by decide +kernel
theorem dX7_init_65 : decode cX7_init 65 = .ok (.aload_n 0, 1) := by decide +kernel
theorem dX7_init_66 : decode cX7_init 66 = .ok (.bipush 6, 2) := by decide +kernel
theorem dX7_init_68 : decode cX7_init 68 = .ok (.newarray .int, 2) := by decide +kernel
theorem dX7_init_70 : decode cX7_init 70 = .ok (.putfield 36, 3) := by decide +kernel
theorem dX7_init_73 : decode cX7_init 73 = .ok (.aload_n 0, 1) := by decide +kernel
theorem dX7_init_74 : decode cX7_init 74 = .ok (.bipush 6, 2) := by decide +kernel
theorem dX7_init_76 : decode cX7_init 76 = .ok (.newarray .int, 2) := by decide +kernel
theorem dX7_init_78 : decode cX7_init 78 = .ok (.putfield 39, 3) := by decide +kernel
theorem dX7_init_81 : decode cX7_init 81 = .ok (.aload_n 0, 1) := by decide +kernel
theorem dX7_init_82 : decode cX7_init 82 = .ok (.bipush 6, 2) := by decide +kernel
theorem dX7_init_84 : decode cX7_init 84 = .ok (.newarray .int, 2) := by decide +kernel
theorem dX7_init_86 : decode cX7_init 86 = .ok (.putfield 42, 3) := by decide +kernel
theorem dX7_init_89 : decode cX7_init 89 = .ok (.aload_n 0, 1) := by decide +kernel
theorem dX7_init_90 : decode cX7_init 90 = .ok (.sipush 720, 3) := by decide +kernel
theorem dX7_init_93 : decode cX7_init 93 = .ok (.newarray .int, 2) := by decide +kernel
theorem dX7_init_95 : decode cX7_init 95 = .ok (.putfield 45, 3) := by decide +kernel
theorem dX7_init_98 : decode cX7_init 98 = .ok (.aload_n 0, 1) := by decide +kernel
theorem dX7_init_99 : decode cX7_init 99 = .ok (.sipush 720, 3) := by decide +kernel
theorem dX7_init_102 : decode cX7_init 102 = .ok (.newarray .int, 2) := by decide +kernel
theorem dX7_init_104 : decode cX7_init 104 = .ok (.putfield 48, 3) := by decide +kernel
theorem dX7_init_107 : decode cX7_init 107 = .ok (.aload_n 0, 1) := by decide +kernel
theorem dX7_init_108 : decode cX7_init 108 = .ok (.bipush 6, 2) := by decide +kernel
theorem dX7_init_110 : decode cX7_init 110 = .ok (.newarray .int, 2) := by decide +kernel
theorem dX7_init_112 : decode cX7_init 112 = .ok (.putfield 51, 3) := by decide +kernel
theorem dX7_init_115 : decode cX7_init 115 = .ok (.return_, 1) := by decide +kernel
theorem dX7_in_0 : decode cX7_in 0 = .ok (.iload_n 0, 1) := by decide +kernel
theorem dX7_in_1 : decode cX7_in 1 = .ok (.iload_n 1, 1) := by decide +kernel
theorem dX7_in_2 : decode cX7_in 2 = .ok (.if_icmp .lt 12, 3) := by decide +kernel
theorem dX7_in_5 : decode cX7_in 5 = .ok (.iload_n 0, 1) := by decide +kernel
theorem dX7_in_6 : decode cX7_in 6 = .ok (.iload_n 2, 1) := by decide +kernel
theorem dX7_in_7 : decode cX7_in 7 = .ok (.if_icmp .gt 7, 3) := by decide +kernel
theorem dX7_in_10 : decode cX7_in 10 = .ok (.iconst 1, 1) := by decide +kernel
theorem dX7_in_11 : decode cX7_in 11 = .ok (.goto 4, 3) := by decide +kernel
theorem dX7_in_14 : decode cX7_in 14 = .ok (.iconst 0, 1) := by decide +kernel
theorem dX7_in_15 : decode cX7_in 15 = .ok (.ireturn, 1) := by decide +kernel
theorem dX7_has_0 : decode cX7_has 0 = .ok (.iload_n 0, 1) := by decide +kernel
theorem dX7_has_1 : decode cX7_has 1 = .ok (.iload_n 1, 1) := by decide +kernel
theorem dX7_has_2 : decode cX7_has 2 = .ok (.ishr, 1) := by decide +kernel
theorem dX7_has_3 : decode cX7_has 3 = .ok (.iconst 1, 1) := by decide +kernel
theorem dX7_has_4 : decode cX7_has 4 = .ok (.iand, 1) := by decide +kernel
theorem dX7_has_5 : decode cX7_has 5 = .ok (.iconst 1, 1) := by decide +kernel
theorem dX7_has_6 : decode cX7_has 6 = .ok (.if_icmp .ne 7, 3) := by decide +kernel
theorem dX7_has_9 : decode cX7_has 9 = .ok (.iconst 1, 1) := by decide +kernel
theorem dX7_has_10 : decode cX7_has 10 = .ok (.goto 4, 3) := by decide +kernel
theorem dX7_has_13 : decode cX7_has 13 = .ok (.iconst 0, 1) := by decide +kernel
theorem dX7_has_14 : decode cX7_has 14 = .ok (.ireturn, 1) := by decide +kernel
theorem dX7_bits_0 : decode cX7_bits 0 = .ok (.iconst 0, 1) := by decide +kernel
theorem dX7_bits_1 : decode cX7_bits 1 = .ok (.istore_n 1, 1) := by decide +kernel
theorem dX7_bits_2 : decode cX7_bits 2 = .ok (.iconst 0, 1) := by decide +kernel
theorem dX7_bits_3 : decode cX7_bits 3 = .ok (.istore_n 2, 1) := by decide +kernel
theorem dX7_bits_4 : decode cX7_bits 4 = .ok (.iload_n 2, 1) := by decide +kernel
theorem dX7_bits_5 : decode cX7_bits 5 = .ok (.bipush 6, 2) := by decide +kernel
theorem dX7_bits_7 : decode cX7_bits 7 = .ok (.if_icmp .ge 17, 3) := by decide +kernel
theorem dX7_bits_10 : decode cX7_bits 10 = .ok (.iload_n 1, 1) := by decide +kernel
theorem dX7_bits_11 : decode cX7_bits 11 = .ok (.iload_n 0, 1) := by decide +kernel
theorem dX7_bits_12 : decode cX7_bits 12 = .ok (.iload_n 2, 1) := by decide +kernel
theorem dX7_bits_13 : decode cX7_bits 13 = .ok (.ishr, 1) := by decide +kernel
theorem dX7_bits_14 : decode cX7_bits 14 = .ok (.iconst 1, 1) := by decide +kernel
theorem dX7_bits_15 : decode cX7_bits 15 = .ok (.iand, 1) := by decide +kernel
theorem dX7_bits_16 : decode cX7_bits 16 = .ok (.iadd, 1) := by decide +kernel
theorem dX7_bits_17 : decode cX7_bits 17 = .ok (.istore_n 1, 1) := by decide +kernel
theorem dX7_bits_18 : decode cX7_bits 18 = .ok (.iinc 2 1, 3) := by decide +kernel
theorem dX7_bits_21 : decode cX7_bits 21 = .ok (.goto (-17), 3) := by decide +kernel
theorem dX7_bits_24 : decode cX7_bits 24 = .ok (.iload_n 1, 1) := by decide +kernel
theorem dX7_bits_25 : decode cX7_bits 25 = .ok (.ireturn, 1) := by decide +kernel
set_option maxRecDepth 20000 in
theorem ggX7_isOne_X7_in : GoodIn wsX7_isOne wsX7_in := goodIn_r _ [5] (by decide +kernel) (by decide +kernel)
set_option maxRecDepth 20000 in
theorem gX7_isOne_X7_in : GoodIn wsX7_isOne (va_wsS RX7 57 yX7_in wsX7_in) := goodIn_app (goodIn_of _ (by decide +kernel)) ggX7_isOne_X7_in
theorem dX7_isOne_0 : decode cX7_isOne 0 = .ok (.iload_n 1, 1) := by decide +kernel
theorem dX7_isOne_1 : decode cX7_isOne 1 = .ok (.iconst 0, 1) := by decide +kernel
theorem dX7_isOne_2 : decode cX7_isOne 2 = .ok (.aload_n 0, 1) := by decide +kernel
theorem dX7_isOne_3 : decode cX7_isOne 3 = .ok (.getfield 54, 3) := by decide +kernel
theorem dX7_isOne_6 : decode cX7_isOne 6 = .ok (.iconst 1, 1) := by decide +kernel
theorem dX7_isOne_7 : decode cX7_isOne 7 = .ok (.isub, 1) := by decide +kernel
theorem dX7_isOne_8 : decode cX7_isOne 8 = .ok (.invokestatic 57, 3) := by decide +kernel
theorem dX7_isOne_11 : decode cX7_isOne 11 = .ok (.ireturn, 1) := by decide +kernel
set_option maxRecDepth 20000 in
theorem ggX7_type_X7_in : GoodIn wsX7_type wsX7_in := goodIn_r _ [6] (by decide +kernel) (by decide +kernel)
set_option maxRecDepth 20000 in
theorem gX7_type_X7_in : GoodIn wsX7_type (va_wsS RX7 57 yX7_in wsX7_in) := goodIn_app (goodIn_of _ (by decide +kernel)) ggX7_type_X7_in
theorem dX7_type_0 : decode cX7_type 0 = .ok (.iload_n 1, 1) := by decide +kernel
theorem dX7_type_1 : decode cX7_type 1 = .ok (.iconst 0, 1) := by decide +kernel
theorem dX7_type_2 : decode cX7_type 2 = .ok (.sipush 255, 3) := by decide +kernel
theorem dX7_type_5 : decode cX7_type 5 = .ok (.invokestatic 57, 3) := by decide +kernel
theorem dX7_type_8 : decode cX7_type 8 = .ok (.ifCond .ne 5, 3) := by decide +kernel
theorem dX7_type_11 : decode cX7_type 11 = .ok (.iconst (-1), 1) := by decide +kernel
theorem dX7_type_12 : decode cX7_type 12 = .ok (.ireturn, 1) := by decide +kernel
theorem dX7_type_13 : decode cX7_type 13 = .ok (.aload_n 0, 1) := by decide +kernel
theorem dX7_type_14 : decode cX7_type 14 = .ok (.getfield 61, 3) := by decide +kernel
theorem dX7_type_17 : decode cX7_type 17 = .ok (.bipush 120, 2) := by decide +kernel
theorem dX7_type_19 : decode cX7_type 19 = .ok (.if_icmp .ne 6, 3) := by decide +kernel
theorem dX7_type_22 : decode cX7_type 22 = .ok (.bipush (-3), 2) := by decide +kernel
theorem dX7_type_24 : decode cX7_type 24 = .ok (.ireturn, 1) := by decide +kernel
theorem dX7_type_25 : decode cX7_type 25 = .ok (.aload_n 0, 1) := by decide +kernel
theorem dX7_type_26 : decode cX7_type 26 = .ok (.getfield 33, 3) := by decide +kernel
theorem dX7_type_29 : decode cX7_type 29 = .ok (.aload_n 0, 1) := by decide +kernel
theorem dX7_type_30 : decode cX7_type 30 = .ok (.getfield 61, 3) := by decide +kernel
theorem dX7_type_33 : decode cX7_type 33 = .ok (.iload_n 1, 1) := by decide +kernel
theorem dX7_type_34 : decode cX7_type 34 = .ok (.iastore, 1) := by decide +kernel
theorem dX7_type_35 : decode cX7_type 35 = .ok (.aload_n 0, 1) := by decide +kernel
theorem dX7_type_36 : decode cX7_type 36 = .ok (.dup, 1) := by decide +kernel
theorem dX7_type_37 : decode cX7_type 37 = .ok (.getfield 61, 3) := by decide +kernel
theorem dX7_type_40 : decode cX7_type 40 = .ok (.iconst 1, 1) := by decide +kernel
theorem dX7_type_41 : decode cX7_type 41 = .ok (.iadd, 1) := by decide +kernel
theorem dX7_type_42 : decode cX7_type 42 = .ok (.putfield 61, 3) := by decide +kernel
theorem dX7_type_45 : decode cX7_type 45 = .ok (.aload_n 0, 1) := by decide +kernel
theorem dX7_type_46 : decode cX7_type 46 = .ok (.getfield 61, 3) := by decide +kernel
theorem dX7_type_49 : decode cX7_type 49 = .ok (.ireturn, 1) := by decide +kernel
theorem dX7_clear_0 : decode cX7_clear 0 = .ok (.aload_n 0, 1) := by decide +kernel
theorem dX7_clear_1 : decode cX7_clear 1 = .ok (.getfield 61, 3) := by decide +kernel
theorem dX7_clear_4 : decode cX7_clear 4 = .ok (.istore_n 1, 1) := by decide +kernel
theorem dX7_clear_5 : decode cX7_clear 5 = .ok (.aload_n 0, 1) := by decide +kernel
theorem dX7_clear_6 : decode cX7_clear 6 = .ok (.iconst 0, 1) := by decide +kernel
theorem dX7_clear_7 : decode cX7_clear 7 = .ok (.putfield 61, 3) := by decide +kernel
theorem dX7_clear_10 : decode cX7_clear 10 = .ok (.iload_n 1, 1) := by decide +kernel
theorem dX7_clear_11 : decode cX7_clear 11 = .ok (.ireturn, 1) := by decide +kernel
theorem dX7_letterAt_0 : decode cX7_letterAt 0 = .ok (.iload_n 1, 1) := by decide +kernel
theorem dX7_letterAt_1 : decode cX7_letterAt 1 = .ok (.aload_n 0, 1) := by decide +kernel
theorem dX7_letterAt_2 : decode cX7_letterAt 2 = .ok (.getfield 61, 3) := by decide +kernel
theorem dX7_letterAt_5 : decode cX7_letterAt 5 = .ok (.if_icmp .ge 12, 3) := by decide +kernel
theorem dX7_letterAt_8 : decode cX7_letterAt 8 = .ok (.aload_n 0, 1) := by decide +kernel
theorem dX7_letterAt_9 : decode cX7_letterAt 9 = .ok (.getfield 33, 3) := by decide +kernel
theorem dX7_letterAt_12 : decode cX7_letterAt 12 = .ok (.iload_n 1, 1) := by decide +kernel
theorem dX7_letterAt_13 : decode cX7_letterAt 13 = .ok (.iaload, 1) := by decide +kernel
theorem dX7_letterAt_14 : decode cX7_letterAt 14 = .ok (.goto 4, 3) := by decide +kernel
theorem dX7_letterAt_17 : decode cX7_letterAt 17 = .ok (.iconst (-1), 1) := by decide +kernel
theorem dX7_letterAt_18 : decode cX7_letterAt 18 = .ok (.ireturn, 1) := by decide +kernel
set_option maxRecDepth 20000 in
theorem ggX7_isFigure_X7_in : GoodIn wsX7_isFigure wsX7_in := goodIn_r _ [4] (by decide +kernel) (by decide +kernel)
set_option maxRecDepth 20000 in
theorem gX7_isFigure_X7_in : GoodIn wsX7_isFigure (va_wsS RX7 57 yX7_in wsX7_in) := goodIn_app (goodIn_of _ (by decide +kernel)) ggX7_isFigure_X7_in
theorem dX7_isFigure_0 : decode cX7_isFigure 0 = .ok (.iload_n 0, 1) := by decide +kernel
theorem dX7_isFigure_1 : decode cX7_isFigure 1 = .ok (.bipush 48, 2) := by decide +kernel
theorem dX7_isFigure_3 : decode cX7_isFigure 3 = .ok (.bipush 57, 2) := by decide +kernel
theorem dX7_isFigure_5 : decode cX7_isFigure 5 = .ok (.invokestatic 57, 3) := by decide +kernel
theorem dX7_isFigure_8 : decode cX7_isFigure 8 = .ok (.ireturn, 1) := by decide +kernel
set_option maxRecDepth 20000 in
theorem ggX7_isLetter_X7_in : GoodIn wsX7_isLetter wsX7_in := goodIn_r _ [4] (by decide +kernel) (by decide +kernel)
set_option maxRecDepth 20000 in
theorem gX7_isLetter_X7_in : GoodIn wsX7_isLetter (va_wsS RX7 57 yX7_in wsX7_in) := goodIn_app (goodIn_of _ (by decide +kernel)) ggX7_isLetter_X7_in
theorem dX7_isLetter_0 : decode cX7_isLetter 0 = .ok (.iload_n 0, 1) := by decide +kernel
theorem dX7_isLetter_1 : decode cX7_isLetter 1 = .ok (.bipush 97, 2) := by decide +kernel
theorem dX7_isLetter_3 : decode cX7_isLetter 3 = .ok (.bipush 122, 2) := by decide +kernel
theorem dX7_isLetter_5 : decode cX7_isLetter 5 = .ok (.invokestatic 57, 3) := by decide +kernel
theorem dX7_isLetter_8 : decode cX7_isLetter 8 = .ok (.ireturn, 1) := by decide +kernel
set_option maxRecDepth 20000 in
theorem ggX7_next_X7_letterAt : GoodIn wsX7_next wsX7_letterAt := goodIn_r _ [9, 10, 11, 21, 22, 23, 24, 25, 26, 27, 28, 29, 30, 31, 32, 33, 34, 35, 36, 37, 38, 39, 40, 41, 42, 43, 44, 45, 46, 47, 48] (by decide +kernel) (by decide +kernel)
set_option maxRecDepth 20000 in
theorem gX7_next_X7_letterAt : GoodIn wsX7_next (wsV RX7 67 RX7 yX7_letterAt wsX7_letterAt) := goodIn_app (goodIn_of _ (by decide +kernel)) ggX7_next_X7_letterAt
set_option maxRecDepth 20000 in
theorem ggX7_next_X7_isFigure : GoodIn wsX7_next wsX7_isFigure := goodIn_r _ [14, 15, 16, 8, 17] (by decide +kernel) (by decide +kernel)
set_option maxRecDepth 20000 in
theorem gX7_next_X7_isFigure : GoodIn wsX7_next (va_wsS RX7 80 yX7_isFigure wsX7_isFigure) := goodIn_app (goodIn_of _ (by decide +kernel)) ggX7_next_X7_isFigure
set_option maxRecDepth 20000 in
theorem ggX7_next_X7_isLetter : GoodIn wsX7_next wsX7_isLetter := goodIn_r _ [20, 15, 16, 8, 17] (by decide +kernel) (by decide +kernel)
set_option maxRecDepth 20000 in
theorem gX7_next_X7_isLetter : GoodIn wsX7_next (va_wsS RX7 84 yX7_isLetter wsX7_isLetter) := goodIn_app (goodIn_of _ (by decide +kernel)) ggX7_next_X7_isLetter
theorem dX7_next_0 : decode cX7_next 0 = .ok (.aload_n 0, 1) := by decide +kernel
theorem dX7_next_1 : decode cX7_next 1 = .ok (.aload_n 0, 1) := by decide +kernel
theorem dX7_next_2 : decode cX7_next 2 = .ok (.getfield 64, 3) := by decide +kernel
theorem dX7_next_5 : decode cX7_next 5 = .ok (.invokevirtual 67, 3) := by decide +kernel
theorem dX7_next_8 : decode cX7_next 8 = .ok (.bipush 32, 2) := by decide +kernel
theorem dX7_next_10 : decode cX7_next 10 = .ok (.if_icmp .ne 16, 3) := by decide +kernel
theorem dX7_next_13 : decode cX7_next 13 = .ok (.aload_n 0, 1) := by decide +kernel
theorem dX7_next_14 : decode cX7_next 14 = .ok (.dup, 1) := by decide +kernel
theorem dX7_next_15 : decode cX7_next 15 = .ok (.getfield 64, 3) := by decide +kernel
theorem dX7_next_18 : decode cX7_next 18 = .ok (.iconst 1, 1) := by decide +kernel
theorem dX7_next_19 : decode cX7_next 19 = .ok (.iadd, 1) := by decide +kernel
theorem dX7_next_20 : decode cX7_next 20 = .ok (.putfield 64, 3) := by decide +kernel
theorem dX7_next_23 : decode cX7_next 23 = .ok (.goto (-23), 3) := by decide +kernel
theorem dX7_next_26 : decode cX7_next 26 = .ok (.aload_n 0, 1) := by decide +kernel
theorem dX7_next_27 : decode cX7_next 27 = .ok (.aload_n 0, 1) := by decide +kernel
theorem dX7_next_28 : decode cX7_next 28 = .ok (.getfield 64, 3) := by decide +kernel
theorem dX7_next_31 : decode cX7_next 31 = .ok (.putfield 71, 3) := by decide +kernel
theorem dX7_next_34 : decode cX7_next 34 = .ok (.aload_n 0, 1) := by decide +kernel
theorem dX7_next_35 : decode cX7_next 35 = .ok (.aload_n 0, 1) := by decide +kernel
theorem dX7_next_36 : decode cX7_next 36 = .ok (.getfield 64, 3) := by decide +kernel
theorem dX7_next_39 : decode cX7_next 39 = .ok (.invokevirtual 67, 3) := by decide +kernel
theorem dX7_next_42 : decode cX7_next 42 = .ok (.istore_n 1, 1) := by decide +kernel
theorem dX7_next_43 : decode cX7_next 43 = .ok (.aload_n 0, 1) := by decide +kernel
theorem dX7_next_44 : decode cX7_next 44 = .ok (.iconst 0, 1) := by decide +kernel
theorem dX7_next_45 : decode cX7_next 45 = .ok (.putfield 74, 3) := by decide +kernel
theorem dX7_next_48 : decode cX7_next 48 = .ok (.iload_n 1, 1) := by decide +kernel
theorem dX7_next_49 : decode cX7_next 49 = .ok (.ifCond .ge 11, 3) := by decide +kernel
theorem dX7_next_52 : decode cX7_next 52 = .ok (.aload_n 0, 1) := by decide +kernel
theorem dX7_next_53 : decode cX7_next 53 = .ok (.iconst 0, 1) := by decide +kernel
theorem dX7_next_54 : decode cX7_next 54 = .ok (.putfield 77, 3) := by decide +kernel
theorem dX7_next_57 : decode cX7_next 57 = .ok (.goto 205, 3) := by decide +kernel
theorem dX7_next_60 : decode cX7_next 60 = .ok (.iload_n 1, 1) := by decide +kernel
theorem dX7_next_61 : decode cX7_next 61 = .ok (.invokestatic 80, 3) := by decide +kernel
theorem dX7_next_64 : decode cX7_next 64 = .ok (.ifCond .eq 109, 3) := by decide +kernel
theorem dX7_next_67 : decode cX7_next 67 = .ok (.aload_n 0, 1) := by decide +kernel
theorem dX7_next_68 : decode cX7_next 68 = .ok (.aload_n 0, 1) := by decide +kernel
theorem dX7_next_69 : decode cX7_next 69 = .ok (.getfield 64, 3) := by decide +kernel
theorem dX7_next_72 : decode cX7_next 72 = .ok (.invokevirtual 67, 3) := by decide +kernel
theorem dX7_next_75 : decode cX7_next 75 = .ok (.invokestatic 80, 3) := by decide +kernel
theorem dX7_next_78 : decode cX7_next 78 = .ok (.ifCond .eq 55, 3) := by decide +kernel
theorem dX7_next_81 : decode cX7_next 81 = .ok (.aload_n 0, 1) := by decide +kernel
theorem dX7_next_82 : decode cX7_next 82 = .ok (.aload_n 0, 1) := by decide +kernel
theorem dX7_next_83 : decode cX7_next 83 = .ok (.getfield 74, 3) := by decide +kernel
theorem dX7_next_86 : decode cX7_next 86 = .ok (.bipush 99, 2) := by decide +kernel
theorem dX7_next_88 : decode cX7_next 88 = .ok (.if_icmp .le 10, 3) := by decide +kernel
theorem dX7_next_91 : decode cX7_next 91 = .ok (.aload_n 0, 1) := by decide +kernel
theorem dX7_next_92 : decode cX7_next 92 = .ok (.getfield 74, 3) := by decide +kernel
theorem dX7_next_95 : decode cX7_next 95 = .ok (.goto 22, 3) := by decide +kernel
theorem dX7_next_98 : decode cX7_next 98 = .ok (.bipush 10, 2) := by decide +kernel
theorem dX7_next_100 : decode cX7_next 100 = .ok (.aload_n 0, 1) := by decide +kernel
theorem dX7_next_101 : decode cX7_next 101 = .ok (.getfield 74, 3) := by decide +kernel
theorem dX7_next_104 : decode cX7_next 104 = .ok (.imul, 1) := by decide +kernel
theorem dX7_next_105 : decode cX7_next 105 = .ok (.aload_n 0, 1) := by decide +kernel
theorem dX7_next_106 : decode cX7_next 106 = .ok (.aload_n 0, 1) := by decide +kernel
theorem dX7_next_107 : decode cX7_next 107 = .ok (.getfield 64, 3) := by decide +kernel
theorem dX7_next_110 : decode cX7_next 110 = .ok (.invokevirtual 67, 3) := by decide +kernel
theorem dX7_next_113 : decode cX7_next 113 = .ok (.iadd, 1) := by decide +kernel
theorem dX7_next_114 : decode cX7_next 114 = .ok (.bipush 48, 2) := by decide +kernel
theorem dX7_next_116 : decode cX7_next 116 = .ok (.isub, 1) := by decide +kernel
theorem dX7_next_117 : decode cX7_next 117 = .ok (.putfield 74, 3) := by decide +kernel
theorem dX7_next_120 : decode cX7_next 120 = .ok (.aload_n 0, 1) := by decide +kernel
theorem dX7_next_121 : decode cX7_next 121 = .ok (.dup, 1) := by decide +kernel
theorem dX7_next_122 : decode cX7_next 122 = .ok (.getfield 64, 3) := by decide +kernel
theorem dX7_next_125 : decode cX7_next 125 = .ok (.iconst 1, 1) := by decide +kernel
theorem dX7_next_126 : decode cX7_next 126 = .ok (.iadd, 1) := by decide +kernel
theorem dX7_next_127 : decode cX7_next 127 = .ok (.putfield 64, 3) := by decide +kernel
theorem dX7_next_130 : decode cX7_next 130 = .ok (.goto (-63), 3) := by decide +kernel
theorem dX7_next_133 : decode cX7_next 133 = .ok (.aload_n 0, 1) := by decide +kernel
theorem dX7_next_134 : decode cX7_next 134 = .ok (.aload_n 0, 1) := by decide +kernel
theorem dX7_next_135 : decode cX7_next 135 = .ok (.getfield 74, 3) := by decide +kernel
theorem dX7_next_138 : decode cX7_next 138 = .ok (.bipush 99, 2) := by decide +kernel
theorem dX7_next_140 : decode cX7_next 140 = .ok (.if_icmp .gt 22, 3) := by decide +kernel
theorem dX7_next_143 : decode cX7_next 143 = .ok (.iload_n 1, 1) := by decide +kernel
theorem dX7_next_144 : decode cX7_next 144 = .ok (.bipush 48, 2) := by decide +kernel
theorem dX7_next_146 : decode cX7_next 146 = .ok (.if_icmp .ne 20, 3) := by decide +kernel
theorem dX7_next_149 : decode cX7_next 149 = .ok (.aload_n 0, 1) := by decide +kernel
theorem dX7_next_150 : decode cX7_next 150 = .ok (.getfield 64, 3) := by decide +kernel
theorem dX7_next_153 : decode cX7_next 153 = .ok (.aload_n 0, 1) := by decide +kernel
theorem dX7_next_154 : decode cX7_next 154 = .ok (.getfield 71, 3) := by decide +kernel
theorem dX7_next_157 : decode cX7_next 157 = .ok (.isub, 1) := by decide +kernel
theorem dX7_next_158 : decode cX7_next 158 = .ok (.iconst 1, 1) := by decide +kernel
theorem dX7_next_159 : decode cX7_next 159 = .ok (.if_icmp .le 7, 3) := by decide +kernel
theorem dX7_next_162 : decode cX7_next 162 = .ok (.iconst 4, 1) := by decide +kernel
theorem dX7_next_163 : decode cX7_next 163 = .ok (.goto 4, 3) := by decide +kernel
theorem dX7_next_166 : decode cX7_next 166 = .ok (.iconst 2, 1) := by decide +kernel
theorem dX7_next_167 : decode cX7_next 167 = .ok (.putfield 77, 3) := by decide +kernel
theorem dX7_next_170 : decode cX7_next 170 = .ok (.goto 92, 3) := by decide +kernel
theorem dX7_next_173 : decode cX7_next 173 = .ok (.iload_n 1, 1) := by decide +kernel
theorem dX7_next_174 : decode cX7_next 174 = .ok (.invokestatic 84, 3) := by decide +kernel
theorem dX7_next_177 : decode cX7_next 177 = .ok (.ifCond .eq 60, 3) := by decide +kernel
theorem dX7_next_180 : decode cX7_next 180 = .ok (.aload_n 0, 1) := by decide +kernel
theorem dX7_next_181 : decode cX7_next 181 = .ok (.aload_n 0, 1) := by decide +kernel
theorem dX7_next_182 : decode cX7_next 182 = .ok (.getfield 64, 3) := by decide +kernel
theorem dX7_next_185 : decode cX7_next 185 = .ok (.invokevirtual 67, 3) := by decide +kernel
theorem dX7_next_188 : decode cX7_next 188 = .ok (.invokestatic 84, 3) := by decide +kernel
theorem dX7_next_191 : decode cX7_next 191 = .ok (.ifCond .eq 16, 3) := by decide +kernel
theorem dX7_next_194 : decode cX7_next 194 = .ok (.aload_n 0, 1) := by decide +kernel
theorem dX7_next_195 : decode cX7_next 195 = .ok (.dup, 1) := by decide +kernel
theorem dX7_next_196 : decode cX7_next 196 = .ok (.getfield 64, 3) := by decide +kernel
theorem dX7_next_199 : decode cX7_next 199 = .ok (.iconst 1, 1) := by decide +kernel
theorem dX7_next_200 : decode cX7_next 200 = .ok (.iadd, 1) := by decide +kernel
theorem dX7_next_201 : decode cX7_next 201 = .ok (.putfield 64, 3) := by decide +kernel
theorem dX7_next_204 : decode cX7_next 204 = .ok (.goto (-24), 3) := by decide +kernel
theorem dX7_next_207 : decode cX7_next 207 = .ok (.aload_n 0, 1) := by decide +kernel
theorem dX7_next_208 : decode cX7_next 208 = .ok (.iconst 1, 1) := by decide +kernel
theorem dX7_next_209 : decode cX7_next 209 = .ok (.putfield 77, 3) := by decide +kernel
theorem dX7_next_212 : decode cX7_next 212 = .ok (.aload_n 0, 1) := by decide +kernel
theorem dX7_next_213 : decode cX7_next 213 = .ok (.aload_n 0, 1) := by decide +kernel
theorem dX7_next_214 : decode cX7_next 214 = .ok (.getfield 64, 3) := by decide +kernel
theorem dX7_next_217 : decode cX7_next 217 = .ok (.aload_n 0, 1) := by decide +kernel
theorem dX7_next_218 : decode cX7_next 218 = .ok (.getfield 71, 3) := by decide +kernel
theorem dX7_next_221 : decode cX7_next 221 = .ok (.isub, 1) := by decide +kernel
theorem dX7_next_222 : decode cX7_next 222 = .ok (.iconst 1, 1) := by decide +kernel
theorem dX7_next_223 : decode cX7_next 223 = .ok (.if_icmp .ne 7, 3) := by decide +kernel
theorem dX7_next_226 : decode cX7_next 226 = .ok (.iload_n 1, 1) := by decide +kernel
theorem dX7_next_227 : decode cX7_next 227 = .ok (.goto 4, 3) := by decide +kernel
theorem dX7_next_230 : decode cX7_next 230 = .ok (.iconst 0, 1) := by decide +kernel
theorem dX7_next_231 : decode cX7_next 231 = .ok (.putfield 74, 3) := by decide +kernel
theorem dX7_next_234 : decode cX7_next 234 = .ok (.goto 28, 3) := by decide +kernel
theorem dX7_next_237 : decode cX7_next 237 = .ok (.aload_n 0, 1) := by decide +kernel
theorem dX7_next_238 : decode cX7_next 238 = .ok (.iload_n 1, 1) := by decide +kernel
theorem dX7_next_239 : decode cX7_next 239 = .ok (.bipush 59, 2) := by decide +kernel
theorem dX7_next_241 : decode cX7_next 241 = .ok (.if_icmp .ne 7, 3) := by decide +kernel
theorem dX7_next_244 : decode cX7_next 244 = .ok (.iconst 3, 1) := by decide +kernel
theorem dX7_next_245 : decode cX7_next 245 = .ok (.goto 4, 3) := by decide +kernel
theorem dX7_next_248 : decode cX7_next 248 = .ok (.iconst 4, 1) := by decide +kernel
theorem dX7_next_249 : decode cX7_next 249 = .ok (.putfield 77, 3) := by decide +kernel
theorem dX7_next_252 : decode cX7_next 252 = .ok (.aload_n 0, 1) := by decide +kernel
theorem dX7_next_253 : decode cX7_next 253 = .ok (.dup, 1) := by decide +kernel
theorem dX7_next_254 : decode cX7_next 254 = .ok (.getfield 64, 3) := by decide +kernel
theorem dX7_next_257 : decode cX7_next 257 = .ok (.iconst 1, 1) := by decide +kernel
theorem dX7_next_258 : decode cX7_next 258 = .ok (.iadd, 1) := by decide +kernel
theorem dX7_next_259 : decode cX7_next 259 = .ok (.putfield 64, 3) := by decide +kernel
theorem dX7_next_262 : decode cX7_next 262 = .ok (.return_, 1) := by decide +kernel
set_option maxRecDepth 20000 in
theorem ggX7_takes_X7_in : GoodIn wsX7_takes wsX7_in := goodIn_r _ [7] (by decide +kernel) (by decide +kernel)
set_option maxRecDepth 20000 in
theorem gX7_takes_X7_in : GoodIn wsX7_takes (va_wsS RX7 57 yX7_in wsX7_in) := goodIn_app (goodIn_of _ (by decide +kernel)) ggX7_takes_X7_in
set_option maxRecDepth 20000 in
theorem ggX7_takes_X7_next : GoodIn wsX7_takes wsX7_next := goodIn_r _ [11, 12, 13, 3, 2, 14, 15, 16, 6, 17, 18, 19, 20, 21, 22, 4, 5, 7, 23, 24, 25, 26, 27, 28, 29, 30, 31, 32, 33, 34, 35, 36, 37, 38, 39, 40, 41, 42, 43, 44, 45, 46, 47, 48, 49, 50, 51, 52, 53] (by decide +kernel) (by decide +kernel)
set_option maxRecDepth 20000 in
theorem gX7_takes_X7_next : GoodIn wsX7_takes (wsV RX7 91 RX7 yX7_next wsX7_next) := goodIn_app (goodIn_of _ (by decide +kernel)) ggX7_takes_X7_next
theorem dX7_takes_0 : decode cX7_takes 0 = .ok (.aload_n 0, 1) := by decide +kernel
theorem dX7_takes_1 : decode cX7_takes 1 = .ok (.getfield 87, 3) := by decide +kernel
theorem dX7_takes_4 : decode cX7_takes 4 = .ok (.ifCond .ne 35, 3) := by decide +kernel
theorem dX7_takes_7 : decode cX7_takes 7 = .ok (.aload_n 0, 1) := by decide +kernel
theorem dX7_takes_8 : decode cX7_takes 8 = .ok (.getfield 77, 3) := by decide +kernel
theorem dX7_takes_11 : decode cX7_takes 11 = .ok (.iconst 2, 1) := by decide +kernel
theorem dX7_takes_12 : decode cX7_takes 12 = .ok (.if_icmp .ne 27, 3) := by decide +kernel
theorem dX7_takes_15 : decode cX7_takes 15 = .ok (.aload_n 0, 1) := by decide +kernel
theorem dX7_takes_16 : decode cX7_takes 16 = .ok (.getfield 74, 3) := by decide +kernel
theorem dX7_takes_19 : decode cX7_takes 19 = .ok (.iload_n 1, 1) := by decide +kernel
theorem dX7_takes_20 : decode cX7_takes 20 = .ok (.iload_n 2, 1) := by decide +kernel
theorem dX7_takes_21 : decode cX7_takes 21 = .ok (.invokestatic 57, 3) := by decide +kernel
theorem dX7_takes_24 : decode cX7_takes 24 = .ok (.ifCond .eq 15, 3) := by decide +kernel
theorem dX7_takes_27 : decode cX7_takes 27 = .ok (.aload_n 0, 1) := by decide +kernel
theorem dX7_takes_28 : decode cX7_takes 28 = .ok (.getfield 74, 3) := by decide +kernel
theorem dX7_takes_31 : decode cX7_takes 31 = .ok (.iload_n 3, 1) := by decide +kernel
theorem dX7_takes_32 : decode cX7_takes 32 = .ok (.if_icmp .eq 7, 3) := by decide +kernel
theorem dX7_takes_35 : decode cX7_takes 35 = .ok (.iconst 1, 1) := by decide +kernel
theorem dX7_takes_36 : decode cX7_takes 36 = .ok (.goto 4, 3) := by decide +kernel
theorem dX7_takes_39 : decode cX7_takes 39 = .ok (.iconst 0, 1) := by decide +kernel
theorem dX7_takes_40 : decode cX7_takes 40 = .ok (.istore 4, 2) := by decide +kernel
theorem dX7_takes_42 : decode cX7_takes 42 = .ok (.aload_n 0, 1) := by decide +kernel
theorem dX7_takes_43 : decode cX7_takes 43 = .ok (.iload 4, 2) := by decide +kernel
theorem dX7_takes_45 : decode cX7_takes 45 = .ok (.ifCond .ne 7, 3) := by decide +kernel
theorem dX7_takes_48 : decode cX7_takes 48 = .ok (.iconst 1, 1) := by decide +kernel
theorem dX7_takes_49 : decode cX7_takes 49 = .ok (.goto 4, 3) := by decide +kernel
theorem dX7_takes_52 : decode cX7_takes 52 = .ok (.iconst 0, 1) := by decide +kernel
theorem dX7_takes_53 : decode cX7_takes 53 = .ok (.putfield 87, 3) := by decide +kernel
theorem dX7_takes_56 : decode cX7_takes 56 = .ok (.aload_n 0, 1) := by decide +kernel
theorem dX7_takes_57 : decode cX7_takes 57 = .ok (.getfield 74, 3) := by decide +kernel
theorem dX7_takes_60 : decode cX7_takes 60 = .ok (.istore 5, 2) := by decide +kernel
theorem dX7_takes_62 : decode cX7_takes 62 = .ok (.iload 4, 2) := by decide +kernel
theorem dX7_takes_64 : decode cX7_takes 64 = .ok (.ifCond .eq 7, 3) := by decide +kernel
theorem dX7_takes_67 : decode cX7_takes 67 = .ok (.aload_n 0, 1) := by decide +kernel
theorem dX7_takes_68 : decode cX7_takes 68 = .ok (.invokevirtual 91, 3) := by decide +kernel
theorem dX7_takes_71 : decode cX7_takes 71 = .ok (.iload 4, 2) := by decide +kernel
theorem dX7_takes_73 : decode cX7_takes 73 = .ok (.ifCond .eq 8, 3) := by decide +kernel
theorem dX7_takes_76 : decode cX7_takes 76 = .ok (.iload 5, 2) := by decide +kernel
theorem dX7_takes_78 : decode cX7_takes 78 = .ok (.goto 4, 3) := by decide +kernel
theorem dX7_takes_81 : decode cX7_takes 81 = .ok (.iconst 0, 1) := by decide +kernel
theorem dX7_takes_82 : decode cX7_takes 82 = .ok (.ireturn, 1) := by decide +kernel
set_option maxRecDepth 20000 in
theorem ggX7_readKeeper_X7_takes : GoodIn wsX7_readKeeper wsX7_takes := goodIn_r _ [8, 9, 10, 11, 12, 13, 7, 14, 15, 16, 17, 18, 19, 20, 21, 22, 23, 24, 25, 26, 27, 28, 29, 30, 31, 32, 33, 34, 35, 36, 37, 38, 39, 40, 41, 42, 43, 44, 45, 46, 47, 48, 49, 50, 51, 52, 53, 54, 55, 56, 57, 58, 59, 60] (by decide +kernel) (by decide +kernel)
set_option maxRecDepth 20000 in
theorem gX7_readKeeper_X7_takes : GoodIn wsX7_readKeeper (wsV RX7 97 RX7 yX7_takes wsX7_takes) := goodIn_app (goodIn_of _ (by decide +kernel)) ggX7_readKeeper_X7_takes
theorem dX7_readKeeper_0 : decode cX7_readKeeper 0 = .ok (.aload_n 0, 1) := by decide +kernel
theorem dX7_readKeeper_1 : decode cX7_readKeeper 1 = .ok (.getfield 36, 3) := by decide +kernel
theorem dX7_readKeeper_4 : decode cX7_readKeeper 4 = .ok (.aload_n 0, 1) := by decide +kernel
theorem dX7_readKeeper_5 : decode cX7_readKeeper 5 = .ok (.getfield 94, 3) := by decide +kernel
theorem dX7_readKeeper_8 : decode cX7_readKeeper 8 = .ok (.aload_n 0, 1) := by decide +kernel
theorem dX7_readKeeper_9 : decode cX7_readKeeper 9 = .ok (.iconst 1, 1) := by decide +kernel
theorem dX7_readKeeper_10 : decode cX7_readKeeper 10 = .ok (.bipush 9, 2) := by decide +kernel
theorem dX7_readKeeper_12 : decode cX7_readKeeper 12 = .ok (.iconst (-1), 1) := by decide +kernel
theorem dX7_readKeeper_13 : decode cX7_readKeeper 13 = .ok (.invokevirtual 97, 3) := by decide +kernel
theorem dX7_readKeeper_16 : decode cX7_readKeeper 16 = .ok (.iastore, 1) := by decide +kernel
theorem dX7_readKeeper_17 : decode cX7_readKeeper 17 = .ok (.aload_n 0, 1) := by decide +kernel
theorem dX7_readKeeper_18 : decode cX7_readKeeper 18 = .ok (.getfield 39, 3) := by decide +kernel
theorem dX7_readKeeper_21 : decode cX7_readKeeper 21 = .ok (.aload_n 0, 1) := by decide +kernel
theorem dX7_readKeeper_22 : decode cX7_readKeeper 22 = .ok (.getfield 94, 3) := by decide +kernel
theorem dX7_readKeeper_25 : decode cX7_readKeeper 25 = .ok (.iconst 0, 1) := by decide +kernel
theorem dX7_readKeeper_26 : decode cX7_readKeeper 26 = .ok (.iastore, 1) := by decide +kernel
theorem dX7_readKeeper_27 : decode cX7_readKeeper 27 = .ok (.aload_n 0, 1) := by decide +kernel
theorem dX7_readKeeper_28 : decode cX7_readKeeper 28 = .ok (.dup, 1) := by decide +kernel
theorem dX7_readKeeper_29 : decode cX7_readKeeper 29 = .ok (.getfield 94, 3) := by decide +kernel
theorem dX7_readKeeper_32 : decode cX7_readKeeper 32 = .ok (.iconst 1, 1) := by decide +kernel
theorem dX7_readKeeper_33 : decode cX7_readKeeper 33 = .ok (.iadd, 1) := by decide +kernel
theorem dX7_readKeeper_34 : decode cX7_readKeeper 34 = .ok (.putfield 94, 3) := by decide +kernel
theorem dX7_readKeeper_37 : decode cX7_readKeeper 37 = .ok (.return_, 1) := by decide +kernel
set_option maxRecDepth 20000 in
theorem ggX7_readHate_X7_takes : GoodIn wsX7_readHate wsX7_takes := goodIn_r _ [9, 2, 10, 11, 12, 13, 8, 14, 15, 16, 17, 18, 19, 20, 21, 22, 23, 24, 25, 26, 27, 28, 29, 30, 31, 32, 33, 34, 35, 36, 37, 38, 39, 40, 41, 42, 43, 44, 45, 46, 47, 48, 49, 50, 51, 52, 53, 54, 55, 56, 57, 58, 59, 60] (by decide +kernel) (by decide +kernel)
set_option maxRecDepth 20000 in
theorem gX7_readHate_X7_takes : GoodIn wsX7_readHate (wsV RX7 97 RX7 yX7_takes wsX7_takes) := goodIn_app (goodIn_of _ (by decide +kernel)) ggX7_readHate_X7_takes
theorem dX7_readHate_0 : decode cX7_readHate 0 = .ok (.aload_n 0, 1) := by decide +kernel
theorem dX7_readHate_1 : decode cX7_readHate 1 = .ok (.iconst 0, 1) := by decide +kernel
theorem dX7_readHate_2 : decode cX7_readHate 2 = .ok (.aload_n 0, 1) := by decide +kernel
theorem dX7_readHate_3 : decode cX7_readHate 3 = .ok (.getfield 94, 3) := by decide +kernel
theorem dX7_readHate_6 : decode cX7_readHate 6 = .ok (.iconst 1, 1) := by decide +kernel
theorem dX7_readHate_7 : decode cX7_readHate 7 = .ok (.isub, 1) := by decide +kernel
theorem dX7_readHate_8 : decode cX7_readHate 8 = .ok (.iconst (-1), 1) := by decide +kernel
theorem dX7_readHate_9 : decode cX7_readHate 9 = .ok (.invokevirtual 97, 3) := by decide +kernel
theorem dX7_readHate_12 : decode cX7_readHate 12 = .ok (.istore_n 1, 1) := by decide +kernel
theorem dX7_readHate_13 : decode cX7_readHate 13 = .ok (.aload_n 0, 1) := by decide +kernel
theorem dX7_readHate_14 : decode cX7_readHate 14 = .ok (.iconst 0, 1) := by decide +kernel
theorem dX7_readHate_15 : decode cX7_readHate 15 = .ok (.aload_n 0, 1) := by decide +kernel
theorem dX7_readHate_16 : decode cX7_readHate 16 = .ok (.getfield 94, 3) := by decide +kernel
theorem dX7_readHate_19 : decode cX7_readHate 19 = .ok (.iconst 1, 1) := by decide +kernel
theorem dX7_readHate_20 : decode cX7_readHate 20 = .ok (.isub, 1) := by decide +kernel
theorem dX7_readHate_21 : decode cX7_readHate 21 = .ok (.iload_n 1, 1) := by decide +kernel
theorem dX7_readHate_22 : decode cX7_readHate 22 = .ok (.invokevirtual 97, 3) := by decide +kernel
theorem dX7_readHate_25 : decode cX7_readHate 25 = .ok (.istore_n 2, 1) := by decide +kernel
theorem dX7_readHate_26 : decode cX7_readHate 26 = .ok (.aload_n 0, 1) := by decide +kernel
theorem dX7_readHate_27 : decode cX7_readHate 27 = .ok (.getfield 87, 3) := by decide +kernel
theorem dX7_readHate_30 : decode cX7_readHate 30 = .ok (.ifCond .ne 27, 3) := by decide +kernel
theorem dX7_readHate_33 : decode cX7_readHate 33 = .ok (.aload_n 0, 1) := by decide +kernel
theorem dX7_readHate_34 : decode cX7_readHate 34 = .ok (.getfield 39, 3) := by decide +kernel
theorem dX7_readHate_37 : decode cX7_readHate 37 = .ok (.iload_n 1, 1) := by decide +kernel
theorem dX7_readHate_38 : decode cX7_readHate 38 = .ok (.dup2, 1) := by decide +kernel
theorem dX7_readHate_39 : decode cX7_readHate 39 = .ok (.iaload, 1) := by decide +kernel
theorem dX7_readHate_40 : decode cX7_readHate 40 = .ok (.iconst 1, 1) := by decide +kernel
theorem dX7_readHate_41 : decode cX7_readHate 41 = .ok (.iload_n 2, 1) := by decide +kernel
theorem dX7_readHate_42 : decode cX7_readHate 42 = .ok (.ishl, 1) := by decide +kernel
theorem dX7_readHate_43 : decode cX7_readHate 43 = .ok (.ior, 1) := by decide +kernel
theorem dX7_readHate_44 : decode cX7_readHate 44 = .ok (.iastore, 1) := by decide +kernel
theorem dX7_readHate_45 : decode cX7_readHate 45 = .ok (.aload_n 0, 1) := by decide +kernel
theorem dX7_readHate_46 : decode cX7_readHate 46 = .ok (.getfield 39, 3) := by decide +kernel
theorem dX7_readHate_49 : decode cX7_readHate 49 = .ok (.iload_n 2, 1) := by decide +kernel
theorem dX7_readHate_50 : decode cX7_readHate 50 = .ok (.dup2, 1) := by decide +kernel
theorem dX7_readHate_51 : decode cX7_readHate 51 = .ok (.iaload, 1) := by decide +kernel
theorem dX7_readHate_52 : decode cX7_readHate 52 = .ok (.iconst 1, 1) := by decide +kernel
theorem dX7_readHate_53 : decode cX7_readHate 53 = .ok (.iload_n 1, 1) := by decide +kernel
theorem dX7_readHate_54 : decode cX7_readHate 54 = .ok (.ishl, 1) := by decide +kernel
theorem dX7_readHate_55 : decode cX7_readHate 55 = .ok (.ior, 1) := by decide +kernel
theorem dX7_readHate_56 : decode cX7_readHate 56 = .ok (.iastore, 1) := by decide +kernel
theorem dX7_readHate_57 : decode cX7_readHate 57 = .ok (.aload_n 0, 1) := by decide +kernel
theorem dX7_readHate_58 : decode cX7_readHate 58 = .ok (.dup, 1) := by decide +kernel
theorem dX7_readHate_59 : decode cX7_readHate 59 = .ok (.getfield 101, 3) := by decide +kernel
theorem dX7_readHate_62 : decode cX7_readHate 62 = .ok (.iconst 1, 1) := by decide +kernel
theorem dX7_readHate_63 : decode cX7_readHate 63 = .ok (.iadd, 1) := by decide +kernel
theorem dX7_readHate_64 : decode cX7_readHate 64 = .ok (.putfield 101, 3) := by decide +kernel
theorem dX7_readHate_67 : decode cX7_readHate 67 = .ok (.return_, 1) := by decide +kernel
theorem dX7_mayBegin_0 : decode cX7_mayBegin 0 = .ok (.iload_n 1, 1) := by decide +kernel
theorem dX7_mayBegin_1 : decode cX7_mayBegin 1 = .ok (.lookupswitch 78 #[(104, 50), (107, 35), (115, 65)], 35) := by decide +kernel
theorem dX7_mayBegin_36 : decode cX7_mayBegin 36 = .ok (.aload_n 0, 1) := by decide +kernel
theorem dX7_mayBegin_37 : decode cX7_mayBegin 37 = .ok (.getfield 94, 3) := by decide +kernel
theorem dX7_mayBegin_40 : decode cX7_mayBegin 40 = .ok (.bipush 6, 2) := by decide +kernel
theorem dX7_mayBegin_42 : decode cX7_mayBegin 42 = .ok (.if_icmp .ge 7, 3) := by decide +kernel
theorem dX7_mayBegin_45 : decode cX7_mayBegin 45 = .ok (.iconst 1, 1) := by decide +kernel
theorem dX7_mayBegin_46 : decode cX7_mayBegin 46 = .ok (.goto 4, 3) := by decide +kernel
theorem dX7_mayBegin_49 : decode cX7_mayBegin 49 = .ok (.iconst 0, 1) := by decide +kernel
theorem dX7_mayBegin_50 : decode cX7_mayBegin 50 = .ok (.ireturn, 1) := by decide +kernel
theorem dX7_mayBegin_51 : decode cX7_mayBegin 51 = .ok (.aload_n 0, 1) := by decide +kernel
theorem dX7_mayBegin_52 : decode cX7_mayBegin 52 = .ok (.getfield 101, 3) := by decide +kernel
theorem dX7_mayBegin_55 : decode cX7_mayBegin 55 = .ok (.bipush 8, 2) := by decide +kernel
theorem dX7_mayBegin_57 : decode cX7_mayBegin 57 = .ok (.if_icmp .ge 7, 3) := by decide +kernel
theorem dX7_mayBegin_60 : decode cX7_mayBegin 60 = .ok (.iconst 1, 1) := by decide +kernel
theorem dX7_mayBegin_61 : decode cX7_mayBegin 61 = .ok (.goto 4, 3) := by decide +kernel
theorem dX7_mayBegin_64 : decode cX7_mayBegin 64 = .ok (.iconst 0, 1) := by decide +kernel
theorem dX7_mayBegin_65 : decode cX7_mayBegin 65 = .ok (.ireturn, 1) := by decide +kernel
theorem dX7_mayBegin_66 : decode cX7_mayBegin 66 = .ok (.aload_n 0, 1) := by decide +kernel
theorem dX7_mayBegin_67 : decode cX7_mayBegin 67 = .ok (.getfield 104, 3) := by decide +kernel
theorem dX7_mayBegin_70 : decode cX7_mayBegin 70 = .ok (.ifCond .ge 7, 3) := by decide +kernel
theorem dX7_mayBegin_73 : decode cX7_mayBegin 73 = .ok (.iconst 1, 1) := by decide +kernel
theorem dX7_mayBegin_74 : decode cX7_mayBegin 74 = .ok (.goto 4, 3) := by decide +kernel
theorem dX7_mayBegin_77 : decode cX7_mayBegin 77 = .ok (.iconst 0, 1) := by decide +kernel
theorem dX7_mayBegin_78 : decode cX7_mayBegin 78 = .ok (.ireturn, 1) := by decide +kernel
theorem dX7_mayBegin_79 : decode cX7_mayBegin 79 = .ok (.iconst 0, 1) := by decide +kernel
theorem dX7_mayBegin_80 : decode cX7_mayBegin 80 = .ok (.ireturn, 1) := by decide +kernel
set_option maxRecDepth 20000 in
theorem ggX7_readItem_X7_mayBegin : GoodIn wsX7_readItem wsX7_mayBegin := goodIn_r _ [9, 10, 11, 4, 47, 48, 49, 50, 51, 52, 53, 54, 55, 56, 57, 58, 59, 60, 61, 62, 63, 64, 65, 66, 67, 68, 69, 70, 71, 72, 73, 74] (by decide +kernel) (by decide +kernel)
set_option maxRecDepth 20000 in
theorem gX7_readItem_X7_mayBegin : GoodIn wsX7_readItem (wsV RX7 107 RX7 yX7_mayBegin wsX7_mayBegin) := goodIn_app (goodIn_of _ (by decide +kernel)) ggX7_readItem_X7_mayBegin
set_option maxRecDepth 20000 in
theorem ggX7_readItem_X7_next : GoodIn wsX7_readItem wsX7_next := goodIn_r _ [15, 16, 17, 1, 2, 18, 19, 20, 8, 21, 22, 23, 24, 25, 26, 27, 28, 29, 30, 31, 32, 47, 48, 49, 50, 51, 52, 53, 54, 55, 56, 57, 58, 59, 60, 61, 62, 63, 64, 65, 66, 67, 68, 69, 70, 71, 72, 73, 74] (by decide +kernel) (by decide +kernel)
set_option maxRecDepth 20000 in
theorem gX7_readItem_X7_next : GoodIn wsX7_readItem (wsV RX7 91 RX7 yX7_next wsX7_next) := goodIn_app (goodIn_of _ (by decide +kernel)) ggX7_readItem_X7_next
set_option maxRecDepth 20000 in
theorem ggX7_readItem_X7_readKeeper : GoodIn wsX7_readItem wsX7_readKeeper := goodIn_r _ [36, 37, 10, 38, 39, 40, 41, 8, 42, 3, 2, 1, 27, 28, 29, 12, 13, 14, 15, 16, 17, 18, 19, 20, 21, 22, 23, 24, 25, 26, 30, 31, 32, 47, 48, 49, 50, 51, 52, 53, 54, 55, 56, 57, 58, 59, 60, 61, 62, 63, 64, 65, 66, 67, 68, 69, 70, 71, 72, 73, 74] (by decide +kernel) (by decide +kernel)
set_option maxRecDepth 20000 in
theorem gX7_readItem_X7_readKeeper : GoodIn wsX7_readItem (wsV RX7 110 RX7 yX7_readKeeper wsX7_readKeeper) := goodIn_app (goodIn_of _ (by decide +kernel)) ggX7_readItem_X7_readKeeper
set_option maxRecDepth 20000 in
theorem ggX7_readItem_X7_readHate : GoodIn wsX7_readItem wsX7_readHate := goodIn_r _ [46, 10, 3, 38, 11, 39, 40, 41, 8, 42, 2, 1, 27, 28, 29, 12, 13, 14, 15, 16, 17, 18, 19, 20, 21, 22, 23, 24, 25, 26, 30, 31, 32, 47, 48, 49, 50, 51, 52, 53, 54, 55, 56, 57, 58, 59, 60, 61, 62, 63, 64, 65, 66, 67, 68, 69, 70, 71, 72, 73, 74] (by decide +kernel) (by decide +kernel)
set_option maxRecDepth 20000 in
theorem gX7_readItem_X7_readHate : GoodIn wsX7_readItem (wsV RX7 113 RX7 yX7_readHate wsX7_readHate) := goodIn_app (goodIn_of _ (by decide +kernel)) ggX7_readItem_X7_readHate
set_option maxRecDepth 20000 in
theorem ggX7_readItem_X7_takes : GoodIn wsX7_readItem wsX7_takes := goodIn_r _ [42, 3, 2, 1, 27, 28, 8, 29, 12, 13, 14, 15, 16, 17, 18, 19, 20, 21, 22, 23, 24, 25, 26, 30, 31, 32, 47, 48, 49, 50, 51, 52, 53, 54, 55, 56, 57, 58, 59, 60, 61, 62, 63, 64, 65, 66, 67, 68, 69, 70, 71, 72, 73, 74] (by decide +kernel) (by decide +kernel)
set_option maxRecDepth 20000 in
theorem gX7_readItem_X7_takes : GoodIn wsX7_readItem (wsV RX7 97 RX7 yX7_takes wsX7_takes) := goodIn_app (goodIn_of _ (by decide +kernel)) ggX7_readItem_X7_takes
theorem dX7_readItem_0 : decode cX7_readItem 0 = .ok (.aload_n 0, 1) := by decide +kernel
theorem dX7_readItem_1 : decode cX7_readItem 1 = .ok (.getfield 74, 3) := by decide +kernel
theorem dX7_readItem_4 : decode cX7_readItem 4 = .ok (.istore_n 1, 1) := by decide +kernel
theorem dX7_readItem_5 : decode cX7_readItem 5 = .ok (.aload_n 0, 1) := by decide +kernel
theorem dX7_readItem_6 : decode cX7_readItem 6 = .ok (.getfield 77, 3) := by decide +kernel
theorem dX7_readItem_9 : decode cX7_readItem 9 = .ok (.iconst 1, 1) := by decide +kernel
theorem dX7_readItem_10 : decode cX7_readItem 10 = .ok (.if_icmp .ne 11, 3) := by decide +kernel
theorem dX7_readItem_13 : decode cX7_readItem 13 = .ok (.aload_n 0, 1) := by decide +kernel
theorem dX7_readItem_14 : decode cX7_readItem 14 = .ok (.iload_n 1, 1) := by decide +kernel
theorem dX7_readItem_15 : decode cX7_readItem 15 = .ok (.invokevirtual 107, 3) := by decide +kernel
theorem dX7_readItem_18 : decode cX7_readItem 18 = .ok (.ifCond .ne 9, 3) := by decide +kernel
theorem dX7_readItem_21 : decode cX7_readItem 21 = .ok (.aload_n 0, 1) := by decide +kernel
theorem dX7_readItem_22 : decode cX7_readItem 22 = .ok (.iconst 1, 1) := by decide +kernel
theorem dX7_readItem_23 : decode cX7_readItem 23 = .ok (.putfield 87, 3) := by decide +kernel
theorem dX7_readItem_26 : decode cX7_readItem 26 = .ok (.return_, 1) := by decide +kernel
theorem dX7_readItem_27 : decode cX7_readItem 27 = .ok (.aload_n 0, 1) := by decide +kernel
theorem dX7_readItem_28 : decode cX7_readItem 28 = .ok (.invokevirtual 91, 3) := by decide +kernel
theorem dX7_readItem_31 : decode cX7_readItem 31 = .ok (.iload_n 1, 1) := by decide +kernel
theorem dX7_readItem_32 : decode cX7_readItem 32 = .ok (.bipush 107, 2) := by decide +kernel
theorem dX7_readItem_34 : decode cX7_readItem 34 = .ok (.if_icmp .ne 10, 3) := by decide +kernel
theorem dX7_readItem_37 : decode cX7_readItem 37 = .ok (.aload_n 0, 1) := by decide +kernel
theorem dX7_readItem_38 : decode cX7_readItem 38 = .ok (.invokevirtual 110, 3) := by decide +kernel
theorem dX7_readItem_41 : decode cX7_readItem 41 = .ok (.goto 27, 3) := by decide +kernel
theorem dX7_readItem_44 : decode cX7_readItem 44 = .ok (.iload_n 1, 1) := by decide +kernel
theorem dX7_readItem_45 : decode cX7_readItem 45 = .ok (.bipush 104, 2) := by decide +kernel
theorem dX7_readItem_47 : decode cX7_readItem 47 = .ok (.if_icmp .ne 10, 3) := by decide +kernel
theorem dX7_readItem_50 : decode cX7_readItem 50 = .ok (.aload_n 0, 1) := by decide +kernel
theorem dX7_readItem_51 : decode cX7_readItem 51 = .ok (.invokevirtual 113, 3) := by decide +kernel
theorem dX7_readItem_54 : decode cX7_readItem 54 = .ok (.goto 14, 3) := by decide +kernel
theorem dX7_readItem_57 : decode cX7_readItem 57 = .ok (.aload_n 0, 1) := by decide +kernel
theorem dX7_readItem_58 : decode cX7_readItem 58 = .ok (.aload_n 0, 1) := by decide +kernel
theorem dX7_readItem_59 : decode cX7_readItem 59 = .ok (.iconst 0, 1) := by decide +kernel
theorem dX7_readItem_60 : decode cX7_readItem 60 = .ok (.iconst 5, 1) := by decide +kernel
theorem dX7_readItem_61 : decode cX7_readItem 61 = .ok (.iconst (-1), 1) := by decide +kernel
theorem dX7_readItem_62 : decode cX7_readItem 62 = .ok (.invokevirtual 97, 3) := by decide +kernel
theorem dX7_readItem_65 : decode cX7_readItem 65 = .ok (.putfield 104, 3) := by decide +kernel
theorem dX7_readItem_68 : decode cX7_readItem 68 = .ok (.aload_n 0, 1) := by decide +kernel
theorem dX7_readItem_69 : decode cX7_readItem 69 = .ok (.aload_n 0, 1) := by decide +kernel
theorem dX7_readItem_70 : decode cX7_readItem 70 = .ok (.getfield 87, 3) := by decide +kernel
theorem dX7_readItem_73 : decode cX7_readItem 73 = .ok (.ifCond .ne 11, 3) := by decide +kernel
theorem dX7_readItem_76 : decode cX7_readItem 76 = .ok (.aload_n 0, 1) := by decide +kernel
theorem dX7_readItem_77 : decode cX7_readItem 77 = .ok (.getfield 77, 3) := by decide +kernel
theorem dX7_readItem_80 : decode cX7_readItem 80 = .ok (.iconst 3, 1) := by decide +kernel
theorem dX7_readItem_81 : decode cX7_readItem 81 = .ok (.if_icmp .eq 7, 3) := by decide +kernel
theorem dX7_readItem_84 : decode cX7_readItem 84 = .ok (.iconst 1, 1) := by decide +kernel
theorem dX7_readItem_85 : decode cX7_readItem 85 = .ok (.goto 4, 3) := by decide +kernel
theorem dX7_readItem_88 : decode cX7_readItem 88 = .ok (.iconst 0, 1) := by decide +kernel
theorem dX7_readItem_89 : decode cX7_readItem 89 = .ok (.putfield 87, 3) := by decide +kernel
theorem dX7_readItem_92 : decode cX7_readItem 92 = .ok (.aload_n 0, 1) := by decide +kernel
theorem dX7_readItem_93 : decode cX7_readItem 93 = .ok (.getfield 87, 3) := by decide +kernel
theorem dX7_readItem_96 : decode cX7_readItem 96 = .ok (.ifCond .ne 7, 3) := by decide +kernel
theorem dX7_readItem_99 : decode cX7_readItem 99 = .ok (.aload_n 0, 1) := by decide +kernel
theorem dX7_readItem_100 : decode cX7_readItem 100 = .ok (.invokevirtual 91, 3) := by decide +kernel
theorem dX7_readItem_103 : decode cX7_readItem 103 = .ok (.return_, 1) := by decide +kernel
set_option maxRecDepth 20000 in
theorem ggX7_coast_X7_next : GoodIn wsX7_coast wsX7_next := goodIn_r _ [13, 1, 8, 14, 7, 15, 16, 17, 12, 18, 19, 20, 21, 22, 23, 24, 25, 26, 27, 28, 29, 64, 65, 66, 67, 68, 69, 70, 71, 72, 73, 74, 75, 76, 77, 78, 79, 80, 81, 82, 83, 84, 85, 86, 87, 88, 89, 90, 91] (by decide +kernel) (by decide +kernel)
set_option maxRecDepth 20000 in
theorem gX7_coast_X7_next : GoodIn wsX7_coast (wsV RX7 91 RX7 yX7_next wsX7_next) := goodIn_app (goodIn_of _ (by decide +kernel)) ggX7_coast_X7_next
set_option maxRecDepth 20000 in
theorem ggX7_coast_X7_readItem : GoodIn wsX7_coast wsX7_readItem := goodIn_r _ [33, 14, 7, 2, 6, 34, 35, 36, 12, 37, 4, 5, 9, 10, 11, 13, 1, 8, 15, 16, 17, 18, 19, 20, 21, 22, 23, 24, 25, 26, 27, 28, 29, 38, 39, 40, 41, 42, 43, 44, 45, 46, 47, 48, 49, 50, 51, 64, 65, 66, 67, 68, 69, 70, 71, 72, 73, 74, 75, 76, 77, 78, 79, 80, 81, 82, 83, 84, 85, 86, 87, 88, 89, 90, 91] (by decide +kernel) (by decide +kernel)
set_option maxRecDepth 20000 in
theorem gX7_coast_X7_readItem : GoodIn wsX7_coast (wsV RX7 119 RX7 yX7_readItem wsX7_readItem) := goodIn_app (goodIn_of _ (by decide +kernel)) ggX7_coast_X7_readItem
set_option maxRecDepth 20000 in
theorem ggX7_coast_X7_settles : GoodIn wsX7_coast wsX7_settles := goodIn_r _ [55, 4, 56, 5, 57, 6, 58, 59, 42, 60, 43, 61, 62, 63, 19, 64, 65, 66, 67, 68, 69, 70, 71, 72, 73, 74, 75, 76, 77, 78, 79, 80, 81, 82, 83, 84, 85, 86, 87, 88, 89, 90, 91] (by decide +kernel) (by decide +kernel)
set_option maxRecDepth 20000 in
theorem gX7_coast_X7_settles : GoodIn wsX7_coast (wsV RX7 122 RX7 yX7_settles wsX7_settles) := goodIn_app (goodIn_of _ (by decide +kernel)) ggX7_coast_X7_settles
theorem dX7_coast_0 : decode cX7_coast 0 = .ok (.aload_n 0, 1) := by decide +kernel
theorem dX7_coast_1 : decode cX7_coast 1 = .ok (.iconst 0, 1) := by decide +kernel
theorem dX7_coast_2 : decode cX7_coast 2 = .ok (.putfield 64, 3) := by decide +kernel
theorem dX7_coast_5 : decode cX7_coast 5 = .ok (.aload_n 0, 1) := by decide +kernel
theorem dX7_coast_6 : decode cX7_coast 6 = .ok (.iconst 0, 1) := by decide +kernel
theorem dX7_coast_7 : decode cX7_coast 7 = .ok (.putfield 87, 3) := by decide +kernel
theorem dX7_coast_10 : decode cX7_coast 10 = .ok (.aload_n 0, 1) := by decide +kernel
theorem dX7_coast_11 : decode cX7_coast 11 = .ok (.iconst 0, 1) := by decide +kernel
theorem dX7_coast_12 : decode cX7_coast 12 = .ok (.putfield 116, 3) := by decide +kernel
theorem dX7_coast_15 : decode cX7_coast 15 = .ok (.aload_n 0, 1) := by decide +kernel
theorem dX7_coast_16 : decode cX7_coast 16 = .ok (.iconst 0, 1) := by decide +kernel
theorem dX7_coast_17 : decode cX7_coast 17 = .ok (.putfield 94, 3) := by decide +kernel
theorem dX7_coast_20 : decode cX7_coast 20 = .ok (.aload_n 0, 1) := by decide +kernel
theorem dX7_coast_21 : decode cX7_coast 21 = .ok (.iconst 0, 1) := by decide +kernel
theorem dX7_coast_22 : decode cX7_coast 22 = .ok (.putfield 101, 3) := by decide +kernel
theorem dX7_coast_25 : decode cX7_coast 25 = .ok (.aload_n 0, 1) := by decide +kernel
theorem dX7_coast_26 : decode cX7_coast 26 = .ok (.iconst (-1), 1) := by decide +kernel
theorem dX7_coast_27 : decode cX7_coast 27 = .ok (.putfield 104, 3) := by decide +kernel
theorem dX7_coast_30 : decode cX7_coast 30 = .ok (.aload_n 0, 1) := by decide +kernel
theorem dX7_coast_31 : decode cX7_coast 31 = .ok (.invokevirtual 91, 3) := by decide +kernel
theorem dX7_coast_34 : decode cX7_coast 34 = .ok (.aload_n 0, 1) := by decide +kernel
theorem dX7_coast_35 : decode cX7_coast 35 = .ok (.getfield 77, 3) := by decide +kernel
theorem dX7_coast_38 : decode cX7_coast 38 = .ok (.ifCond .eq 27, 3) := by decide +kernel
theorem dX7_coast_41 : decode cX7_coast 41 = .ok (.aload_n 0, 1) := by decide +kernel
theorem dX7_coast_42 : decode cX7_coast 42 = .ok (.getfield 87, 3) := by decide +kernel
theorem dX7_coast_45 : decode cX7_coast 45 = .ok (.ifCond .ne 20, 3) := by decide +kernel
theorem dX7_coast_48 : decode cX7_coast 48 = .ok (.aload_n 0, 1) := by decide +kernel
theorem dX7_coast_49 : decode cX7_coast 49 = .ok (.invokevirtual 119, 3) := by decide +kernel
theorem dX7_coast_52 : decode cX7_coast 52 = .ok (.aload_n 0, 1) := by decide +kernel
theorem dX7_coast_53 : decode cX7_coast 53 = .ok (.dup, 1) := by decide +kernel
theorem dX7_coast_54 : decode cX7_coast 54 = .ok (.getfield 116, 3) := by decide +kernel
theorem dX7_coast_57 : decode cX7_coast 57 = .ok (.iconst 1, 1) := by decide +kernel
theorem dX7_coast_58 : decode cX7_coast 58 = .ok (.iadd, 1) := by decide +kernel
theorem dX7_coast_59 : decode cX7_coast 59 = .ok (.putfield 116, 3) := by decide +kernel
theorem dX7_coast_62 : decode cX7_coast 62 = .ok (.goto (-28), 3) := by decide +kernel
theorem dX7_coast_65 : decode cX7_coast 65 = .ok (.aload_n 0, 1) := by decide +kernel
theorem dX7_coast_66 : decode cX7_coast 66 = .ok (.getfield 87, 3) := by decide +kernel
theorem dX7_coast_69 : decode cX7_coast 69 = .ok (.ifCond .eq 11, 3) := by decide +kernel
theorem dX7_coast_72 : decode cX7_coast 72 = .ok (.bipush (-10), 2) := by decide +kernel
theorem dX7_coast_74 : decode cX7_coast 74 = .ok (.aload_n 0, 1) := by decide +kernel
theorem dX7_coast_75 : decode cX7_coast 75 = .ok (.getfield 71, 3) := by decide +kernel
theorem dX7_coast_78 : decode cX7_coast 78 = .ok (.isub, 1) := by decide +kernel
theorem dX7_coast_79 : decode cX7_coast 79 = .ok (.ireturn, 1) := by decide +kernel
theorem dX7_coast_80 : decode cX7_coast 80 = .ok (.aload_n 0, 1) := by decide +kernel
theorem dX7_coast_81 : decode cX7_coast 81 = .ok (.invokevirtual 122, 3) := by decide +kernel
theorem dX7_coast_84 : decode cX7_coast 84 = .ok (.aload_n 0, 1) := by decide +kernel
theorem dX7_coast_85 : decode cX7_coast 85 = .ok (.getfield 116, 3) := by decide +kernel
theorem dX7_coast_88 : decode cX7_coast 88 = .ok (.ireturn, 1) := by decide +kernel
theorem dX7_settles_0 : decode cX7_settles 0 = .ok (.aload_n 0, 1) := by decide +kernel
theorem dX7_settles_1 : decode cX7_settles 1 = .ok (.aload_n 0, 1) := by decide +kernel
theorem dX7_settles_2 : decode cX7_settles 2 = .ok (.getfield 94, 3) := by decide +kernel
theorem dX7_settles_5 : decode cX7_settles 5 = .ok (.putfield 54, 3) := by decide +kernel
theorem dX7_settles_8 : decode cX7_settles 8 = .ok (.aload_n 0, 1) := by decide +kernel
theorem dX7_settles_9 : decode cX7_settles 9 = .ok (.aload_n 0, 1) := by decide +kernel
theorem dX7_settles_10 : decode cX7_settles 10 = .ok (.getfield 101, 3) := by decide +kernel
theorem dX7_settles_13 : decode cX7_settles 13 = .ok (.putfield 125, 3) := by decide +kernel
theorem dX7_settles_16 : decode cX7_settles 16 = .ok (.aload_n 0, 1) := by decide +kernel
theorem dX7_settles_17 : decode cX7_settles 17 = .ok (.aload_n 0, 1) := by decide +kernel
theorem dX7_settles_18 : decode cX7_settles 18 = .ok (.getfield 104, 3) := by decide +kernel
theorem dX7_settles_21 : decode cX7_settles 21 = .ok (.ifCond .ge 7, 3) := by decide +kernel
theorem dX7_settles_24 : decode cX7_settles 24 = .ok (.iconst 1, 1) := by decide +kernel
theorem dX7_settles_25 : decode cX7_settles 25 = .ok (.goto 7, 3) := by decide +kernel
theorem dX7_settles_28 : decode cX7_settles 28 = .ok (.aload_n 0, 1) := by decide +kernel
theorem dX7_settles_29 : decode cX7_settles 29 = .ok (.getfield 104, 3) := by decide +kernel
theorem dX7_settles_32 : decode cX7_settles 32 = .ok (.putfield 16, 3) := by decide +kernel
theorem dX7_settles_35 : decode cX7_settles 35 = .ok (.iconst 0, 1) := by decide +kernel
theorem dX7_settles_36 : decode cX7_settles 36 = .ok (.istore_n 1, 1) := by decide +kernel
theorem dX7_settles_37 : decode cX7_settles 37 = .ok (.iload_n 1, 1) := by decide +kernel
theorem dX7_settles_38 : decode cX7_settles 38 = .ok (.bipush 6, 2) := by decide +kernel
theorem dX7_settles_40 : decode cX7_settles 40 = .ok (.if_icmp .ge 33, 3) := by decide +kernel
theorem dX7_settles_43 : decode cX7_settles 43 = .ok (.aload_n 0, 1) := by decide +kernel
theorem dX7_settles_44 : decode cX7_settles 44 = .ok (.getfield 7, 3) := by decide +kernel
theorem dX7_settles_47 : decode cX7_settles 47 = .ok (.iload_n 1, 1) := by decide +kernel
theorem dX7_settles_48 : decode cX7_settles 48 = .ok (.aload_n 0, 1) := by decide +kernel
theorem dX7_settles_49 : decode cX7_settles 49 = .ok (.getfield 36, 3) := by decide +kernel
theorem dX7_settles_52 : decode cX7_settles 52 = .ok (.iload_n 1, 1) := by decide +kernel
theorem dX7_settles_53 : decode cX7_settles 53 = .ok (.iaload, 1) := by decide +kernel
theorem dX7_settles_54 : decode cX7_settles 54 = .ok (.iastore, 1) := by decide +kernel
theorem dX7_settles_55 : decode cX7_settles 55 = .ok (.aload_n 0, 1) := by decide +kernel
theorem dX7_settles_56 : decode cX7_settles 56 = .ok (.getfield 13, 3) := by decide +kernel
theorem dX7_settles_59 : decode cX7_settles 59 = .ok (.iload_n 1, 1) := by decide +kernel
theorem dX7_settles_60 : decode cX7_settles 60 = .ok (.aload_n 0, 1) := by decide +kernel
theorem dX7_settles_61 : decode cX7_settles 61 = .ok (.getfield 39, 3) := by decide +kernel
theorem dX7_settles_64 : decode cX7_settles 64 = .ok (.iload_n 1, 1) := by decide +kernel
theorem dX7_settles_65 : decode cX7_settles 65 = .ok (.iaload, 1) := by decide +kernel
theorem dX7_settles_66 : decode cX7_settles 66 = .ok (.iastore, 1) := by decide +kernel
theorem dX7_settles_67 : decode cX7_settles 67 = .ok (.iinc 1 1, 3) := by decide +kernel
theorem dX7_settles_70 : decode cX7_settles 70 = .ok (.goto (-33), 3) := by decide +kernel
theorem dX7_settles_73 : decode cX7_settles 73 = .ok (.iconst 0, 1) := by decide +kernel
theorem dX7_settles_74 : decode cX7_settles 74 = .ok (.istore_n 1, 1) := by decide +kernel
theorem dX7_settles_75 : decode cX7_settles 75 = .ok (.iload_n 1, 1) := by decide +kernel
theorem dX7_settles_76 : decode cX7_settles 76 = .ok (.bipush 100, 2) := by decide +kernel
theorem dX7_settles_78 : decode cX7_settles 78 = .ok (.if_icmp .ge 26, 3) := by decide +kernel
theorem dX7_settles_81 : decode cX7_settles 81 = .ok (.aload_n 0, 1) := by decide +kernel
theorem dX7_settles_82 : decode cX7_settles 82 = .ok (.getfield 20, 3) := by decide +kernel
theorem dX7_settles_85 : decode cX7_settles 85 = .ok (.iload_n 1, 1) := by decide +kernel
theorem dX7_settles_86 : decode cX7_settles 86 = .ok (.iload_n 1, 1) := by decide +kernel
theorem dX7_settles_87 : decode cX7_settles 87 = .ok (.bipush 6, 2) := by decide +kernel
theorem dX7_settles_89 : decode cX7_settles 89 = .ok (.if_icmp .ge 7, 3) := by decide +kernel
theorem dX7_settles_92 : decode cX7_settles 92 = .ok (.iload_n 1, 1) := by decide +kernel
theorem dX7_settles_93 : decode cX7_settles 93 = .ok (.goto 4, 3) := by decide +kernel
theorem dX7_settles_96 : decode cX7_settles 96 = .ok (.iconst 0, 1) := by decide +kernel
theorem dX7_settles_97 : decode cX7_settles 97 = .ok (.iastore, 1) := by decide +kernel
theorem dX7_settles_98 : decode cX7_settles 98 = .ok (.iinc 1 1, 3) := by decide +kernel
theorem dX7_settles_101 : decode cX7_settles 101 = .ok (.goto (-26), 3) := by decide +kernel
theorem dX7_settles_104 : decode cX7_settles 104 = .ok (.aload_n 0, 1) := by decide +kernel
theorem dX7_settles_105 : decode cX7_settles 105 = .ok (.iconst 0, 1) := by decide +kernel
theorem dX7_settles_106 : decode cX7_settles 106 = .ok (.putfield 128, 3) := by decide +kernel
theorem dX7_settles_109 : decode cX7_settles 109 = .ok (.aload_n 0, 1) := by decide +kernel
theorem dX7_settles_110 : decode cX7_settles 110 = .ok (.getfield 26, 3) := by decide +kernel
theorem dX7_settles_113 : decode cX7_settles 113 = .ok (.iconst 0, 1) := by decide +kernel
theorem dX7_settles_114 : decode cX7_settles 114 = .ok (.iconst 0, 1) := by decide +kernel
theorem dX7_settles_115 : decode cX7_settles 115 = .ok (.bastore, 1) := by decide +kernel
theorem dX7_settles_116 : decode cX7_settles 116 = .ok (.aload_n 0, 1) := by decide +kernel
theorem dX7_settles_117 : decode cX7_settles 117 = .ok (.getfield 26, 3) := by decide +kernel
theorem dX7_settles_120 : decode cX7_settles 120 = .ok (.iconst 1, 1) := by decide +kernel
theorem dX7_settles_121 : decode cX7_settles 121 = .ok (.iconst 0, 1) := by decide +kernel
theorem dX7_settles_122 : decode cX7_settles 122 = .ok (.bastore, 1) := by decide +kernel
theorem dX7_settles_123 : decode cX7_settles 123 = .ok (.aload_n 0, 1) := by decide +kernel
theorem dX7_settles_124 : decode cX7_settles 124 = .ok (.iconst 0, 1) := by decide +kernel
theorem dX7_settles_125 : decode cX7_settles 125 = .ok (.putfield 61, 3) := by decide +kernel
theorem dX7_settles_128 : decode cX7_settles 128 = .ok (.return_, 1) := by decide +kernel
theorem dX7_asItIs_0 : decode cX7_asItIs 0 = .ok (.iconst 0, 1) := by decide +kernel
theorem dX7_asItIs_1 : decode cX7_asItIs 1 = .ok (.istore_n 1, 1) := by decide +kernel
theorem dX7_asItIs_2 : decode cX7_asItIs 2 = .ok (.iload_n 1, 1) := by decide +kernel
theorem dX7_asItIs_3 : decode cX7_asItIs 3 = .ok (.bipush 6, 2) := by decide +kernel
theorem dX7_asItIs_5 : decode cX7_asItIs 5 = .ok (.if_icmp .ge 21, 3) := by decide +kernel
theorem dX7_asItIs_8 : decode cX7_asItIs 8 = .ok (.aload_n 0, 1) := by decide +kernel
theorem dX7_asItIs_9 : decode cX7_asItIs 9 = .ok (.getfield 42, 3) := by decide +kernel
theorem dX7_asItIs_12 : decode cX7_asItIs 12 = .ok (.iload_n 1, 1) := by decide +kernel
theorem dX7_asItIs_13 : decode cX7_asItIs 13 = .ok (.aload_n 0, 1) := by decide +kernel
theorem dX7_asItIs_14 : decode cX7_asItIs 14 = .ok (.getfield 20, 3) := by decide +kernel
theorem dX7_asItIs_17 : decode cX7_asItIs 17 = .ok (.iload_n 1, 1) := by decide +kernel
theorem dX7_asItIs_18 : decode cX7_asItIs 18 = .ok (.iaload, 1) := by decide +kernel
theorem dX7_asItIs_19 : decode cX7_asItIs 19 = .ok (.iastore, 1) := by decide +kernel
theorem dX7_asItIs_20 : decode cX7_asItIs 20 = .ok (.iinc 1 1, 3) := by decide +kernel
theorem dX7_asItIs_23 : decode cX7_asItIs 23 = .ok (.goto (-21), 3) := by decide +kernel
theorem dX7_asItIs_26 : decode cX7_asItIs 26 = .ok (.return_, 1) := by decide +kernel
theorem dX7_rockOf_0 : decode cX7_rockOf 0 = .ok (.iconst 0, 1) := by decide +kernel
theorem dX7_rockOf_1 : decode cX7_rockOf 1 = .ok (.istore_n 3, 1) := by decide +kernel
theorem dX7_rockOf_2 : decode cX7_rockOf 2 = .ok (.aload_n 1, 1) := by decide +kernel
theorem dX7_rockOf_3 : decode cX7_rockOf 3 = .ok (.iload_n 3, 1) := by decide +kernel
theorem dX7_rockOf_4 : decode cX7_rockOf 4 = .ok (.iaload, 1) := by decide +kernel
theorem dX7_rockOf_5 : decode cX7_rockOf 5 = .ok (.iload_n 2, 1) := by decide +kernel
theorem dX7_rockOf_6 : decode cX7_rockOf 6 = .ok (.if_icmp .eq 9, 3) := by decide +kernel
theorem dX7_rockOf_9 : decode cX7_rockOf 9 = .ok (.iinc 3 1, 3) := by decide +kernel
theorem dX7_rockOf_12 : decode cX7_rockOf 12 = .ok (.goto (-10), 3) := by decide +kernel
theorem dX7_rockOf_15 : decode cX7_rockOf 15 = .ok (.iload_n 3, 1) := by decide +kernel
theorem dX7_rockOf_16 : decode cX7_rockOf 16 = .ok (.ireturn, 1) := by decide +kernel
set_option maxRecDepth 20000 in
theorem ggX7_driftOf_X7_rockOf : GoodIn wsX7_driftOf wsX7_rockOf := goodIn_r _ [6] (by decide +kernel) (by decide +kernel)
set_option maxRecDepth 20000 in
theorem gX7_driftOf_X7_rockOf : GoodIn wsX7_driftOf (wsV RX7 131 RX7 yX7_rockOf wsX7_rockOf) := goodIn_app (goodIn_of _ (by decide +kernel)) ggX7_driftOf_X7_rockOf
theorem dX7_driftOf_0 : decode cX7_driftOf 0 = .ok (.aload_n 0, 1) := by decide +kernel
theorem dX7_driftOf_1 : decode cX7_driftOf 1 = .ok (.aload_n 0, 1) := by decide +kernel
theorem dX7_driftOf_2 : decode cX7_driftOf 2 = .ok (.getfield 20, 3) := by decide +kernel
theorem dX7_driftOf_5 : decode cX7_driftOf 5 = .ok (.iload_n 1, 1) := by decide +kernel
theorem dX7_driftOf_6 : decode cX7_driftOf 6 = .ok (.invokevirtual 131, 3) := by decide +kernel
theorem dX7_driftOf_9 : decode cX7_driftOf 9 = .ok (.iload_n 1, 1) := by decide +kernel
theorem dX7_driftOf_10 : decode cX7_driftOf 10 = .ok (.isub, 1) := by decide +kernel
theorem dX7_driftOf_11 : decode cX7_driftOf 11 = .ok (.istore_n 2, 1) := by decide +kernel
theorem dX7_driftOf_12 : decode cX7_driftOf 12 = .ok (.iload_n 2, 1) := by decide +kernel
theorem dX7_driftOf_13 : decode cX7_driftOf 13 = .ok (.ifCond .ge 8, 3) := by decide +kernel
theorem dX7_driftOf_16 : decode cX7_driftOf 16 = .ok (.iload_n 2, 1) := by decide +kernel
theorem dX7_driftOf_17 : decode cX7_driftOf 17 = .ok (.ineg, 1) := by decide +kernel
theorem dX7_driftOf_18 : decode cX7_driftOf 18 = .ok (.goto 4, 3) := by decide +kernel
theorem dX7_driftOf_21 : decode cX7_driftOf 21 = .ok (.iload_n 2, 1) := by decide +kernel
theorem dX7_driftOf_22 : decode cX7_driftOf 22 = .ok (.ireturn, 1) := by decide +kernel
theorem dX7_likesOf_0 : decode cX7_likesOf 0 = .ok (.iconst 0, 1) := by decide +kernel
theorem dX7_likesOf_1 : decode cX7_likesOf 1 = .ok (.istore_n 2, 1) := by decide +kernel
theorem dX7_likesOf_2 : decode cX7_likesOf 2 = .ok (.iconst 0, 1) := by decide +kernel
theorem dX7_likesOf_3 : decode cX7_likesOf 3 = .ok (.istore_n 3, 1) := by decide +kernel
theorem dX7_likesOf_4 : decode cX7_likesOf 4 = .ok (.iload_n 3, 1) := by decide +kernel
theorem dX7_likesOf_5 : decode cX7_likesOf 5 = .ok (.aload_n 0, 1) := by decide +kernel
theorem dX7_likesOf_6 : decode cX7_likesOf 6 = .ok (.getfield 54, 3) := by decide +kernel
theorem dX7_likesOf_9 : decode cX7_likesOf 9 = .ok (.if_icmp .ge 68, 3) := by decide +kernel
theorem dX7_likesOf_12 : decode cX7_likesOf 12 = .ok (.iload_n 3, 1) := by decide +kernel
theorem dX7_likesOf_13 : decode cX7_likesOf 13 = .ok (.iconst 1, 1) := by decide +kernel
theorem dX7_likesOf_14 : decode cX7_likesOf 14 = .ok (.iadd, 1) := by decide +kernel
theorem dX7_likesOf_15 : decode cX7_likesOf 15 = .ok (.istore 4, 2) := by decide +kernel
theorem dX7_likesOf_17 : decode cX7_likesOf 17 = .ok (.iload 4, 2) := by decide +kernel
theorem dX7_likesOf_19 : decode cX7_likesOf 19 = .ok (.aload_n 0, 1) := by decide +kernel
theorem dX7_likesOf_20 : decode cX7_likesOf 20 = .ok (.getfield 54, 3) := by decide +kernel
theorem dX7_likesOf_23 : decode cX7_likesOf 23 = .ok (.if_icmp .ge 48, 3) := by decide +kernel
theorem dX7_likesOf_26 : decode cX7_likesOf 26 = .ok (.iload 4, 2) := by decide +kernel
theorem dX7_likesOf_28 : decode cX7_likesOf 28 = .ok (.iload_n 3, 1) := by decide +kernel
theorem dX7_likesOf_29 : decode cX7_likesOf 29 = .ok (.isub, 1) := by decide +kernel
theorem dX7_likesOf_30 : decode cX7_likesOf 30 = .ok (.aload_n 0, 1) := by decide +kernel
theorem dX7_likesOf_31 : decode cX7_likesOf 31 = .ok (.getfield 16, 3) := by decide +kernel
theorem dX7_likesOf_34 : decode cX7_likesOf 34 = .ok (.if_icmp .gt 37, 3) := by decide +kernel
theorem dX7_likesOf_37 : decode cX7_likesOf 37 = .ok (.iload_n 2, 1) := by decide +kernel
theorem dX7_likesOf_38 : decode cX7_likesOf 38 = .ok (.aload_n 0, 1) := by decide +kernel
theorem dX7_likesOf_39 : decode cX7_likesOf 39 = .ok (.getfield 7, 3) := by decide +kernel
theorem dX7_likesOf_42 : decode cX7_likesOf 42 = .ok (.aload_n 1, 1) := by decide +kernel
theorem dX7_likesOf_43 : decode cX7_likesOf 43 = .ok (.iload_n 3, 1) := by decide +kernel
theorem dX7_likesOf_44 : decode cX7_likesOf 44 = .ok (.iaload, 1) := by decide +kernel
theorem dX7_likesOf_45 : decode cX7_likesOf 45 = .ok (.iaload, 1) := by decide +kernel
theorem dX7_likesOf_46 : decode cX7_likesOf 46 = .ok (.aload_n 0, 1) := by decide +kernel
theorem dX7_likesOf_47 : decode cX7_likesOf 47 = .ok (.getfield 7, 3) := by decide +kernel
theorem dX7_likesOf_50 : decode cX7_likesOf 50 = .ok (.aload_n 1, 1) := by decide +kernel
theorem dX7_likesOf_51 : decode cX7_likesOf 51 = .ok (.iload 4, 2) := by decide +kernel
theorem dX7_likesOf_53 : decode cX7_likesOf 53 = .ok (.iaload, 1) := by decide +kernel
theorem dX7_likesOf_54 : decode cX7_likesOf 54 = .ok (.iaload, 1) := by decide +kernel
theorem dX7_likesOf_55 : decode cX7_likesOf 55 = .ok (.if_icmp .ne 7, 3) := by decide +kernel
theorem dX7_likesOf_58 : decode cX7_likesOf 58 = .ok (.iconst 1, 1) := by decide +kernel
theorem dX7_likesOf_59 : decode cX7_likesOf 59 = .ok (.goto 4, 3) := by decide +kernel
theorem dX7_likesOf_62 : decode cX7_likesOf 62 = .ok (.iconst 0, 1) := by decide +kernel
theorem dX7_likesOf_63 : decode cX7_likesOf 63 = .ok (.iadd, 1) := by decide +kernel
theorem dX7_likesOf_64 : decode cX7_likesOf 64 = .ok (.istore_n 2, 1) := by decide +kernel
theorem dX7_likesOf_65 : decode cX7_likesOf 65 = .ok (.iinc 4 1, 3) := by decide +kernel
theorem dX7_likesOf_68 : decode cX7_likesOf 68 = .ok (.goto (-51), 3) := by decide +kernel
theorem dX7_likesOf_71 : decode cX7_likesOf 71 = .ok (.iinc 3 1, 3) := by decide +kernel
theorem dX7_likesOf_74 : decode cX7_likesOf 74 = .ok (.goto (-70), 3) := by decide +kernel
theorem dX7_likesOf_77 : decode cX7_likesOf 77 = .ok (.iload_n 2, 1) := by decide +kernel
theorem dX7_likesOf_78 : decode cX7_likesOf 78 = .ok (.ireturn, 1) := by decide +kernel
set_option maxRecDepth 20000 in
theorem ggX7_isChange_X7_in : GoodIn wsX7_isChange wsX7_in := goodIn_r _ [5] (by decide +kernel) (by decide +kernel)
set_option maxRecDepth 20000 in
theorem gX7_isChange_X7_in : GoodIn wsX7_isChange (va_wsS RX7 57 yX7_in wsX7_in) := goodIn_app (goodIn_of _ (by decide +kernel)) ggX7_isChange_X7_in
theorem dX7_isChange_0 : decode cX7_isChange 0 = .ok (.aload_n 0, 1) := by decide +kernel
theorem dX7_isChange_1 : decode cX7_isChange 1 = .ok (.getfield 54, 3) := by decide +kernel
theorem dX7_isChange_4 : decode cX7_isChange 4 = .ok (.ifCond .ne 15, 3) := by decide +kernel
theorem dX7_isChange_7 : decode cX7_isChange 7 = .ok (.iload_n 1, 1) := by decide +kernel
theorem dX7_isChange_8 : decode cX7_isChange 8 = .ok (.ifCond .ne 7, 3) := by decide +kernel
theorem dX7_isChange_11 : decode cX7_isChange 11 = .ok (.iconst 1, 1) := by decide +kernel
theorem dX7_isChange_12 : decode cX7_isChange 12 = .ok (.goto 22, 3) := by decide +kernel
theorem dX7_isChange_15 : decode cX7_isChange 15 = .ok (.iconst 0, 1) := by decide +kernel
theorem dX7_isChange_16 : decode cX7_isChange 16 = .ok (.goto 18, 3) := by decide +kernel
theorem dX7_isChange_19 : decode cX7_isChange 19 = .ok (.iload_n 1, 1) := by decide +kernel
theorem dX7_isChange_20 : decode cX7_isChange 20 = .ok (.iconst 0, 1) := by decide +kernel
theorem dX7_isChange_21 : decode cX7_isChange 21 = .ok (.iconst 1, 1) := by decide +kernel
theorem dX7_isChange_22 : decode cX7_isChange 22 = .ok (.aload_n 0, 1) := by decide +kernel
theorem dX7_isChange_23 : decode cX7_isChange 23 = .ok (.getfield 54, 3) := by decide +kernel
theorem dX7_isChange_26 : decode cX7_isChange 26 = .ok (.iconst 1, 1) := by decide +kernel
theorem dX7_isChange_27 : decode cX7_isChange 27 = .ok (.isub, 1) := by decide +kernel
theorem dX7_isChange_28 : decode cX7_isChange 28 = .ok (.ishl, 1) := by decide +kernel
theorem dX7_isChange_29 : decode cX7_isChange 29 = .ok (.iconst 1, 1) := by decide +kernel
theorem dX7_isChange_30 : decode cX7_isChange 30 = .ok (.isub, 1) := by decide +kernel
theorem dX7_isChange_31 : decode cX7_isChange 31 = .ok (.invokestatic 57, 3) := by decide +kernel
theorem dX7_isChange_34 : decode cX7_isChange 34 = .ok (.ireturn, 1) := by decide +kernel
set_option maxRecDepth 20000 in
theorem ggX7_mayChange_X7_has : GoodIn wsX7_mayChange wsX7_has := goodIn_r _ [6] (by decide +kernel) (by decide +kernel)
set_option maxRecDepth 20000 in
theorem gX7_mayChange_X7_has : GoodIn wsX7_mayChange (va_wsS RX7 135 yX7_has wsX7_has) := goodIn_app (goodIn_of _ (by decide +kernel)) ggX7_mayChange_X7_has
theorem dX7_mayChange_0 : decode cX7_mayChange 0 = .ok (.iload_n 2, 1) := by decide +kernel
theorem dX7_mayChange_1 : decode cX7_mayChange 1 = .ok (.iload_n 2, 1) := by decide +kernel
theorem dX7_mayChange_2 : decode cX7_mayChange 2 = .ok (.iconst 1, 1) := by decide +kernel
theorem dX7_mayChange_3 : decode cX7_mayChange 3 = .ok (.ishr, 1) := by decide +kernel
theorem dX7_mayChange_4 : decode cX7_mayChange 4 = .ok (.iand, 1) := by decide +kernel
theorem dX7_mayChange_5 : decode cX7_mayChange 5 = .ok (.ifCond .ne 7, 3) := by decide +kernel
theorem dX7_mayChange_8 : decode cX7_mayChange 8 = .ok (.iconst 1, 1) := by decide +kernel
theorem dX7_mayChange_9 : decode cX7_mayChange 9 = .ok (.goto 4, 3) := by decide +kernel
theorem dX7_mayChange_12 : decode cX7_mayChange 12 = .ok (.iconst 0, 1) := by decide +kernel
theorem dX7_mayChange_13 : decode cX7_mayChange 13 = .ok (.istore_n 3, 1) := by decide +kernel
theorem dX7_mayChange_14 : decode cX7_mayChange 14 = .ok (.iconst 0, 1) := by decide +kernel
theorem dX7_mayChange_15 : decode cX7_mayChange 15 = .ok (.istore 4, 2) := by decide +kernel
theorem dX7_mayChange_17 : decode cX7_mayChange 17 = .ok (.iload 4, 2) := by decide +kernel
theorem dX7_mayChange_19 : decode cX7_mayChange 19 = .ok (.iconst 1, 1) := by decide +kernel
theorem dX7_mayChange_20 : decode cX7_mayChange 20 = .ok (.iadd, 1) := by decide +kernel
theorem dX7_mayChange_21 : decode cX7_mayChange 21 = .ok (.aload_n 0, 1) := by decide +kernel
theorem dX7_mayChange_22 : decode cX7_mayChange 22 = .ok (.getfield 54, 3) := by decide +kernel
theorem dX7_mayChange_25 : decode cX7_mayChange 25 = .ok (.if_icmp .ge 49, 3) := by decide +kernel
theorem dX7_mayChange_28 : decode cX7_mayChange 28 = .ok (.iload_n 3, 1) := by decide +kernel
theorem dX7_mayChange_29 : decode cX7_mayChange 29 = .ok (.ifCond .eq 37, 3) := by decide +kernel
theorem dX7_mayChange_32 : decode cX7_mayChange 32 = .ok (.iload_n 2, 1) := by decide +kernel
theorem dX7_mayChange_33 : decode cX7_mayChange 33 = .ok (.iload 4, 2) := by decide +kernel
theorem dX7_mayChange_35 : decode cX7_mayChange 35 = .ok (.invokestatic 135, 3) := by decide +kernel
theorem dX7_mayChange_38 : decode cX7_mayChange 38 = .ok (.ifCond .eq 24, 3) := by decide +kernel
theorem dX7_mayChange_41 : decode cX7_mayChange 41 = .ok (.aload_n 0, 1) := by decide +kernel
theorem dX7_mayChange_42 : decode cX7_mayChange 42 = .ok (.getfield 13, 3) := by decide +kernel
theorem dX7_mayChange_45 : decode cX7_mayChange 45 = .ok (.aload_n 1, 1) := by decide +kernel
theorem dX7_mayChange_46 : decode cX7_mayChange 46 = .ok (.iload 4, 2) := by decide +kernel
theorem dX7_mayChange_48 : decode cX7_mayChange 48 = .ok (.iaload, 1) := by decide +kernel
theorem dX7_mayChange_49 : decode cX7_mayChange 49 = .ok (.iaload, 1) := by decide +kernel
theorem dX7_mayChange_50 : decode cX7_mayChange 50 = .ok (.aload_n 1, 1) := by decide +kernel
theorem dX7_mayChange_51 : decode cX7_mayChange 51 = .ok (.iload 4, 2) := by decide +kernel
theorem dX7_mayChange_53 : decode cX7_mayChange 53 = .ok (.iconst 1, 1) := by decide +kernel
theorem dX7_mayChange_54 : decode cX7_mayChange 54 = .ok (.iadd, 1) := by decide +kernel
theorem dX7_mayChange_55 : decode cX7_mayChange 55 = .ok (.iaload, 1) := by decide +kernel
theorem dX7_mayChange_56 : decode cX7_mayChange 56 = .ok (.invokestatic 135, 3) := by decide +kernel
theorem dX7_mayChange_59 : decode cX7_mayChange 59 = .ok (.ifCond .ne 7, 3) := by decide +kernel
theorem dX7_mayChange_62 : decode cX7_mayChange 62 = .ok (.iconst 1, 1) := by decide +kernel
theorem dX7_mayChange_63 : decode cX7_mayChange 63 = .ok (.goto 4, 3) := by decide +kernel
theorem dX7_mayChange_66 : decode cX7_mayChange 66 = .ok (.iconst 0, 1) := by decide +kernel
theorem dX7_mayChange_67 : decode cX7_mayChange 67 = .ok (.istore_n 3, 1) := by decide +kernel
theorem dX7_mayChange_68 : decode cX7_mayChange 68 = .ok (.iinc 4 1, 3) := by decide +kernel
theorem dX7_mayChange_71 : decode cX7_mayChange 71 = .ok (.goto (-54), 3) := by decide +kernel
theorem dX7_mayChange_74 : decode cX7_mayChange 74 = .ok (.iload_n 3, 1) := by decide +kernel
theorem dX7_mayChange_75 : decode cX7_mayChange 75 = .ok (.ireturn, 1) := by decide +kernel
set_option maxRecDepth 20000 in
theorem ggX7_changes_X7_has : GoodIn wsX7_changes wsX7_has := goodIn_r _ [5] (by decide +kernel) (by decide +kernel)
set_option maxRecDepth 20000 in
theorem gX7_changes_X7_has : GoodIn wsX7_changes (va_wsS RX7 135 yX7_has wsX7_has) := goodIn_app (goodIn_of _ (by decide +kernel)) ggX7_changes_X7_has
theorem dX7_changes_0 : decode cX7_changes 0 = .ok (.iconst 0, 1) := by decide +kernel
theorem dX7_changes_1 : decode cX7_changes 1 = .ok (.istore_n 3, 1) := by decide +kernel
theorem dX7_changes_2 : decode cX7_changes 2 = .ok (.iload_n 3, 1) := by decide +kernel
theorem dX7_changes_3 : decode cX7_changes 3 = .ok (.iconst 1, 1) := by decide +kernel
theorem dX7_changes_4 : decode cX7_changes 4 = .ok (.iadd, 1) := by decide +kernel
theorem dX7_changes_5 : decode cX7_changes 5 = .ok (.aload_n 0, 1) := by decide +kernel
theorem dX7_changes_6 : decode cX7_changes 6 = .ok (.getfield 54, 3) := by decide +kernel
theorem dX7_changes_9 : decode cX7_changes 9 = .ok (.if_icmp .ge 37, 3) := by decide +kernel
theorem dX7_changes_12 : decode cX7_changes 12 = .ok (.iload_n 2, 1) := by decide +kernel
theorem dX7_changes_13 : decode cX7_changes 13 = .ok (.iload_n 3, 1) := by decide +kernel
theorem dX7_changes_14 : decode cX7_changes 14 = .ok (.invokestatic 135, 3) := by decide +kernel
theorem dX7_changes_17 : decode cX7_changes 17 = .ok (.ifCond .eq 23, 3) := by decide +kernel
theorem dX7_changes_20 : decode cX7_changes 20 = .ok (.aload_n 1, 1) := by decide +kernel
theorem dX7_changes_21 : decode cX7_changes 21 = .ok (.iload_n 3, 1) := by decide +kernel
theorem dX7_changes_22 : decode cX7_changes 22 = .ok (.iaload, 1) := by decide +kernel
theorem dX7_changes_23 : decode cX7_changes 23 = .ok (.istore 4, 2) := by decide +kernel
theorem dX7_changes_25 : decode cX7_changes 25 = .ok (.aload_n 1, 1) := by decide +kernel
theorem dX7_changes_26 : decode cX7_changes 26 = .ok (.iload_n 3, 1) := by decide +kernel
theorem dX7_changes_27 : decode cX7_changes 27 = .ok (.aload_n 1, 1) := by decide +kernel
theorem dX7_changes_28 : decode cX7_changes 28 = .ok (.iload_n 3, 1) := by decide +kernel
theorem dX7_changes_29 : decode cX7_changes 29 = .ok (.iconst 1, 1) := by decide +kernel
theorem dX7_changes_30 : decode cX7_changes 30 = .ok (.iadd, 1) := by decide +kernel
theorem dX7_changes_31 : decode cX7_changes 31 = .ok (.iaload, 1) := by decide +kernel
theorem dX7_changes_32 : decode cX7_changes 32 = .ok (.iastore, 1) := by decide +kernel
theorem dX7_changes_33 : decode cX7_changes 33 = .ok (.aload_n 1, 1) := by decide +kernel
theorem dX7_changes_34 : decode cX7_changes 34 = .ok (.iload_n 3, 1) := by decide +kernel
theorem dX7_changes_35 : decode cX7_changes 35 = .ok (.iconst 1, 1) := by decide +kernel
theorem dX7_changes_36 : decode cX7_changes 36 = .ok (.iadd, 1) := by decide +kernel
theorem dX7_changes_37 : decode cX7_changes 37 = .ok (.iload 4, 2) := by decide +kernel
theorem dX7_changes_39 : decode cX7_changes 39 = .ok (.iastore, 1) := by decide +kernel
theorem dX7_changes_40 : decode cX7_changes 40 = .ok (.iinc 3 1, 3) := by decide +kernel
theorem dX7_changes_43 : decode cX7_changes 43 = .ok (.goto (-41), 3) := by decide +kernel
theorem dX7_changes_46 : decode cX7_changes 46 = .ok (.return_, 1) := by decide +kernel
set_option maxRecDepth 20000 in
theorem ggX7_keeper_X7_isOne : GoodIn wsX7_keeper wsX7_isOne := goodIn_r _ [8, 9, 10, 11, 7, 12, 24, 25, 26, 27, 28, 29, 30, 31, 32, 33, 34, 35, 36, 37, 38, 39, 40, 41, 42, 43, 44, 45, 46, 47, 48, 49, 50, 51] (by decide +kernel) (by decide +kernel)
set_option maxRecDepth 20000 in
theorem gX7_keeper_X7_isOne : GoodIn wsX7_keeper (wsV RX7 139 RX7 yX7_isOne wsX7_isOne) := goodIn_app (goodIn_of _ (by decide +kernel)) ggX7_keeper_X7_isOne
set_option maxRecDepth 20000 in
theorem ggX7_keeper_X7_rockOf : GoodIn wsX7_keeper wsX7_rockOf := goodIn_r _ [16] (by decide +kernel) (by decide +kernel)
set_option maxRecDepth 20000 in
theorem gX7_keeper_X7_rockOf : GoodIn wsX7_keeper (wsV RX7 131 RX7 yX7_rockOf wsX7_rockOf) := goodIn_app (goodIn_of _ (by decide +kernel)) ggX7_keeper_X7_rockOf
set_option maxRecDepth 20000 in
theorem ggX7_keeper_X7_driftOf : GoodIn wsX7_keeper wsX7_driftOf := goodIn_r _ [20, 2, 13, 14, 15, 7, 16, 24, 25, 26, 27, 28, 29, 30, 31, 32, 33, 34, 35, 36, 37, 38, 39, 40, 41, 42, 43, 44, 45, 46, 47, 48, 49, 50, 51] (by decide +kernel) (by decide +kernel)
set_option maxRecDepth 20000 in
theorem gX7_keeper_X7_driftOf : GoodIn wsX7_keeper (wsV RX7 142 RX7 yX7_driftOf wsX7_driftOf) := goodIn_app (goodIn_of _ (by decide +kernel)) ggX7_keeper_X7_driftOf
set_option maxRecDepth 20000 in
theorem ggX7_keeper_X7_has : GoodIn wsX7_keeper wsX7_has := goodIn_r _ [23] (by decide +kernel) (by decide +kernel)
set_option maxRecDepth 20000 in
theorem gX7_keeper_X7_has : GoodIn wsX7_keeper (va_wsS RX7 135 yX7_has wsX7_has) := goodIn_app (goodIn_of _ (by decide +kernel)) ggX7_keeper_X7_has
theorem dX7_keeper_0 : decode cX7_keeper 0 = .ok (.aload_n 0, 1) := by decide +kernel
theorem dX7_keeper_1 : decode cX7_keeper 1 = .ok (.iload_n 1, 1) := by decide +kernel
theorem dX7_keeper_2 : decode cX7_keeper 2 = .ok (.invokevirtual 139, 3) := by decide +kernel
theorem dX7_keeper_5 : decode cX7_keeper 5 = .ok (.ifCond .ne 5, 3) := by decide +kernel
theorem dX7_keeper_8 : decode cX7_keeper 8 = .ok (.iconst (-1), 1) := by decide +kernel
theorem dX7_keeper_9 : decode cX7_keeper 9 = .ok (.ireturn, 1) := by decide +kernel
theorem dX7_keeper_10 : decode cX7_keeper 10 = .ok (.iload_n 2, 1) := by decide +kernel
theorem dX7_keeper_11 : decode cX7_keeper 11 = .ok (.tableswitch 83 0 4 #[33, 40, 50, 56, 76], 33) := by decide +kernel
theorem dX7_keeper_44 : decode cX7_keeper 44 = .ok (.aload_n 0, 1) := by decide +kernel
theorem dX7_keeper_45 : decode cX7_keeper 45 = .ok (.getfield 7, 3) := by decide +kernel
theorem dX7_keeper_48 : decode cX7_keeper 48 = .ok (.iload_n 1, 1) := by decide +kernel
theorem dX7_keeper_49 : decode cX7_keeper 49 = .ok (.iaload, 1) := by decide +kernel
theorem dX7_keeper_50 : decode cX7_keeper 50 = .ok (.ireturn, 1) := by decide +kernel
theorem dX7_keeper_51 : decode cX7_keeper 51 = .ok (.aload_n 0, 1) := by decide +kernel
theorem dX7_keeper_52 : decode cX7_keeper 52 = .ok (.aload_n 0, 1) := by decide +kernel
theorem dX7_keeper_53 : decode cX7_keeper 53 = .ok (.getfield 20, 3) := by decide +kernel
theorem dX7_keeper_56 : decode cX7_keeper 56 = .ok (.iload_n 1, 1) := by decide +kernel
theorem dX7_keeper_57 : decode cX7_keeper 57 = .ok (.invokevirtual 131, 3) := by decide +kernel
theorem dX7_keeper_60 : decode cX7_keeper 60 = .ok (.ireturn, 1) := by decide +kernel
theorem dX7_keeper_61 : decode cX7_keeper 61 = .ok (.aload_n 0, 1) := by decide +kernel
theorem dX7_keeper_62 : decode cX7_keeper 62 = .ok (.iload_n 1, 1) := by decide +kernel
theorem dX7_keeper_63 : decode cX7_keeper 63 = .ok (.invokevirtual 142, 3) := by decide +kernel
theorem dX7_keeper_66 : decode cX7_keeper 66 = .ok (.ireturn, 1) := by decide +kernel
theorem dX7_keeper_67 : decode cX7_keeper 67 = .ok (.aload_n 0, 1) := by decide +kernel
theorem dX7_keeper_68 : decode cX7_keeper 68 = .ok (.getfield 20, 3) := by decide +kernel
theorem dX7_keeper_71 : decode cX7_keeper 71 = .ok (.bipush 8, 2) := by decide +kernel
theorem dX7_keeper_73 : decode cX7_keeper 73 = .ok (.iaload, 1) := by decide +kernel
theorem dX7_keeper_74 : decode cX7_keeper 74 = .ok (.iload_n 1, 1) := by decide +kernel
theorem dX7_keeper_75 : decode cX7_keeper 75 = .ok (.invokestatic 135, 3) := by decide +kernel
theorem dX7_keeper_78 : decode cX7_keeper 78 = .ok (.ifCond .eq 7, 3) := by decide +kernel
theorem dX7_keeper_81 : decode cX7_keeper 81 = .ok (.iconst 1, 1) := by decide +kernel
theorem dX7_keeper_82 : decode cX7_keeper 82 = .ok (.goto 4, 3) := by decide +kernel
theorem dX7_keeper_85 : decode cX7_keeper 85 = .ok (.iconst 0, 1) := by decide +kernel
theorem dX7_keeper_86 : decode cX7_keeper 86 = .ok (.ireturn, 1) := by decide +kernel
theorem dX7_keeper_87 : decode cX7_keeper 87 = .ok (.aload_n 0, 1) := by decide +kernel
theorem dX7_keeper_88 : decode cX7_keeper 88 = .ok (.getfield 13, 3) := by decide +kernel
theorem dX7_keeper_91 : decode cX7_keeper 91 = .ok (.iload_n 1, 1) := by decide +kernel
theorem dX7_keeper_92 : decode cX7_keeper 92 = .ok (.iaload, 1) := by decide +kernel
theorem dX7_keeper_93 : decode cX7_keeper 93 = .ok (.ireturn, 1) := by decide +kernel
theorem dX7_keeper_94 : decode cX7_keeper 94 = .ok (.iconst (-1), 1) := by decide +kernel
theorem dX7_keeper_95 : decode cX7_keeper 95 = .ok (.ireturn, 1) := by decide +kernel
set_option maxRecDepth 20000 in
theorem ggX7_rock_X7_isOne : GoodIn wsX7_rock wsX7_isOne := goodIn_r _ [6, 7, 8, 9, 5, 10, 11, 12, 13, 14, 15, 16, 17, 18, 19, 20, 21, 22, 23, 24, 25, 26, 27, 28, 29, 30, 31, 32, 33, 34, 35, 36, 37, 38] (by decide +kernel) (by decide +kernel)
set_option maxRecDepth 20000 in
theorem gX7_rock_X7_isOne : GoodIn wsX7_rock (wsV RX7 139 RX7 yX7_isOne wsX7_isOne) := goodIn_app (goodIn_of _ (by decide +kernel)) ggX7_rock_X7_isOne
theorem dX7_rock_0 : decode cX7_rock 0 = .ok (.aload_n 0, 1) := by decide +kernel
theorem dX7_rock_1 : decode cX7_rock 1 = .ok (.iload_n 1, 1) := by decide +kernel
theorem dX7_rock_2 : decode cX7_rock 2 = .ok (.invokevirtual 139, 3) := by decide +kernel
theorem dX7_rock_5 : decode cX7_rock 5 = .ok (.ifCond .eq 12, 3) := by decide +kernel
theorem dX7_rock_8 : decode cX7_rock 8 = .ok (.aload_n 0, 1) := by decide +kernel
theorem dX7_rock_9 : decode cX7_rock 9 = .ok (.getfield 20, 3) := by decide +kernel
theorem dX7_rock_12 : decode cX7_rock 12 = .ok (.iload_n 1, 1) := by decide +kernel
theorem dX7_rock_13 : decode cX7_rock 13 = .ok (.iaload, 1) := by decide +kernel
theorem dX7_rock_14 : decode cX7_rock 14 = .ok (.goto 4, 3) := by decide +kernel
theorem dX7_rock_17 : decode cX7_rock 17 = .ok (.iconst (-1), 1) := by decide +kernel
theorem dX7_rock_18 : decode cX7_rock 18 = .ok (.ireturn, 1) := by decide +kernel
theorem dX7_remembers_0 : decode cX7_remembers 0 = .ok (.aload_n 0, 1) := by decide +kernel
theorem dX7_remembers_1 : decode cX7_remembers 1 = .ok (.getfield 20, 3) := by decide +kernel
theorem dX7_remembers_4 : decode cX7_remembers 4 = .ok (.bipush 9, 2) := by decide +kernel
theorem dX7_remembers_6 : decode cX7_remembers 6 = .ok (.iaload, 1) := by decide +kernel
theorem dX7_remembers_7 : decode cX7_remembers 7 = .ok (.bipush 10, 2) := by decide +kernel
theorem dX7_remembers_9 : decode cX7_remembers 9 = .ok (.if_icmp .ne 44, 3) := by decide +kernel
theorem dX7_remembers_12 : decode cX7_remembers 12 = .ok (.bipush 10, 2) := by decide +kernel
theorem dX7_remembers_14 : decode cX7_remembers 14 = .ok (.istore_n 1, 1) := by decide +kernel
theorem dX7_remembers_15 : decode cX7_remembers 15 = .ok (.iload_n 1, 1) := by decide +kernel
theorem dX7_remembers_16 : decode cX7_remembers 16 = .ok (.bipush 91, 2) := by decide +kernel
theorem dX7_remembers_18 : decode cX7_remembers 18 = .ok (.if_icmp .ge 24, 3) := by decide +kernel
theorem dX7_remembers_21 : decode cX7_remembers 21 = .ok (.aload_n 0, 1) := by decide +kernel
theorem dX7_remembers_22 : decode cX7_remembers 22 = .ok (.getfield 20, 3) := by decide +kernel
theorem dX7_remembers_25 : decode cX7_remembers 25 = .ok (.iload_n 1, 1) := by decide +kernel
theorem dX7_remembers_26 : decode cX7_remembers 26 = .ok (.aload_n 0, 1) := by decide +kernel
theorem dX7_remembers_27 : decode cX7_remembers 27 = .ok (.getfield 20, 3) := by decide +kernel
theorem dX7_remembers_30 : decode cX7_remembers 30 = .ok (.iload_n 1, 1) := by decide +kernel
theorem dX7_remembers_31 : decode cX7_remembers 31 = .ok (.bipush 9, 2) := by decide +kernel
theorem dX7_remembers_33 : decode cX7_remembers 33 = .ok (.iadd, 1) := by decide +kernel
theorem dX7_remembers_34 : decode cX7_remembers 34 = .ok (.iaload, 1) := by decide +kernel
theorem dX7_remembers_35 : decode cX7_remembers 35 = .ok (.iastore, 1) := by decide +kernel
theorem dX7_remembers_36 : decode cX7_remembers 36 = .ok (.iinc 1 1, 3) := by decide +kernel
theorem dX7_remembers_39 : decode cX7_remembers 39 = .ok (.goto (-24), 3) := by decide +kernel
theorem dX7_remembers_42 : decode cX7_remembers 42 = .ok (.aload_n 0, 1) := by decide +kernel
theorem dX7_remembers_43 : decode cX7_remembers 43 = .ok (.getfield 20, 3) := by decide +kernel
theorem dX7_remembers_46 : decode cX7_remembers 46 = .ok (.bipush 9, 2) := by decide +kernel
theorem dX7_remembers_48 : decode cX7_remembers 48 = .ok (.dup2, 1) := by decide +kernel
theorem dX7_remembers_49 : decode cX7_remembers 49 = .ok (.iaload, 1) := by decide +kernel
theorem dX7_remembers_50 : decode cX7_remembers 50 = .ok (.iconst 1, 1) := by decide +kernel
theorem dX7_remembers_51 : decode cX7_remembers 51 = .ok (.isub, 1) := by decide +kernel
theorem dX7_remembers_52 : decode cX7_remembers 52 = .ok (.iastore, 1) := by decide +kernel
theorem dX7_remembers_53 : decode cX7_remembers 53 = .ok (.bipush 10, 2) := by decide +kernel
theorem dX7_remembers_55 : decode cX7_remembers 55 = .ok (.bipush 9, 2) := by decide +kernel
theorem dX7_remembers_57 : decode cX7_remembers 57 = .ok (.aload_n 0, 1) := by decide +kernel
theorem dX7_remembers_58 : decode cX7_remembers 58 = .ok (.getfield 20, 3) := by decide +kernel
theorem dX7_remembers_61 : decode cX7_remembers 61 = .ok (.bipush 9, 2) := by decide +kernel
theorem dX7_remembers_63 : decode cX7_remembers 63 = .ok (.iaload, 1) := by decide +kernel
theorem dX7_remembers_64 : decode cX7_remembers 64 = .ok (.imul, 1) := by decide +kernel
theorem dX7_remembers_65 : decode cX7_remembers 65 = .ok (.iadd, 1) := by decide +kernel
theorem dX7_remembers_66 : decode cX7_remembers 66 = .ok (.istore_n 1, 1) := by decide +kernel
theorem dX7_remembers_67 : decode cX7_remembers 67 = .ok (.iconst 0, 1) := by decide +kernel
theorem dX7_remembers_68 : decode cX7_remembers 68 = .ok (.istore_n 2, 1) := by decide +kernel
theorem dX7_remembers_69 : decode cX7_remembers 69 = .ok (.iload_n 2, 1) := by decide +kernel
theorem dX7_remembers_70 : decode cX7_remembers 70 = .ok (.bipush 9, 2) := by decide +kernel
theorem dX7_remembers_72 : decode cX7_remembers 72 = .ok (.if_icmp .ge 23, 3) := by decide +kernel
theorem dX7_remembers_75 : decode cX7_remembers 75 = .ok (.aload_n 0, 1) := by decide +kernel
theorem dX7_remembers_76 : decode cX7_remembers 76 = .ok (.getfield 20, 3) := by decide +kernel
theorem dX7_remembers_79 : decode cX7_remembers 79 = .ok (.iload_n 1, 1) := by decide +kernel
theorem dX7_remembers_80 : decode cX7_remembers 80 = .ok (.iload_n 2, 1) := by decide +kernel
theorem dX7_remembers_81 : decode cX7_remembers 81 = .ok (.iadd, 1) := by decide +kernel
theorem dX7_remembers_82 : decode cX7_remembers 82 = .ok (.aload_n 0, 1) := by decide +kernel
theorem dX7_remembers_83 : decode cX7_remembers 83 = .ok (.getfield 20, 3) := by decide +kernel
theorem dX7_remembers_86 : decode cX7_remembers 86 = .ok (.iload_n 2, 1) := by decide +kernel
theorem dX7_remembers_87 : decode cX7_remembers 87 = .ok (.iaload, 1) := by decide +kernel
theorem dX7_remembers_88 : decode cX7_remembers 88 = .ok (.iastore, 1) := by decide +kernel
theorem dX7_remembers_89 : decode cX7_remembers 89 = .ok (.iinc 2 1, 3) := by decide +kernel
theorem dX7_remembers_92 : decode cX7_remembers 92 = .ok (.goto (-23), 3) := by decide +kernel
theorem dX7_remembers_95 : decode cX7_remembers 95 = .ok (.aload_n 0, 1) := by decide +kernel
theorem dX7_remembers_96 : decode cX7_remembers 96 = .ok (.getfield 20, 3) := by decide +kernel
theorem dX7_remembers_99 : decode cX7_remembers 99 = .ok (.bipush 9, 2) := by decide +kernel
theorem dX7_remembers_101 : decode cX7_remembers 101 = .ok (.dup2, 1) := by decide +kernel
theorem dX7_remembers_102 : decode cX7_remembers 102 = .ok (.iaload, 1) := by decide +kernel
theorem dX7_remembers_103 : decode cX7_remembers 103 = .ok (.iconst 1, 1) := by decide +kernel
theorem dX7_remembers_104 : decode cX7_remembers 104 = .ok (.iadd, 1) := by decide +kernel
theorem dX7_remembers_105 : decode cX7_remembers 105 = .ok (.iastore, 1) := by decide +kernel
theorem dX7_remembers_106 : decode cX7_remembers 106 = .ok (.return_, 1) := by decide +kernel
set_option maxRecDepth 20000 in
theorem ggX7_moon_X7_isChange : GoodIn wsX7_moon wsX7_isChange := goodIn_r _ [8, 2, 9, 10, 7, 11, 31, 32, 33, 34, 35, 36, 37, 38, 39, 40, 41, 42, 43, 44, 45, 46, 47, 48, 49, 50, 51, 52, 53, 54, 55, 56, 57, 58] (by decide +kernel) (by decide +kernel)
set_option maxRecDepth 20000 in
theorem gX7_moon_X7_isChange : GoodIn wsX7_moon (wsV RX7 145 RX7 yX7_isChange wsX7_isChange) := goodIn_app (goodIn_of _ (by decide +kernel)) ggX7_moon_X7_isChange
set_option maxRecDepth 20000 in
theorem ggX7_moon_X7_mayChange : GoodIn wsX7_moon wsX7_mayChange := goodIn_r _ [15, 2, 16, 17, 18, 7, 19, 31, 32, 33, 34, 35, 36, 37, 38, 39, 40, 41, 42, 43, 44, 45, 46, 47, 48, 49, 50, 51, 52, 53, 54, 55, 56, 57, 58] (by decide +kernel) (by decide +kernel)
set_option maxRecDepth 20000 in
theorem gX7_moon_X7_mayChange : GoodIn wsX7_moon (wsV RX7 148 RX7 yX7_mayChange wsX7_mayChange) := goodIn_app (goodIn_of _ (by decide +kernel)) ggX7_moon_X7_mayChange
set_option maxRecDepth 20000 in
theorem ggX7_moon_X7_remembers : GoodIn wsX7_moon wsX7_remembers := goodIn_r _ [23, 1, 31, 32, 33, 34, 35, 36, 37, 38, 39, 40, 41, 42, 43, 44, 45, 46, 47, 48, 49, 50, 51, 52, 53, 54, 55, 56, 57, 58] (by decide +kernel) (by decide +kernel)
set_option maxRecDepth 20000 in
theorem gX7_moon_X7_remembers : GoodIn wsX7_moon (wsV RX7 152 RX7 yX7_remembers wsX7_remembers) := goodIn_app (goodIn_of _ (by decide +kernel)) ggX7_moon_X7_remembers
set_option maxRecDepth 20000 in
theorem ggX7_moon_X7_changes : GoodIn wsX7_moon wsX7_changes := goodIn_r _ [27, 2, 17, 18, 7, 19, 31, 32, 33, 34, 35, 36, 37, 38, 39, 40, 41, 42, 43, 44, 45, 46, 47, 48, 49, 50, 51, 52, 53, 54, 55, 56, 57, 58] (by decide +kernel) (by decide +kernel)
set_option maxRecDepth 20000 in
theorem gX7_moon_X7_changes : GoodIn wsX7_moon (wsV RX7 155 RX7 yX7_changes wsX7_changes) := goodIn_app (goodIn_of _ (by decide +kernel)) ggX7_moon_X7_changes
set_option maxRecDepth 20000 in
theorem ggX7_moon_X7_has : GoodIn wsX7_moon wsX7_has := goodIn_r _ [19] (by decide +kernel) (by decide +kernel)
set_option maxRecDepth 20000 in
theorem gX7_moon_X7_has : GoodIn wsX7_moon (va_wsS RX7 135 yX7_has wsX7_has) := goodIn_app (goodIn_of _ (by decide +kernel)) ggX7_moon_X7_has
set_option maxRecDepth 20000 in
theorem ggX7_moon_X7_bits : GoodIn wsX7_moon wsX7_bits := goodIn_r _ [30] (by decide +kernel) (by decide +kernel)
set_option maxRecDepth 20000 in
theorem gX7_moon_X7_bits : GoodIn wsX7_moon (va_wsS RX7 159 yX7_bits wsX7_bits) := goodIn_app (goodIn_of _ (by decide +kernel)) ggX7_moon_X7_bits
theorem dX7_moon_0 : decode cX7_moon 0 = .ok (.aload_n 0, 1) := by decide +kernel
theorem dX7_moon_1 : decode cX7_moon 1 = .ok (.iload_n 1, 1) := by decide +kernel
theorem dX7_moon_2 : decode cX7_moon 2 = .ok (.invokevirtual 145, 3) := by decide +kernel
theorem dX7_moon_5 : decode cX7_moon 5 = .ok (.ifCond .ne 5, 3) := by decide +kernel
theorem dX7_moon_8 : decode cX7_moon 8 = .ok (.iconst (-1), 1) := by decide +kernel
theorem dX7_moon_9 : decode cX7_moon 9 = .ok (.ireturn, 1) := by decide +kernel
theorem dX7_moon_10 : decode cX7_moon 10 = .ok (.aload_n 0, 1) := by decide +kernel
theorem dX7_moon_11 : decode cX7_moon 11 = .ok (.aload_n 0, 1) := by decide +kernel
theorem dX7_moon_12 : decode cX7_moon 12 = .ok (.getfield 20, 3) := by decide +kernel
theorem dX7_moon_15 : decode cX7_moon 15 = .ok (.iload_n 1, 1) := by decide +kernel
theorem dX7_moon_16 : decode cX7_moon 16 = .ok (.invokevirtual 148, 3) := by decide +kernel
theorem dX7_moon_19 : decode cX7_moon 19 = .ok (.ifCond .eq 15, 3) := by decide +kernel
theorem dX7_moon_22 : decode cX7_moon 22 = .ok (.aload_n 0, 1) := by decide +kernel
theorem dX7_moon_23 : decode cX7_moon 23 = .ok (.getfield 20, 3) := by decide +kernel
theorem dX7_moon_26 : decode cX7_moon 26 = .ok (.bipush 6, 2) := by decide +kernel
theorem dX7_moon_28 : decode cX7_moon 28 = .ok (.iaload, 1) := by decide +kernel
theorem dX7_moon_29 : decode cX7_moon 29 = .ok (.bipush 99, 2) := by decide +kernel
theorem dX7_moon_31 : decode cX7_moon 31 = .ok (.if_icmp .ne 6, 3) := by decide +kernel
theorem dX7_moon_34 : decode cX7_moon 34 = .ok (.bipush (-2), 2) := by decide +kernel
theorem dX7_moon_36 : decode cX7_moon 36 = .ok (.ireturn, 1) := by decide +kernel
theorem dX7_moon_37 : decode cX7_moon 37 = .ok (.aload_n 0, 1) := by decide +kernel
theorem dX7_moon_38 : decode cX7_moon 38 = .ok (.invokevirtual 152, 3) := by decide +kernel
theorem dX7_moon_41 : decode cX7_moon 41 = .ok (.aload_n 0, 1) := by decide +kernel
theorem dX7_moon_42 : decode cX7_moon 42 = .ok (.aload_n 0, 1) := by decide +kernel
theorem dX7_moon_43 : decode cX7_moon 43 = .ok (.getfield 20, 3) := by decide +kernel
theorem dX7_moon_46 : decode cX7_moon 46 = .ok (.iload_n 1, 1) := by decide +kernel
theorem dX7_moon_47 : decode cX7_moon 47 = .ok (.invokevirtual 155, 3) := by decide +kernel
theorem dX7_moon_50 : decode cX7_moon 50 = .ok (.aload_n 0, 1) := by decide +kernel
theorem dX7_moon_51 : decode cX7_moon 51 = .ok (.getfield 20, 3) := by decide +kernel
theorem dX7_moon_54 : decode cX7_moon 54 = .ok (.bipush 6, 2) := by decide +kernel
theorem dX7_moon_56 : decode cX7_moon 56 = .ok (.dup2, 1) := by decide +kernel
theorem dX7_moon_57 : decode cX7_moon 57 = .ok (.iaload, 1) := by decide +kernel
theorem dX7_moon_58 : decode cX7_moon 58 = .ok (.iconst 1, 1) := by decide +kernel
theorem dX7_moon_59 : decode cX7_moon 59 = .ok (.iadd, 1) := by decide +kernel
theorem dX7_moon_60 : decode cX7_moon 60 = .ok (.iastore, 1) := by decide +kernel
theorem dX7_moon_61 : decode cX7_moon 61 = .ok (.iconst 0, 1) := by decide +kernel
theorem dX7_moon_62 : decode cX7_moon 62 = .ok (.istore_n 2, 1) := by decide +kernel
theorem dX7_moon_63 : decode cX7_moon 63 = .ok (.iload_n 2, 1) := by decide +kernel
theorem dX7_moon_64 : decode cX7_moon 64 = .ok (.aload_n 0, 1) := by decide +kernel
theorem dX7_moon_65 : decode cX7_moon 65 = .ok (.getfield 54, 3) := by decide +kernel
theorem dX7_moon_68 : decode cX7_moon 68 = .ok (.if_icmp .ge 43, 3) := by decide +kernel
theorem dX7_moon_71 : decode cX7_moon 71 = .ok (.aload_n 0, 1) := by decide +kernel
theorem dX7_moon_72 : decode cX7_moon 72 = .ok (.getfield 20, 3) := by decide +kernel
theorem dX7_moon_75 : decode cX7_moon 75 = .ok (.bipush 7, 2) := by decide +kernel
theorem dX7_moon_77 : decode cX7_moon 77 = .ok (.dup2, 1) := by decide +kernel
theorem dX7_moon_78 : decode cX7_moon 78 = .ok (.iaload, 1) := by decide +kernel
theorem dX7_moon_79 : decode cX7_moon 79 = .ok (.aload_n 0, 1) := by decide +kernel
theorem dX7_moon_80 : decode cX7_moon 80 = .ok (.getfield 20, 3) := by decide +kernel
theorem dX7_moon_83 : decode cX7_moon 83 = .ok (.bipush 8, 2) := by decide +kernel
theorem dX7_moon_85 : decode cX7_moon 85 = .ok (.iaload, 1) := by decide +kernel
theorem dX7_moon_86 : decode cX7_moon 86 = .ok (.iload_n 2, 1) := by decide +kernel
theorem dX7_moon_87 : decode cX7_moon 87 = .ok (.invokestatic 135, 3) := by decide +kernel
theorem dX7_moon_90 : decode cX7_moon 90 = .ok (.ifCond .eq 7, 3) := by decide +kernel
theorem dX7_moon_93 : decode cX7_moon 93 = .ok (.iconst 0, 1) := by decide +kernel
theorem dX7_moon_94 : decode cX7_moon 94 = .ok (.goto 9, 3) := by decide +kernel
theorem dX7_moon_97 : decode cX7_moon 97 = .ok (.aload_n 0, 1) := by decide +kernel
theorem dX7_moon_98 : decode cX7_moon 98 = .ok (.getfield 7, 3) := by decide +kernel
theorem dX7_moon_101 : decode cX7_moon 101 = .ok (.iload_n 2, 1) := by decide +kernel
theorem dX7_moon_102 : decode cX7_moon 102 = .ok (.iaload, 1) := by decide +kernel
theorem dX7_moon_103 : decode cX7_moon 103 = .ok (.iadd, 1) := by decide +kernel
theorem dX7_moon_104 : decode cX7_moon 104 = .ok (.iastore, 1) := by decide +kernel
theorem dX7_moon_105 : decode cX7_moon 105 = .ok (.iinc 2 1, 3) := by decide +kernel
theorem dX7_moon_108 : decode cX7_moon 108 = .ok (.goto (-45), 3) := by decide +kernel
theorem dX7_moon_111 : decode cX7_moon 111 = .ok (.iconst 2, 1) := by decide +kernel
theorem dX7_moon_112 : decode cX7_moon 112 = .ok (.iload_n 1, 1) := by decide +kernel
theorem dX7_moon_113 : decode cX7_moon 113 = .ok (.invokestatic 159, 3) := by decide +kernel
theorem dX7_moon_116 : decode cX7_moon 116 = .ok (.imul, 1) := by decide +kernel
theorem dX7_moon_117 : decode cX7_moon 117 = .ok (.ireturn, 1) := by decide +kernel
set_option maxRecDepth 20000 in
theorem ggX7_puts_X7_isOne : GoodIn wsX7_puts wsX7_isOne := goodIn_r _ [6, 7, 8, 9, 5, 10, 21, 22, 23, 24, 25, 26, 27, 28, 29, 30, 31, 32, 33, 34, 35, 36, 37, 38, 39, 40, 41, 42, 43, 44, 45, 46, 47, 48] (by decide +kernel) (by decide +kernel)
set_option maxRecDepth 20000 in
theorem gX7_puts_X7_isOne : GoodIn wsX7_puts (wsV RX7 139 RX7 yX7_isOne wsX7_isOne) := goodIn_app (goodIn_of _ (by decide +kernel)) ggX7_puts_X7_isOne
set_option maxRecDepth 20000 in
theorem ggX7_puts_X7_in : GoodIn wsX7_puts wsX7_in := goodIn_r _ [10] (by decide +kernel) (by decide +kernel)
set_option maxRecDepth 20000 in
theorem gX7_puts_X7_in : GoodIn wsX7_puts (va_wsS RX7 57 yX7_in wsX7_in) := goodIn_app (goodIn_of _ (by decide +kernel)) ggX7_puts_X7_in
set_option maxRecDepth 20000 in
theorem ggX7_puts_X7_has : GoodIn wsX7_puts wsX7_has := goodIn_r _ [13] (by decide +kernel) (by decide +kernel)
set_option maxRecDepth 20000 in
theorem gX7_puts_X7_has : GoodIn wsX7_puts (va_wsS RX7 135 yX7_has wsX7_has) := goodIn_app (goodIn_of _ (by decide +kernel)) ggX7_puts_X7_has
set_option maxRecDepth 20000 in
theorem ggX7_puts_X7_remembers : GoodIn wsX7_puts wsX7_remembers := goodIn_r _ [17, 1, 21, 22, 23, 24, 25, 26, 27, 28, 29, 30, 31, 32, 33, 34, 35, 36, 37, 38, 39, 40, 41, 42, 43, 44, 45, 46, 47, 48] (by decide +kernel) (by decide +kernel)
set_option maxRecDepth 20000 in
theorem gX7_puts_X7_remembers : GoodIn wsX7_puts (wsV RX7 152 RX7 yX7_remembers wsX7_remembers) := goodIn_app (goodIn_of _ (by decide +kernel)) ggX7_puts_X7_remembers
set_option maxRecDepth 20000 in
theorem ggX7_puts_X7_bits : GoodIn wsX7_puts wsX7_bits := goodIn_r _ [20] (by decide +kernel) (by decide +kernel)
set_option maxRecDepth 20000 in
theorem gX7_puts_X7_bits : GoodIn wsX7_puts (va_wsS RX7 159 yX7_bits wsX7_bits) := goodIn_app (goodIn_of _ (by decide +kernel)) ggX7_puts_X7_bits
theorem dX7_puts_0 : decode cX7_puts 0 = .ok (.aload_n 0, 1) := by decide +kernel
theorem dX7_puts_1 : decode cX7_puts 1 = .ok (.iload_n 1, 1) := by decide +kernel
theorem dX7_puts_2 : decode cX7_puts 2 = .ok (.invokevirtual 139, 3) := by decide +kernel
theorem dX7_puts_5 : decode cX7_puts 5 = .ok (.ifCond .eq 12, 3) := by decide +kernel
theorem dX7_puts_8 : decode cX7_puts 8 = .ok (.iload_n 2, 1) := by decide +kernel
theorem dX7_puts_9 : decode cX7_puts 9 = .ok (.iconst 0, 1) := by decide +kernel
theorem dX7_puts_10 : decode cX7_puts 10 = .ok (.iconst 1, 1) := by decide +kernel
theorem dX7_puts_11 : decode cX7_puts 11 = .ok (.invokestatic 57, 3) := by decide +kernel
theorem dX7_puts_14 : decode cX7_puts 14 = .ok (.ifCond .ne 5, 3) := by decide +kernel
theorem dX7_puts_17 : decode cX7_puts 17 = .ok (.iconst (-1), 1) := by decide +kernel
theorem dX7_puts_18 : decode cX7_puts 18 = .ok (.ireturn, 1) := by decide +kernel
theorem dX7_puts_19 : decode cX7_puts 19 = .ok (.aload_n 0, 1) := by decide +kernel
theorem dX7_puts_20 : decode cX7_puts 20 = .ok (.getfield 20, 3) := by decide +kernel
theorem dX7_puts_23 : decode cX7_puts 23 = .ok (.bipush 8, 2) := by decide +kernel
theorem dX7_puts_25 : decode cX7_puts 25 = .ok (.iaload, 1) := by decide +kernel
theorem dX7_puts_26 : decode cX7_puts 26 = .ok (.iload_n 1, 1) := by decide +kernel
theorem dX7_puts_27 : decode cX7_puts 27 = .ok (.invokestatic 135, 3) := by decide +kernel
theorem dX7_puts_30 : decode cX7_puts 30 = .ok (.iload_n 2, 1) := by decide +kernel
theorem dX7_puts_31 : decode cX7_puts 31 = .ok (.iconst 1, 1) := by decide +kernel
theorem dX7_puts_32 : decode cX7_puts 32 = .ok (.if_icmp .ne 7, 3) := by decide +kernel
theorem dX7_puts_35 : decode cX7_puts 35 = .ok (.iconst 1, 1) := by decide +kernel
theorem dX7_puts_36 : decode cX7_puts 36 = .ok (.goto 4, 3) := by decide +kernel
theorem dX7_puts_39 : decode cX7_puts 39 = .ok (.iconst 0, 1) := by decide +kernel
theorem dX7_puts_40 : decode cX7_puts 40 = .ok (.if_icmp .ne 6, 3) := by decide +kernel
theorem dX7_puts_43 : decode cX7_puts 43 = .ok (.bipush (-2), 2) := by decide +kernel
theorem dX7_puts_45 : decode cX7_puts 45 = .ok (.ireturn, 1) := by decide +kernel
theorem dX7_puts_46 : decode cX7_puts 46 = .ok (.aload_n 0, 1) := by decide +kernel
theorem dX7_puts_47 : decode cX7_puts 47 = .ok (.invokevirtual 152, 3) := by decide +kernel
theorem dX7_puts_50 : decode cX7_puts 50 = .ok (.aload_n 0, 1) := by decide +kernel
theorem dX7_puts_51 : decode cX7_puts 51 = .ok (.getfield 20, 3) := by decide +kernel
theorem dX7_puts_54 : decode cX7_puts 54 = .ok (.bipush 8, 2) := by decide +kernel
theorem dX7_puts_56 : decode cX7_puts 56 = .ok (.dup2, 1) := by decide +kernel
theorem dX7_puts_57 : decode cX7_puts 57 = .ok (.iaload, 1) := by decide +kernel
theorem dX7_puts_58 : decode cX7_puts 58 = .ok (.iconst 1, 1) := by decide +kernel
theorem dX7_puts_59 : decode cX7_puts 59 = .ok (.iload_n 1, 1) := by decide +kernel
theorem dX7_puts_60 : decode cX7_puts 60 = .ok (.ishl, 1) := by decide +kernel
theorem dX7_puts_61 : decode cX7_puts 61 = .ok (.ixor, 1) := by decide +kernel
theorem dX7_puts_62 : decode cX7_puts 62 = .ok (.iastore, 1) := by decide +kernel
theorem dX7_puts_63 : decode cX7_puts 63 = .ok (.aload_n 0, 1) := by decide +kernel
theorem dX7_puts_64 : decode cX7_puts 64 = .ok (.getfield 20, 3) := by decide +kernel
theorem dX7_puts_67 : decode cX7_puts 67 = .ok (.bipush 8, 2) := by decide +kernel
theorem dX7_puts_69 : decode cX7_puts 69 = .ok (.iaload, 1) := by decide +kernel
theorem dX7_puts_70 : decode cX7_puts 70 = .ok (.invokestatic 159, 3) := by decide +kernel
theorem dX7_puts_73 : decode cX7_puts 73 = .ok (.ireturn, 1) := by decide +kernel
theorem dX7_undo_0 : decode cX7_undo 0 = .ok (.aload_n 0, 1) := by decide +kernel
theorem dX7_undo_1 : decode cX7_undo 1 = .ok (.getfield 20, 3) := by decide +kernel
theorem dX7_undo_4 : decode cX7_undo 4 = .ok (.bipush 9, 2) := by decide +kernel
theorem dX7_undo_6 : decode cX7_undo 6 = .ok (.iaload, 1) := by decide +kernel
theorem dX7_undo_7 : decode cX7_undo 7 = .ok (.ifCond .ne 6, 3) := by decide +kernel
theorem dX7_undo_10 : decode cX7_undo 10 = .ok (.bipush (-2), 2) := by decide +kernel
theorem dX7_undo_12 : decode cX7_undo 12 = .ok (.ireturn, 1) := by decide +kernel
theorem dX7_undo_13 : decode cX7_undo 13 = .ok (.aload_n 0, 1) := by decide +kernel
theorem dX7_undo_14 : decode cX7_undo 14 = .ok (.getfield 20, 3) := by decide +kernel
theorem dX7_undo_17 : decode cX7_undo 17 = .ok (.bipush 9, 2) := by decide +kernel
theorem dX7_undo_19 : decode cX7_undo 19 = .ok (.dup2, 1) := by decide +kernel
theorem dX7_undo_20 : decode cX7_undo 20 = .ok (.iaload, 1) := by decide +kernel
theorem dX7_undo_21 : decode cX7_undo 21 = .ok (.iconst 1, 1) := by decide +kernel
theorem dX7_undo_22 : decode cX7_undo 22 = .ok (.isub, 1) := by decide +kernel
theorem dX7_undo_23 : decode cX7_undo 23 = .ok (.iastore, 1) := by decide +kernel
theorem dX7_undo_24 : decode cX7_undo 24 = .ok (.bipush 10, 2) := by decide +kernel
theorem dX7_undo_26 : decode cX7_undo 26 = .ok (.bipush 9, 2) := by decide +kernel
theorem dX7_undo_28 : decode cX7_undo 28 = .ok (.aload_n 0, 1) := by decide +kernel
theorem dX7_undo_29 : decode cX7_undo 29 = .ok (.getfield 20, 3) := by decide +kernel
theorem dX7_undo_32 : decode cX7_undo 32 = .ok (.bipush 9, 2) := by decide +kernel
theorem dX7_undo_34 : decode cX7_undo 34 = .ok (.iaload, 1) := by decide +kernel
theorem dX7_undo_35 : decode cX7_undo 35 = .ok (.imul, 1) := by decide +kernel
theorem dX7_undo_36 : decode cX7_undo 36 = .ok (.iadd, 1) := by decide +kernel
theorem dX7_undo_37 : decode cX7_undo 37 = .ok (.istore_n 1, 1) := by decide +kernel
theorem dX7_undo_38 : decode cX7_undo 38 = .ok (.iconst 0, 1) := by decide +kernel
theorem dX7_undo_39 : decode cX7_undo 39 = .ok (.istore_n 2, 1) := by decide +kernel
theorem dX7_undo_40 : decode cX7_undo 40 = .ok (.iload_n 2, 1) := by decide +kernel
theorem dX7_undo_41 : decode cX7_undo 41 = .ok (.bipush 9, 2) := by decide +kernel
theorem dX7_undo_43 : decode cX7_undo 43 = .ok (.if_icmp .ge 23, 3) := by decide +kernel
theorem dX7_undo_46 : decode cX7_undo 46 = .ok (.aload_n 0, 1) := by decide +kernel
theorem dX7_undo_47 : decode cX7_undo 47 = .ok (.getfield 20, 3) := by decide +kernel
theorem dX7_undo_50 : decode cX7_undo 50 = .ok (.iload_n 2, 1) := by decide +kernel
theorem dX7_undo_51 : decode cX7_undo 51 = .ok (.aload_n 0, 1) := by decide +kernel
theorem dX7_undo_52 : decode cX7_undo 52 = .ok (.getfield 20, 3) := by decide +kernel
theorem dX7_undo_55 : decode cX7_undo 55 = .ok (.iload_n 1, 1) := by decide +kernel
theorem dX7_undo_56 : decode cX7_undo 56 = .ok (.iload_n 2, 1) := by decide +kernel
theorem dX7_undo_57 : decode cX7_undo 57 = .ok (.iadd, 1) := by decide +kernel
theorem dX7_undo_58 : decode cX7_undo 58 = .ok (.iaload, 1) := by decide +kernel
theorem dX7_undo_59 : decode cX7_undo 59 = .ok (.iastore, 1) := by decide +kernel
theorem dX7_undo_60 : decode cX7_undo 60 = .ok (.iinc 2 1, 3) := by decide +kernel
theorem dX7_undo_63 : decode cX7_undo 63 = .ok (.goto (-23), 3) := by decide +kernel
theorem dX7_undo_66 : decode cX7_undo 66 = .ok (.aload_n 0, 1) := by decide +kernel
theorem dX7_undo_67 : decode cX7_undo 67 = .ok (.getfield 20, 3) := by decide +kernel
theorem dX7_undo_70 : decode cX7_undo 70 = .ok (.bipush 9, 2) := by decide +kernel
theorem dX7_undo_72 : decode cX7_undo 72 = .ok (.iaload, 1) := by decide +kernel
theorem dX7_undo_73 : decode cX7_undo 73 = .ok (.ireturn, 1) := by decide +kernel
set_option maxRecDepth 20000 in
theorem ggX7_calm_X7_isChange : GoodIn wsX7_calm wsX7_isChange := goodIn_r _ [7, 8, 9, 10, 6, 11, 37, 38, 39, 40, 41, 42, 43, 44, 45, 46, 47, 48, 49, 50, 51, 52, 53, 54, 55, 56, 57, 58, 59, 60, 61, 62, 63, 64] (by decide +kernel) (by decide +kernel)
set_option maxRecDepth 20000 in
theorem gX7_calm_X7_isChange : GoodIn wsX7_calm (wsV RX7 145 RX7 yX7_isChange wsX7_isChange) := goodIn_app (goodIn_of _ (by decide +kernel)) ggX7_calm_X7_isChange
set_option maxRecDepth 20000 in
theorem ggX7_calm_X7_mayChange : GoodIn wsX7_calm wsX7_mayChange := goodIn_r _ [15, 8, 16, 17, 18, 6, 19, 37, 38, 39, 40, 41, 42, 43, 44, 45, 46, 47, 48, 49, 50, 51, 52, 53, 54, 55, 56, 57, 58, 59, 60, 61, 62, 63, 64] (by decide +kernel) (by decide +kernel)
set_option maxRecDepth 20000 in
theorem gX7_calm_X7_mayChange : GoodIn wsX7_calm (wsV RX7 148 RX7 yX7_mayChange wsX7_mayChange) := goodIn_app (goodIn_of _ (by decide +kernel)) ggX7_calm_X7_mayChange
set_option maxRecDepth 20000 in
theorem ggX7_calm_X7_asItIs : GoodIn wsX7_calm wsX7_asItIs := goodIn_r _ [23, 2, 1, 37, 38, 39, 40, 41, 42, 43, 44, 45, 46, 47, 48, 49, 50, 51, 52, 53, 54, 55, 56, 57, 58, 59, 60, 61, 62, 63, 64] (by decide +kernel) (by decide +kernel)
set_option maxRecDepth 20000 in
theorem gX7_calm_X7_asItIs : GoodIn wsX7_calm (wsV RX7 162 RX7 yX7_asItIs wsX7_asItIs) := goodIn_app (goodIn_of _ (by decide +kernel)) ggX7_calm_X7_asItIs
set_option maxRecDepth 20000 in
theorem ggX7_calm_X7_changes : GoodIn wsX7_calm wsX7_changes := goodIn_r _ [27, 8, 17, 18, 6, 19, 37, 38, 39, 40, 41, 42, 43, 44, 45, 46, 47, 48, 49, 50, 51, 52, 53, 54, 55, 56, 57, 58, 59, 60, 61, 62, 63, 64] (by decide +kernel) (by decide +kernel)
set_option maxRecDepth 20000 in
theorem gX7_calm_X7_changes : GoodIn wsX7_calm (wsV RX7 155 RX7 yX7_changes wsX7_changes) := goodIn_app (goodIn_of _ (by decide +kernel)) ggX7_calm_X7_changes
set_option maxRecDepth 20000 in
theorem ggX7_calm_X7_likesOf : GoodIn wsX7_calm wsX7_likesOf := goodIn_r _ [31, 8, 32, 33, 37, 38, 39, 40, 41, 42, 43, 44, 45, 46, 47, 48, 49, 50, 51, 52, 53, 54, 55, 56, 57, 58, 59, 60, 61, 62, 63, 64] (by decide +kernel) (by decide +kernel)
set_option maxRecDepth 20000 in
theorem gX7_calm_X7_likesOf : GoodIn wsX7_calm (wsV RX7 165 RX7 yX7_likesOf wsX7_likesOf) := goodIn_app (goodIn_of _ (by decide +kernel)) ggX7_calm_X7_likesOf
