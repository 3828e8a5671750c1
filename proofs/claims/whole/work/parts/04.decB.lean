set_option maxRecDepth 20000 in
theorem ggX6_init_X1_init : GoodIn wsX6_init wsX1_init := goodIn_r _ [31, 32, 2, 3, 27, 33, 70, 71, 72, 73, 74, 75] (by decide +kernel) (by decide +kernel)
set_option maxRecDepth 20000 in
theorem gX6_init_X1_init_n9 : GoodIn wsX6_init (wsX1_init) := ggX6_init_X1_init
set_option maxRecDepth 20000 in
theorem ggX6_init_X4_init : GoodIn wsX6_init wsX4_init := goodIn_r _ [35, 36, 2, 3, 37, 27, 38, 39, 88, 89, 90, 91, 92, 93] (by decide +kernel) (by decide +kernel)
set_option maxRecDepth 20000 in
theorem gX6_init_X4_init_n18 : GoodIn wsX6_init (wsX4_init) := ggX6_init_X4_init
set_option maxRecDepth 20000 in
theorem ggX6_init_X3_init : GoodIn wsX6_init wsX3_init := goodIn_r _ [41, 42, 2, 3, 43, 9, 10, 44, 45, 46, 47, 48, 34, 35, 36, 37, 27, 38, 39, 49, 50, 51, 52, 53, 54, 55, 88, 89, 90, 91, 92, 93, 94, 95, 110, 111, 112, 113, 114] (by decide +kernel) (by decide +kernel)
set_option maxRecDepth 20000 in
theorem gX6_init_X3_init_n25 : GoodIn wsX6_init (wsX3_init) := ggX6_init_X3_init
set_option maxRecDepth 20000 in
theorem ggX6_init_X2_init : GoodIn wsX6_init wsX2_init := goodIn_r _ [58, 59, 2, 3, 27, 60, 61, 62, 63, 64, 65, 96, 97, 98, 99, 100, 101, 102] (by decide +kernel) (by decide +kernel)
set_option maxRecDepth 20000 in
theorem gX6_init_X2_init : GoodIn wsX6_init (wsX2_init) := ggX6_init_X2_init
set_option maxRecDepth 20000 in
theorem ggX6_init_X0_init : GoodIn wsX6_init wsX0_init := goodIn_r _ [67, 68, 2, 3, 27, 69, 103, 104, 105, 106, 107, 108, 109] (by decide +kernel) (by decide +kernel)
set_option maxRecDepth 20000 in
theorem gX6_init_X0_init_n44 : GoodIn wsX6_init (wsX0_init) := ggX6_init_X0_init
theorem dX6_init_0 : decode cX6_init 0 = .ok (.aload_n 0, 1) := by decide +kernel
theorem dX6_init_1 : decode cX6_init 1 = .ok (.invokespecial 1, 3) := by decide +kernel
theorem dX6_init_4 : decode cX6_init 4 = .ok (.aload_n 0, 1) := by decide +kernel
theorem dX6_init_5 : decode cX6_init 5 = .ok (.new 7, 3) := by decide +kernel
theorem dX6_init_8 : decode cX6_init 8 = .ok (.dup, 1) := by decide +kernel
theorem dX6_init_9 : decode cX6_init 9 = .ok (.invokespecial 9, 3) := by decide +kernel
theorem dX6_init_12 : decode cX6_init 12 = .ok (.putfield 10, 3) := by decide +kernel
theorem dX6_init_15 : decode cX6_init 15 = .ok (.aload_n 0, 1) := by decide +kernel
theorem dX6_init_16 : decode cX6_init 16 = .ok (.new 16, 3) := by decide +kernel
theorem dX6_init_19 : decode cX6_init 19 = .ok (.dup, 1) := by decide +kernel
theorem dX6_init_20 : decode cX6_init 20 = .ok (.invokespecial 18, 3) := by decide +kernel
theorem dX6_init_23 : decode cX6_init 23 = .ok (.putfield 19, 3) := by decide +kernel
theorem dX6_init_26 : decode cX6_init 26 = .ok (.aload_n 0, 1) := by decide +kernel
theorem dX6_init_27 : decode cX6_init 27 = .ok (.new 23, 3) := by decide +kernel
theorem dX6_init_30 : decode cX6_init 30 = .ok (.dup, 1) := by decide +kernel
theorem dX6_init_31 : decode cX6_init 31 = .ok (.invokespecial 25, 3) := by decide +kernel
theorem dX6_init_34 : decode cX6_init 34 = .ok (.putfield 26, 3) := by decide +kernel
theorem dX6_init_37 : decode cX6_init 37 = .ok (.aload_n 0, 1) := by decide +kernel
theorem dX6_init_38 : decode cX6_init 38 = .ok (.new 30, 3) := by decide +kernel
theorem dX6_init_41 : decode cX6_init 41 = .ok (.dup, 1) := by decide +kernel
theorem dX6_init_42 : decode cX6_init 42 = .ok (.aload_n 0, 1) := by decide +kernel
theorem dX6_init_43 : decode cX6_init 43 = .ok (.getfield 26, 3) := by decide +kernel
theorem dX6_init_46 : decode cX6_init 46 = .ok (.iconst 0, 1) := by decide +kernel
theorem dX6_init_47 : decode cX6_init 47 = .ok (.invokespecial 32, 3) := by decide +kernel
theorem dX6_init_50 : decode cX6_init 50 = .ok (.putfield 35, 3) := by decide +kernel
theorem dX6_init_53 : decode cX6_init 53 = .ok (.aload_n 0, 1) := by decide +kernel
theorem dX6_init_54 : decode cX6_init 54 = .ok (.new 30, 3) := by decide +kernel
theorem dX6_init_57 : decode cX6_init 57 = .ok (.dup, 1) := by decide +kernel
theorem dX6_init_58 : decode cX6_init 58 = .ok (.aload_n 0, 1) := by decide +kernel
theorem dX6_init_59 : decode cX6_init 59 = .ok (.getfield 26, 3) := by decide +kernel
theorem dX6_init_62 : decode cX6_init 62 = .ok (.iconst 1, 1) := by decide +kernel
theorem dX6_init_63 : decode cX6_init 63 = .ok (.invokespecial 32, 3) := by decide +kernel
theorem dX6_init_66 : decode cX6_init 66 = .ok (.putfield 39, 3) := by decide +kernel
theorem dX6_init_69 : decode cX6_init 69 = .ok (.aload_n 0, 1) := by decide +kernel
theorem dX6_init_70 : decode cX6_init 70 = .ok (.new 42, 3) := by decide +kernel
theorem dX6_init_73 : decode cX6_init 73 = .ok (.dup, 1) := by decide +kernel
theorem dX6_init_74 : decode cX6_init 74 = .ok (.invokespecial 44, 3) := by decide +kernel
theorem dX6_init_77 : decode cX6_init 77 = .ok (.putfield 45, 3) := by decide +kernel
theorem dX6_init_80 : decode cX6_init 80 = .ok (.aload_n 0, 1) := by decide +kernel
theorem dX6_init_81 : decode cX6_init 81 = .ok (.new 42, 3) := by decide +kernel
theorem dX6_init_84 : decode cX6_init 84 = .ok (.dup, 1) := by decide +kernel
theorem dX6_init_85 : decode cX6_init 85 = .ok (.invokespecial 44, 3) := by decide +kernel
theorem dX6_init_88 : decode cX6_init 88 = .ok (.putfield 49, 3) := by decide +kernel
theorem dX6_init_91 : decode cX6_init 91 = .ok (.aload_n 0, 1) := by decide +kernel
theorem dX6_init_92 : decode cX6_init 92 = .ok (.new 42, 3) := by decide +kernel
theorem dX6_init_95 : decode cX6_init 95 = .ok (.dup, 1) := by decide +kernel
theorem dX6_init_96 : decode cX6_init 96 = .ok (.invokespecial 44, 3) := by decide +kernel
theorem dX6_init_99 : decode cX6_init 99 = .ok (.putfield 52, 3) := by decide +kernel
theorem dX6_init_102 : decode cX6_init 102 = .ok (.aload_n 0, 1) := by decide +kernel
theorem dX6_init_103 : decode cX6_init 103 = .ok (.bipush 6, 2) := by decide +kernel
theorem dX6_init_105 : decode cX6_init 105 = .ok (.newarray .int, 2) := by decide +kernel
theorem dX6_init_107 : decode cX6_init 107 = .ok (.putfield 55, 3) := by decide +kernel
theorem dX6_init_110 : decode cX6_init 110 = .ok (.aload_n 0, 1) := by decide +kernel
theorem dX6_init_111 : decode cX6_init 111 = .ok (.bipush 6, 2) := by decide +kernel
theorem dX6_init_113 : decode cX6_init 113 = .ok (.newarray .int, 2) := by decide +kernel
theorem dX6_init_115 : decode cX6_init 115 = .ok (.putfield 59, 3) := by decide +kernel
theorem dX6_init_118 : decode cX6_init 118 = .ok (.return_, 1) := by decide +kernel
set_option maxRecDepth 20000 in
theorem ggX6_type_X1_add : GoodIn wsX6_type wsX1_add := goodIn_r _ [7, 8, 9, 10, 11, 12, 25, 26, 27, 28, 29, 30] (by decide +kernel) (by decide +kernel)
set_option maxRecDepth 20000 in
theorem gX6_type_X1_add : GoodIn wsX6_type (wsV RX6 62 RX1 yX1_add wsX1_add) := goodIn_app (goodIn_of _ (by decide +kernel)) ggX6_type_X1_add
theorem dX6_type_0 : decode cX6_type 0 = .ok (.iload_n 1, 1) := by decide +kernel
theorem dX6_type_1 : decode cX6_type 1 = .ok (.ifCond .lt 10, 3) := by decide +kernel
theorem dX6_type_4 : decode cX6_type 4 = .ok (.iload_n 1, 1) := by decide +kernel
theorem dX6_type_5 : decode cX6_type 5 = .ok (.sipush 255, 3) := by decide +kernel
theorem dX6_type_8 : decode cX6_type 8 = .ok (.if_icmp .le 5, 3) := by decide +kernel
theorem dX6_type_11 : decode cX6_type 11 = .ok (.iconst (-1), 1) := by decide +kernel
theorem dX6_type_12 : decode cX6_type 12 = .ok (.ireturn, 1) := by decide +kernel
theorem dX6_type_13 : decode cX6_type 13 = .ok (.aload_n 0, 1) := by decide +kernel
theorem dX6_type_14 : decode cX6_type 14 = .ok (.getfield 10, 3) := by decide +kernel
theorem dX6_type_17 : decode cX6_type 17 = .ok (.iload_n 1, 1) := by decide +kernel
theorem dX6_type_18 : decode cX6_type 18 = .ok (.invokevirtual 62, 3) := by decide +kernel
theorem dX6_type_21 : decode cX6_type 21 = .ok (.ifCond .eq 13, 3) := by decide +kernel
theorem dX6_type_24 : decode cX6_type 24 = .ok (.aload_n 0, 1) := by decide +kernel
theorem dX6_type_25 : decode cX6_type 25 = .ok (.getfield 10, 3) := by decide +kernel
theorem dX6_type_28 : decode cX6_type 28 = .ok (.getfield 66, 3) := by decide +kernel
theorem dX6_type_31 : decode cX6_type 31 = .ok (.goto 5, 3) := by decide +kernel
theorem dX6_type_34 : decode cX6_type 34 = .ok (.bipush (-3), 2) := by decide +kernel
theorem dX6_type_36 : decode cX6_type 36 = .ok (.ireturn, 1) := by decide +kernel
theorem dX6_clear_0 : decode cX6_clear 0 = .ok (.aload_n 0, 1) := by decide +kernel
theorem dX6_clear_1 : decode cX6_clear 1 = .ok (.getfield 10, 3) := by decide +kernel
theorem dX6_clear_4 : decode cX6_clear 4 = .ok (.getfield 66, 3) := by decide +kernel
theorem dX6_clear_7 : decode cX6_clear 7 = .ok (.istore_n 1, 1) := by decide +kernel
theorem dX6_clear_8 : decode cX6_clear 8 = .ok (.aload_n 0, 1) := by decide +kernel
theorem dX6_clear_9 : decode cX6_clear 9 = .ok (.getfield 10, 3) := by decide +kernel
theorem dX6_clear_12 : decode cX6_clear 12 = .ok (.iconst 0, 1) := by decide +kernel
theorem dX6_clear_13 : decode cX6_clear 13 = .ok (.putfield 66, 3) := by decide +kernel
theorem dX6_clear_16 : decode cX6_clear 16 = .ok (.iload_n 1, 1) := by decide +kernel
theorem dX6_clear_17 : decode cX6_clear 17 = .ok (.ireturn, 1) := by decide +kernel
set_option maxRecDepth 20000 in
theorem ggX6_coast_X1_read : GoodIn wsX6_coast wsX1_read := goodIn_r _ [16, 17, 18, 19, 20, 21, 22, 23, 24, 25, 26, 27, 28, 29, 30, 31, 32, 33, 34, 35, 36, 15, 37, 38, 39, 40, 41, 42, 43, 44, 45, 46, 47, 48, 49, 50, 51, 52, 53, 54, 55, 56, 57, 58, 59, 60, 61, 62, 63, 64, 65, 66, 67, 68, 69, 70, 71, 72, 73, 74, 75, 76, 77, 78, 79, 80, 81, 82, 83, 84, 85, 86, 87, 88, 89, 90, 91, 92, 93, 94, 95, 96, 97, 98, 99, 100, 101, 102, 103, 186, 187, 188, 189, 190, 191, 192, 193, 194, 195, 196, 197] (by decide +kernel) (by decide +kernel)
set_option maxRecDepth 20000 in
theorem gX6_coast_X1_read : GoodIn wsX6_coast (wsV RX6 70 RX1 yX1_read wsX1_read) := goodIn_app (goodIn_of _ (by decide +kernel)) ggX6_coast_X1_read
set_option maxRecDepth 20000 in
theorem ggX6_coast_X3_become : GoodIn wsX6_coast wsX3_become := goodIn_r _ [108, 109, 110, 111, 112, 113, 114, 23, 115, 25, 26, 27, 75, 116, 117, 118, 119, 29, 120, 121, 122, 123, 124, 125, 126, 127, 128, 129, 130, 131, 132, 133, 134, 135, 136, 137, 138, 139, 140, 141, 76, 42, 77, 142, 143, 144, 145, 41, 43, 146, 147, 148, 149, 150, 151, 152, 153, 154, 155, 156, 198, 199, 192, 193, 194, 195, 196, 197, 200, 201, 202, 203, 204] (by decide +kernel) (by decide +kernel)
set_option maxRecDepth 20000 in
theorem gX6_coast_X3_become : GoodIn wsX6_coast (wsV RX6 77 RX3 yX3_become wsX3_become) := goodIn_app (goodIn_of _ (by decide +kernel)) ggX6_coast_X3_become
set_option maxRecDepth 20000 in
theorem ggX6_coast_X2_renew : GoodIn wsX6_coast wsX2_renew := goodIn_r _ [161, 162, 205, 206, 207, 208, 209, 210, 211] (by decide +kernel) (by decide +kernel)
set_option maxRecDepth 20000 in
theorem gX6_coast_X2_renew : GoodIn wsX6_coast (wsV RX6 81 RX2 yX2_renew wsX2_renew) := goodIn_app (goodIn_of _ (by decide +kernel)) ggX6_coast_X2_renew
set_option maxRecDepth 20000 in
theorem ggX6_coast_X0_begin : GoodIn wsX6_coast wsX0_begin := goodIn_r _ [167, 168, 169, 170, 171, 172, 173, 212, 213, 214, 215, 216, 217, 218] (by decide +kernel) (by decide +kernel)
set_option maxRecDepth 20000 in
theorem gX6_coast_X0_begin : GoodIn wsX6_coast (wsV RX6 84 RX0 yX0_begin wsX0_begin) := goodIn_app (goodIn_of _ (by decide +kernel)) ggX6_coast_X0_begin
theorem dX6_coast_0 : decode cX6_coast 0 = .ok (.aload_n 0, 1) := by decide +kernel
theorem dX6_coast_1 : decode cX6_coast 1 = .ok (.getfield 10, 3) := by decide +kernel
theorem dX6_coast_4 : decode cX6_coast 4 = .ok (.aload_n 0, 1) := by decide +kernel
theorem dX6_coast_5 : decode cX6_coast 5 = .ok (.getfield 19, 3) := by decide +kernel
theorem dX6_coast_8 : decode cX6_coast 8 = .ok (.invokevirtual 70, 3) := by decide +kernel
theorem dX6_coast_11 : decode cX6_coast 11 = .ok (.istore_n 1, 1) := by decide +kernel
theorem dX6_coast_12 : decode cX6_coast 12 = .ok (.iload_n 1, 1) := by decide +kernel
theorem dX6_coast_13 : decode cX6_coast 13 = .ok (.bipush (-9), 2) := by decide +kernel
theorem dX6_coast_15 : decode cX6_coast 15 = .ok (.if_icmp .ne 14, 3) := by decide +kernel
theorem dX6_coast_18 : decode cX6_coast 18 = .ok (.bipush (-10), 2) := by decide +kernel
theorem dX6_coast_20 : decode cX6_coast 20 = .ok (.aload_n 0, 1) := by decide +kernel
theorem dX6_coast_21 : decode cX6_coast 21 = .ok (.getfield 10, 3) := by decide +kernel
theorem dX6_coast_24 : decode cX6_coast 24 = .ok (.getfield 74, 3) := by decide +kernel
theorem dX6_coast_27 : decode cX6_coast 27 = .ok (.isub, 1) := by decide +kernel
theorem dX6_coast_28 : decode cX6_coast 28 = .ok (.ireturn, 1) := by decide +kernel
theorem dX6_coast_29 : decode cX6_coast 29 = .ok (.aload_n 0, 1) := by decide +kernel
theorem dX6_coast_30 : decode cX6_coast 30 = .ok (.getfield 10, 3) := by decide +kernel
theorem dX6_coast_33 : decode cX6_coast 33 = .ok (.iconst 0, 1) := by decide +kernel
theorem dX6_coast_34 : decode cX6_coast 34 = .ok (.putfield 66, 3) := by decide +kernel
theorem dX6_coast_37 : decode cX6_coast 37 = .ok (.aload_n 0, 1) := by decide +kernel
theorem dX6_coast_38 : decode cX6_coast 38 = .ok (.getfield 26, 3) := by decide +kernel
theorem dX6_coast_41 : decode cX6_coast 41 = .ok (.aload_n 0, 1) := by decide +kernel
theorem dX6_coast_42 : decode cX6_coast 42 = .ok (.getfield 19, 3) := by decide +kernel
theorem dX6_coast_45 : decode cX6_coast 45 = .ok (.invokevirtual 77, 3) := by decide +kernel
theorem dX6_coast_48 : decode cX6_coast 48 = .ok (.aload_n 0, 1) := by decide +kernel
theorem dX6_coast_49 : decode cX6_coast 49 = .ok (.getfield 35, 3) := by decide +kernel
theorem dX6_coast_52 : decode cX6_coast 52 = .ok (.invokevirtual 81, 3) := by decide +kernel
theorem dX6_coast_55 : decode cX6_coast 55 = .ok (.aload_n 0, 1) := by decide +kernel
theorem dX6_coast_56 : decode cX6_coast 56 = .ok (.getfield 39, 3) := by decide +kernel
theorem dX6_coast_59 : decode cX6_coast 59 = .ok (.invokevirtual 81, 3) := by decide +kernel
theorem dX6_coast_62 : decode cX6_coast 62 = .ok (.aload_n 0, 1) := by decide +kernel
theorem dX6_coast_63 : decode cX6_coast 63 = .ok (.getfield 45, 3) := by decide +kernel
theorem dX6_coast_66 : decode cX6_coast 66 = .ok (.invokevirtual 84, 3) := by decide +kernel
theorem dX6_coast_69 : decode cX6_coast 69 = .ok (.aload_n 0, 1) := by decide +kernel
theorem dX6_coast_70 : decode cX6_coast 70 = .ok (.getfield 49, 3) := by decide +kernel
theorem dX6_coast_73 : decode cX6_coast 73 = .ok (.invokevirtual 84, 3) := by decide +kernel
theorem dX6_coast_76 : decode cX6_coast 76 = .ok (.aload_n 0, 1) := by decide +kernel
theorem dX6_coast_77 : decode cX6_coast 77 = .ok (.getfield 52, 3) := by decide +kernel
theorem dX6_coast_80 : decode cX6_coast 80 = .ok (.invokevirtual 84, 3) := by decide +kernel
theorem dX6_coast_83 : decode cX6_coast 83 = .ok (.aload_n 0, 1) := by decide +kernel
theorem dX6_coast_84 : decode cX6_coast 84 = .ok (.iconst 0, 1) := by decide +kernel
theorem dX6_coast_85 : decode cX6_coast 85 = .ok (.putfield 87, 3) := by decide +kernel
theorem dX6_coast_88 : decode cX6_coast 88 = .ok (.iload_n 1, 1) := by decide +kernel
theorem dX6_coast_89 : decode cX6_coast 89 = .ok (.ireturn, 1) := by decide +kernel
set_option maxRecDepth 20000 in
theorem ggX6_keeper_X6_isKeeper : GoodIn wsX6_keeper wsX6_isKeeper := goodIn_r _ [10, 1, 2, 11, 47, 48, 49, 50, 51, 52, 53, 54, 55, 56, 57, 58, 59, 60, 68, 69, 70, 71, 72, 73] (by decide +kernel) (by decide +kernel)
set_option maxRecDepth 20000 in
theorem gX6_keeper_X6_isKeeper : GoodIn wsX6_keeper (wsV RX6 90 RX6 yX6_isKeeper wsX6_isKeeper) := goodIn_app (goodIn_of _ (by decide +kernel)) ggX6_keeper_X6_isKeeper
set_option maxRecDepth 20000 in
theorem ggX6_keeper_X4_flashOf : GoodIn wsX6_keeper wsX4_flashOf := goodIn_r _ [16, 17, 68, 69, 70, 71, 72, 73] (by decide +kernel) (by decide +kernel)
set_option maxRecDepth 20000 in
theorem gX6_keeper_X4_flashOf : GoodIn wsX6_keeper (wsV RX6 96 RX4 yX4_flashOf wsX4_flashOf) := goodIn_app (goodIn_of _ (by decide +kernel)) ggX6_keeper_X4_flashOf
set_option maxRecDepth 20000 in
theorem ggX6_keeper_X5_rockOf : GoodIn wsX6_keeper wsX5_rockOf := goodIn_r _ [22, 23, 24, 25, 26, 21, 27, 28, 74, 75, 76, 77, 78] (by decide +kernel) (by decide +kernel)
set_option maxRecDepth 20000 in
theorem gX6_keeper_X5_rockOf : GoodIn wsX6_keeper (wsV RX6 107 RX5 yX5_rockOf wsX5_rockOf) := goodIn_app (goodIn_of _ (by decide +kernel)) ggX6_keeper_X5_rockOf
set_option maxRecDepth 20000 in
theorem ggX6_keeper_X6_driftOf : GoodIn wsX6_keeper wsX6_driftOf := goodIn_r _ [32, 1, 3, 4, 5, 33, 34, 35, 36, 18, 19, 20, 21, 22, 23, 24, 25, 26, 27, 28, 47, 48, 49, 50, 51, 52, 53, 54, 55, 56, 57, 58, 59, 60, 61, 62, 63, 64, 65, 66, 67, 74, 75, 76, 77, 78] (by decide +kernel) (by decide +kernel)
set_option maxRecDepth 20000 in
theorem gX6_keeper_X6_driftOf : GoodIn wsX6_keeper (wsV RX6 113 RX6 yX6_driftOf wsX6_driftOf) := goodIn_app (goodIn_of _ (by decide +kernel)) ggX6_keeper_X6_driftOf
set_option maxRecDepth 20000 in
theorem ggX6_keeper_X6_isOut : GoodIn wsX6_keeper wsX6_isOut := goodIn_r _ [40, 4, 41, 47, 48, 49, 50, 51, 52, 53, 54, 55, 56, 57, 58, 61, 62, 63, 64, 65, 66, 67] (by decide +kernel) (by decide +kernel)
set_option maxRecDepth 20000 in
theorem gX6_keeper_X6_isOut : GoodIn wsX6_keeper (wsV RX6 116 RX6 yX6_isOut wsX6_isOut) := goodIn_app (goodIn_of _ (by decide +kernel)) ggX6_keeper_X6_isOut
set_option maxRecDepth 20000 in
theorem ggX6_keeper_X4_hatersOf : GoodIn wsX6_keeper wsX4_hatersOf := goodIn_r _ [45, 46, 68, 69, 70, 71, 72, 73] (by decide +kernel) (by decide +kernel)
set_option maxRecDepth 20000 in
theorem gX6_keeper_X4_hatersOf : GoodIn wsX6_keeper (wsV RX6 119 RX4 yX4_hatersOf wsX4_hatersOf) := goodIn_app (goodIn_of _ (by decide +kernel)) ggX6_keeper_X4_hatersOf
theorem dX6_keeper_0 : decode cX6_keeper 0 = .ok (.aload_n 0, 1) := by decide +kernel
theorem dX6_keeper_1 : decode cX6_keeper 1 = .ok (.iload_n 1, 1) := by decide +kernel
theorem dX6_keeper_2 : decode cX6_keeper 2 = .ok (.invokevirtual 90, 3) := by decide +kernel
theorem dX6_keeper_5 : decode cX6_keeper 5 = .ok (.ifCond .ne 5, 3) := by decide +kernel
theorem dX6_keeper_8 : decode cX6_keeper 8 = .ok (.iconst (-1), 1) := by decide +kernel
theorem dX6_keeper_9 : decode cX6_keeper 9 = .ok (.ireturn, 1) := by decide +kernel
theorem dX6_keeper_10 : decode cX6_keeper 10 = .ok (.iload_n 2, 1) := by decide +kernel
theorem dX6_keeper_11 : decode cX6_keeper 11 = .ok (.tableswitch 96 0 4 #[33, 45, 64, 70, 84], 33) := by decide +kernel
theorem dX6_keeper_44 : decode cX6_keeper 44 = .ok (.aload_n 0, 1) := by decide +kernel
theorem dX6_keeper_45 : decode cX6_keeper 45 = .ok (.getfield 26, 3) := by decide +kernel
theorem dX6_keeper_48 : decode cX6_keeper 48 = .ok (.getfield 93, 3) := by decide +kernel
theorem dX6_keeper_51 : decode cX6_keeper 51 = .ok (.iload_n 1, 1) := by decide +kernel
theorem dX6_keeper_52 : decode cX6_keeper 52 = .ok (.invokevirtual 96, 3) := by decide +kernel
theorem dX6_keeper_55 : decode cX6_keeper 55 = .ok (.ireturn, 1) := by decide +kernel
theorem dX6_keeper_56 : decode cX6_keeper 56 = .ok (.aload_n 0, 1) := by decide +kernel
theorem dX6_keeper_57 : decode cX6_keeper 57 = .ok (.getfield 26, 3) := by decide +kernel
theorem dX6_keeper_60 : decode cX6_keeper 60 = .ok (.getfield 100, 3) := by decide +kernel
theorem dX6_keeper_63 : decode cX6_keeper 63 = .ok (.aload_n 0, 1) := by decide +kernel
theorem dX6_keeper_64 : decode cX6_keeper 64 = .ok (.getfield 45, 3) := by decide +kernel
theorem dX6_keeper_67 : decode cX6_keeper 67 = .ok (.getfield 104, 3) := by decide +kernel
theorem dX6_keeper_70 : decode cX6_keeper 70 = .ok (.iload_n 1, 1) := by decide +kernel
theorem dX6_keeper_71 : decode cX6_keeper 71 = .ok (.invokevirtual 107, 3) := by decide +kernel
theorem dX6_keeper_74 : decode cX6_keeper 74 = .ok (.ireturn, 1) := by decide +kernel
theorem dX6_keeper_75 : decode cX6_keeper 75 = .ok (.aload_n 0, 1) := by decide +kernel
theorem dX6_keeper_76 : decode cX6_keeper 76 = .ok (.iload_n 1, 1) := by decide +kernel
theorem dX6_keeper_77 : decode cX6_keeper 77 = .ok (.invokevirtual 113, 3) := by decide +kernel
theorem dX6_keeper_80 : decode cX6_keeper 80 = .ok (.ireturn, 1) := by decide +kernel
theorem dX6_keeper_81 : decode cX6_keeper 81 = .ok (.aload_n 0, 1) := by decide +kernel
theorem dX6_keeper_82 : decode cX6_keeper 82 = .ok (.iload_n 1, 1) := by decide +kernel
theorem dX6_keeper_83 : decode cX6_keeper 83 = .ok (.invokevirtual 116, 3) := by decide +kernel
theorem dX6_keeper_86 : decode cX6_keeper 86 = .ok (.ifCond .eq 7, 3) := by decide +kernel
theorem dX6_keeper_89 : decode cX6_keeper 89 = .ok (.iconst 1, 1) := by decide +kernel
theorem dX6_keeper_90 : decode cX6_keeper 90 = .ok (.goto 4, 3) := by decide +kernel
theorem dX6_keeper_93 : decode cX6_keeper 93 = .ok (.iconst 0, 1) := by decide +kernel
theorem dX6_keeper_94 : decode cX6_keeper 94 = .ok (.ireturn, 1) := by decide +kernel
theorem dX6_keeper_95 : decode cX6_keeper 95 = .ok (.aload_n 0, 1) := by decide +kernel
theorem dX6_keeper_96 : decode cX6_keeper 96 = .ok (.getfield 26, 3) := by decide +kernel
theorem dX6_keeper_99 : decode cX6_keeper 99 = .ok (.getfield 93, 3) := by decide +kernel
theorem dX6_keeper_102 : decode cX6_keeper 102 = .ok (.iload_n 1, 1) := by decide +kernel
theorem dX6_keeper_103 : decode cX6_keeper 103 = .ok (.invokevirtual 119, 3) := by decide +kernel
theorem dX6_keeper_106 : decode cX6_keeper 106 = .ok (.ireturn, 1) := by decide +kernel
theorem dX6_keeper_107 : decode cX6_keeper 107 = .ok (.iconst (-1), 1) := by decide +kernel
theorem dX6_keeper_108 : decode cX6_keeper 108 = .ok (.ireturn, 1) := by decide +kernel
set_option maxRecDepth 20000 in
theorem ggX6_rock_X6_isRock : GoodIn wsX6_rock wsX6_isRock := goodIn_r _ [9, 10, 11, 12, 8, 13, 1, 14, 15, 22, 23, 24, 25, 26, 27, 28, 29, 30, 31, 32, 33, 34, 35, 43, 44, 45, 46, 47, 48] (by decide +kernel) (by decide +kernel)
set_option maxRecDepth 20000 in
theorem gX6_rock_X6_isRock : GoodIn wsX6_rock (wsV RX6 122 RX6 yX6_isRock wsX6_isRock) := goodIn_app (goodIn_of _ (by decide +kernel)) ggX6_rock_X6_isRock
set_option maxRecDepth 20000 in
theorem ggX6_rock_X5_who : GoodIn wsX6_rock wsX5_who := goodIn_r _ [20, 21, 49, 50, 51, 52, 53] (by decide +kernel) (by decide +kernel)
set_option maxRecDepth 20000 in
theorem gX6_rock_X5_who : GoodIn wsX6_rock (wsV RX6 125 RX5 yX5_who wsX5_who) := goodIn_app (goodIn_of _ (by decide +kernel)) ggX6_rock_X5_who
theorem dX6_rock_0 : decode cX6_rock 0 = .ok (.aload_n 0, 1) := by decide +kernel
theorem dX6_rock_1 : decode cX6_rock 1 = .ok (.iload_n 1, 1) := by decide +kernel
theorem dX6_rock_2 : decode cX6_rock 2 = .ok (.invokevirtual 122, 3) := by decide +kernel
theorem dX6_rock_5 : decode cX6_rock 5 = .ok (.ifCond .eq 24, 3) := by decide +kernel
theorem dX6_rock_8 : decode cX6_rock 8 = .ok (.aload_n 0, 1) := by decide +kernel
theorem dX6_rock_9 : decode cX6_rock 9 = .ok (.getfield 26, 3) := by decide +kernel
theorem dX6_rock_12 : decode cX6_rock 12 = .ok (.getfield 100, 3) := by decide +kernel
theorem dX6_rock_15 : decode cX6_rock 15 = .ok (.aload_n 0, 1) := by decide +kernel
theorem dX6_rock_16 : decode cX6_rock 16 = .ok (.getfield 45, 3) := by decide +kernel
theorem dX6_rock_19 : decode cX6_rock 19 = .ok (.getfield 104, 3) := by decide +kernel
theorem dX6_rock_22 : decode cX6_rock 22 = .ok (.iload_n 1, 1) := by decide +kernel
theorem dX6_rock_23 : decode cX6_rock 23 = .ok (.invokevirtual 125, 3) := by decide +kernel
theorem dX6_rock_26 : decode cX6_rock 26 = .ok (.goto 4, 3) := by decide +kernel
theorem dX6_rock_29 : decode cX6_rock 29 = .ok (.iconst (-1), 1) := by decide +kernel
theorem dX6_rock_30 : decode cX6_rock 30 = .ok (.ireturn, 1) := by decide +kernel
set_option maxRecDepth 20000 in
theorem ggX6_moon_X3_changes : GoodIn wsX6_moon wsX3_changes := goodIn_r _ [10, 11, 12, 102, 103, 104, 105, 106, 107, 108, 109] (by decide +kernel) (by decide +kernel)
set_option maxRecDepth 20000 in
theorem gX6_moon_X3_changes : GoodIn wsX6_moon (wsV RX6 128 RX3 yX3_changes wsX3_changes) := goodIn_app (goodIn_of _ (by decide +kernel)) ggX6_moon_X3_changes
set_option maxRecDepth 20000 in
theorem ggX6_moon_X3_willing : GoodIn wsX6_moon wsX3_willing := goodIn_r _ [16, 11, 12, 17, 18, 19, 20, 21, 22, 23, 24, 25, 26, 27, 28, 29, 102, 103, 104, 105, 106, 107, 108, 109, 110, 111, 112, 113, 114] (by decide +kernel) (by decide +kernel)
set_option maxRecDepth 20000 in
theorem gX6_moon_X3_willing : GoodIn wsX6_moon (wsV RX6 135 RX3 yX3_willing wsX3_willing) := goodIn_app (goodIn_of _ (by decide +kernel)) ggX6_moon_X3_willing
set_option maxRecDepth 20000 in
theorem ggX6_moon_X3_allows : GoodIn wsX6_moon wsX3_allows := goodIn_r _ [32] (by decide +kernel) (by decide +kernel)
set_option maxRecDepth 20000 in
theorem gX6_moon_X3_allows : GoodIn wsX6_moon (va_wsS RX6 138 yX3_allows wsX3_allows) := goodIn_app (goodIn_of _ (by decide +kernel)) ggX6_moon_X3_allows
set_option maxRecDepth 20000 in
theorem ggX6_moon_X0_remember : GoodIn wsX6_moon wsX0_remember := goodIn_r _ [37, 38, 39, 40, 41, 42, 43, 44, 45, 46, 47, 48, 49, 50, 95, 96, 97, 98, 99, 100, 101] (by decide +kernel) (by decide +kernel)
set_option maxRecDepth 20000 in
theorem gX6_moon_X0_remember : GoodIn wsX6_moon (wsV RX6 142 RX0 yX0_remember wsX0_remember) := goodIn_app (goodIn_of _ (by decide +kernel)) ggX6_moon_X0_remember
set_option maxRecDepth 20000 in
theorem ggX6_moon_X3_after : GoodIn wsX6_moon wsX3_after := goodIn_r _ [54, 17, 55, 56, 57, 21, 58, 59, 102, 103, 110, 111, 112, 113, 114] (by decide +kernel) (by decide +kernel)
set_option maxRecDepth 20000 in
theorem gX6_moon_X3_after : GoodIn wsX6_moon (wsV RX6 145 RX3 yX3_after wsX3_after) := goodIn_app (goodIn_of _ (by decide +kernel)) ggX6_moon_X3_after
set_option maxRecDepth 20000 in
theorem ggX6_moon_X6_flashesNotOut : GoodIn wsX6_moon wsX6_flashesNotOut := goodIn_r _ [63, 1, 64, 65, 66, 67, 68, 49, 69, 2, 70, 71, 72, 73, 27, 74, 75, 83, 84, 85, 86, 87, 88, 89, 90, 91, 92, 93, 94, 102, 103, 104, 105, 106, 107, 108, 109, 95, 96, 97, 98, 99, 100, 101] (by decide +kernel) (by decide +kernel)
set_option maxRecDepth 20000 in
theorem gX6_moon_X6_flashesNotOut : GoodIn wsX6_moon (wsV RX6 151 RX6 yX6_flashesNotOut wsX6_flashesNotOut) := goodIn_app (goodIn_of _ (by decide +kernel)) ggX6_moon_X6_flashesNotOut
set_option maxRecDepth 20000 in
theorem ggX6_moon_J6_bitCount_0f7a4 : GoodIn wsX6_moon wsJ6_bitCount_0f7a4 := goodIn_r _ [79, 80, 81, 82] (by decide +kernel) (by decide +kernel)
set_option maxRecDepth 20000 in
theorem gX6_moon_J6_bitCount_0f7a4 : GoodIn wsX6_moon (va_wsS RX6 154 yJ6_bitCount_0f7a4 wsJ6_bitCount_0f7a4) := goodIn_app (goodIn_of _ (by decide +kernel)) ggX6_moon_J6_bitCount_0f7a4
theorem dX6_moon_0 : decode cX6_moon 0 = .ok (.iload_n 1, 1) := by decide +kernel
theorem dX6_moon_1 : decode cX6_moon 1 = .ok (.ifCond .lt 14, 3) := by decide +kernel
theorem dX6_moon_4 : decode cX6_moon 4 = .ok (.iload_n 1, 1) := by decide +kernel
theorem dX6_moon_5 : decode cX6_moon 5 = .ok (.aload_n 0, 1) := by decide +kernel
theorem dX6_moon_6 : decode cX6_moon 6 = .ok (.getfield 26, 3) := by decide +kernel
theorem dX6_moon_9 : decode cX6_moon 9 = .ok (.invokevirtual 128, 3) := by decide +kernel
theorem dX6_moon_12 : decode cX6_moon 12 = .ok (.if_icmp .lt 5, 3) := by decide +kernel
theorem dX6_moon_15 : decode cX6_moon 15 = .ok (.iconst (-1), 1) := by decide +kernel
theorem dX6_moon_16 : decode cX6_moon 16 = .ok (.ireturn, 1) := by decide +kernel
theorem dX6_moon_17 : decode cX6_moon 17 = .ok (.aload_n 0, 1) := by decide +kernel
theorem dX6_moon_18 : decode cX6_moon 18 = .ok (.getfield 45, 3) := by decide +kernel
theorem dX6_moon_21 : decode cX6_moon 21 = .ok (.getfield 132, 3) := by decide +kernel
theorem dX6_moon_24 : decode cX6_moon 24 = .ok (.bipush 99, 2) := by decide +kernel
theorem dX6_moon_26 : decode cX6_moon 26 = .ok (.if_icmp .ge 24, 3) := by decide +kernel
theorem dX6_moon_29 : decode cX6_moon 29 = .ok (.aload_n 0, 1) := by decide +kernel
theorem dX6_moon_30 : decode cX6_moon 30 = .ok (.getfield 26, 3) := by decide +kernel
theorem dX6_moon_33 : decode cX6_moon 33 = .ok (.aload_n 0, 1) := by decide +kernel
theorem dX6_moon_34 : decode cX6_moon 34 = .ok (.getfield 45, 3) := by decide +kernel
theorem dX6_moon_37 : decode cX6_moon 37 = .ok (.getfield 104, 3) := by decide +kernel
theorem dX6_moon_40 : decode cX6_moon 40 = .ok (.invokevirtual 135, 3) := by decide +kernel
theorem dX6_moon_43 : decode cX6_moon 43 = .ok (.iload_n 1, 1) := by decide +kernel
theorem dX6_moon_44 : decode cX6_moon 44 = .ok (.invokestatic 138, 3) := by decide +kernel
theorem dX6_moon_47 : decode cX6_moon 47 = .ok (.ifCond .ne 6, 3) := by decide +kernel
theorem dX6_moon_50 : decode cX6_moon 50 = .ok (.bipush (-2), 2) := by decide +kernel
theorem dX6_moon_52 : decode cX6_moon 52 = .ok (.ireturn, 1) := by decide +kernel
theorem dX6_moon_53 : decode cX6_moon 53 = .ok (.aload_n 0, 1) := by decide +kernel
theorem dX6_moon_54 : decode cX6_moon 54 = .ok (.getfield 45, 3) := by decide +kernel
theorem dX6_moon_57 : decode cX6_moon 57 = .ok (.invokevirtual 142, 3) := by decide +kernel
theorem dX6_moon_60 : decode cX6_moon 60 = .ok (.aload_n 0, 1) := by decide +kernel
theorem dX6_moon_61 : decode cX6_moon 61 = .ok (.getfield 45, 3) := by decide +kernel
theorem dX6_moon_64 : decode cX6_moon 64 = .ok (.aload_n 0, 1) := by decide +kernel
theorem dX6_moon_65 : decode cX6_moon 65 = .ok (.getfield 26, 3) := by decide +kernel
theorem dX6_moon_68 : decode cX6_moon 68 = .ok (.aload_n 0, 1) := by decide +kernel
theorem dX6_moon_69 : decode cX6_moon 69 = .ok (.getfield 45, 3) := by decide +kernel
theorem dX6_moon_72 : decode cX6_moon 72 = .ok (.getfield 104, 3) := by decide +kernel
theorem dX6_moon_75 : decode cX6_moon 75 = .ok (.iload_n 1, 1) := by decide +kernel
theorem dX6_moon_76 : decode cX6_moon 76 = .ok (.invokevirtual 145, 3) := by decide +kernel
theorem dX6_moon_79 : decode cX6_moon 79 = .ok (.putfield 104, 3) := by decide +kernel
theorem dX6_moon_82 : decode cX6_moon 82 = .ok (.aload_n 0, 1) := by decide +kernel
theorem dX6_moon_83 : decode cX6_moon 83 = .ok (.getfield 45, 3) := by decide +kernel
theorem dX6_moon_86 : decode cX6_moon 86 = .ok (.dup, 1) := by decide +kernel
theorem dX6_moon_87 : decode cX6_moon 87 = .ok (.getfield 132, 3) := by decide +kernel
theorem dX6_moon_90 : decode cX6_moon 90 = .ok (.iconst 1, 1) := by decide +kernel
theorem dX6_moon_91 : decode cX6_moon 91 = .ok (.iadd, 1) := by decide +kernel
theorem dX6_moon_92 : decode cX6_moon 92 = .ok (.putfield 132, 3) := by decide +kernel
theorem dX6_moon_95 : decode cX6_moon 95 = .ok (.aload_n 0, 1) := by decide +kernel
theorem dX6_moon_96 : decode cX6_moon 96 = .ok (.getfield 45, 3) := by decide +kernel
theorem dX6_moon_99 : decode cX6_moon 99 = .ok (.dup, 1) := by decide +kernel
theorem dX6_moon_100 : decode cX6_moon 100 = .ok (.getfield 148, 3) := by decide +kernel
theorem dX6_moon_103 : decode cX6_moon 103 = .ok (.aload_n 0, 1) := by decide +kernel
theorem dX6_moon_104 : decode cX6_moon 104 = .ok (.invokevirtual 151, 3) := by decide +kernel
theorem dX6_moon_107 : decode cX6_moon 107 = .ok (.iadd, 1) := by decide +kernel
theorem dX6_moon_108 : decode cX6_moon 108 = .ok (.putfield 148, 3) := by decide +kernel
theorem dX6_moon_111 : decode cX6_moon 111 = .ok (.iconst 2, 1) := by decide +kernel
theorem dX6_moon_112 : decode cX6_moon 112 = .ok (.iload_n 1, 1) := by decide +kernel
theorem dX6_moon_113 : decode cX6_moon 113 = .ok (.invokestatic 154, 3) := by decide +kernel
theorem dX6_moon_116 : decode cX6_moon 116 = .ok (.imul, 1) := by decide +kernel
theorem dX6_moon_117 : decode cX6_moon 117 = .ok (.ireturn, 1) := by decide +kernel
set_option maxRecDepth 20000 in
theorem ggX6_puts_X6_isKeeper : GoodIn wsX6_puts wsX6_isKeeper := goodIn_r _ [7, 8, 9, 10, 42, 43, 44, 45, 46, 47, 48, 49, 50, 51, 52, 53, 61, 62, 63, 64, 65, 66, 67, 68] (by decide +kernel) (by decide +kernel)
set_option maxRecDepth 20000 in
theorem gX6_puts_X6_isKeeper : GoodIn wsX6_puts (wsV RX6 90 RX6 yX6_isKeeper wsX6_isKeeper) := goodIn_app (goodIn_of _ (by decide +kernel)) ggX6_puts_X6_isKeeper
set_option maxRecDepth 20000 in
theorem ggX6_puts_X6_isZeroOrOne : GoodIn wsX6_puts wsX6_isZeroOrOne := goodIn_r _ [13] (by decide +kernel) (by decide +kernel)
set_option maxRecDepth 20000 in
theorem gX6_puts_X6_isZeroOrOne : GoodIn wsX6_puts (va_wsS RX6 159 yX6_isZeroOrOne wsX6_isZeroOrOne) := goodIn_app (goodIn_of _ (by decide +kernel)) ggX6_puts_X6_isZeroOrOne
set_option maxRecDepth 20000 in
theorem ggX6_puts_X6_isOut : GoodIn wsX6_puts wsX6_isOut := goodIn_r _ [17, 1, 2, 42, 43, 44, 45, 46, 47, 48, 49, 50, 51, 52, 53, 54, 55, 56, 57, 58, 59, 60] (by decide +kernel) (by decide +kernel)
set_option maxRecDepth 20000 in
theorem gX6_puts_X6_isOut : GoodIn wsX6_puts (wsV RX6 116 RX6 yX6_isOut wsX6_isOut) := goodIn_app (goodIn_of _ (by decide +kernel)) ggX6_puts_X6_isOut
set_option maxRecDepth 20000 in
theorem ggX6_puts_X0_remember : GoodIn wsX6_puts wsX0_remember := goodIn_r _ [22, 23, 24, 25, 26, 27, 28, 29, 30, 31, 32, 33, 6, 34, 54, 55, 56, 57, 58, 59, 60] (by decide +kernel) (by decide +kernel)
set_option maxRecDepth 20000 in
theorem gX6_puts_X0_remember : GoodIn wsX6_puts (wsV RX6 142 RX0 yX0_remember wsX0_remember) := goodIn_app (goodIn_of _ (by decide +kernel)) ggX6_puts_X0_remember
set_option maxRecDepth 20000 in
theorem ggX6_puts_J6_bitCount_0f7a4 : GoodIn wsX6_puts wsJ6_bitCount_0f7a4 := goodIn_r _ [38, 39, 40, 41] (by decide +kernel) (by decide +kernel)
set_option maxRecDepth 20000 in
theorem gX6_puts_J6_bitCount_0f7a4 : GoodIn wsX6_puts (va_wsS RX6 154 yJ6_bitCount_0f7a4 wsJ6_bitCount_0f7a4) := goodIn_app (goodIn_of _ (by decide +kernel)) ggX6_puts_J6_bitCount_0f7a4
theorem dX6_puts_0 : decode cX6_puts 0 = .ok (.aload_n 0, 1) := by decide +kernel
theorem dX6_puts_1 : decode cX6_puts 1 = .ok (.iload_n 1, 1) := by decide +kernel
theorem dX6_puts_2 : decode cX6_puts 2 = .ok (.invokevirtual 90, 3) := by decide +kernel
theorem dX6_puts_5 : decode cX6_puts 5 = .ok (.ifCond .eq 10, 3) := by decide +kernel
theorem dX6_puts_8 : decode cX6_puts 8 = .ok (.iload_n 2, 1) := by decide +kernel
theorem dX6_puts_9 : decode cX6_puts 9 = .ok (.invokestatic 159, 3) := by decide +kernel
theorem dX6_puts_12 : decode cX6_puts 12 = .ok (.ifCond .ne 5, 3) := by decide +kernel
theorem dX6_puts_15 : decode cX6_puts 15 = .ok (.iconst (-1), 1) := by decide +kernel
theorem dX6_puts_16 : decode cX6_puts 16 = .ok (.ireturn, 1) := by decide +kernel
theorem dX6_puts_17 : decode cX6_puts 17 = .ok (.aload_n 0, 1) := by decide +kernel
theorem dX6_puts_18 : decode cX6_puts 18 = .ok (.iload_n 1, 1) := by decide +kernel
theorem dX6_puts_19 : decode cX6_puts 19 = .ok (.invokevirtual 116, 3) := by decide +kernel
theorem dX6_puts_22 : decode cX6_puts 22 = .ok (.iload_n 2, 1) := by decide +kernel
theorem dX6_puts_23 : decode cX6_puts 23 = .ok (.iconst 1, 1) := by decide +kernel
theorem dX6_puts_24 : decode cX6_puts 24 = .ok (.if_icmp .ne 7, 3) := by decide +kernel
theorem dX6_puts_27 : decode cX6_puts 27 = .ok (.iconst 1, 1) := by decide +kernel
theorem dX6_puts_28 : decode cX6_puts 28 = .ok (.goto 4, 3) := by decide +kernel
theorem dX6_puts_31 : decode cX6_puts 31 = .ok (.iconst 0, 1) := by decide +kernel
theorem dX6_puts_32 : decode cX6_puts 32 = .ok (.if_icmp .ne 6, 3) := by decide +kernel
theorem dX6_puts_35 : decode cX6_puts 35 = .ok (.bipush (-2), 2) := by decide +kernel
theorem dX6_puts_37 : decode cX6_puts 37 = .ok (.ireturn, 1) := by decide +kernel
theorem dX6_puts_38 : decode cX6_puts 38 = .ok (.aload_n 0, 1) := by decide +kernel
theorem dX6_puts_39 : decode cX6_puts 39 = .ok (.getfield 45, 3) := by decide +kernel
theorem dX6_puts_42 : decode cX6_puts 42 = .ok (.invokevirtual 142, 3) := by decide +kernel
theorem dX6_puts_45 : decode cX6_puts 45 = .ok (.aload_n 0, 1) := by decide +kernel
theorem dX6_puts_46 : decode cX6_puts 46 = .ok (.getfield 45, 3) := by decide +kernel
theorem dX6_puts_49 : decode cX6_puts 49 = .ok (.dup, 1) := by decide +kernel
theorem dX6_puts_50 : decode cX6_puts 50 = .ok (.getfield 162, 3) := by decide +kernel
theorem dX6_puts_53 : decode cX6_puts 53 = .ok (.iconst 1, 1) := by decide +kernel
theorem dX6_puts_54 : decode cX6_puts 54 = .ok (.iload_n 1, 1) := by decide +kernel
theorem dX6_puts_55 : decode cX6_puts 55 = .ok (.ishl, 1) := by decide +kernel
theorem dX6_puts_56 : decode cX6_puts 56 = .ok (.ixor, 1) := by decide +kernel
theorem dX6_puts_57 : decode cX6_puts 57 = .ok (.putfield 162, 3) := by decide +kernel
theorem dX6_puts_60 : decode cX6_puts 60 = .ok (.aload_n 0, 1) := by decide +kernel
theorem dX6_puts_61 : decode cX6_puts 61 = .ok (.getfield 45, 3) := by decide +kernel
theorem dX6_puts_64 : decode cX6_puts 64 = .ok (.getfield 162, 3) := by decide +kernel
theorem dX6_puts_67 : decode cX6_puts 67 = .ok (.invokestatic 154, 3) := by decide +kernel
theorem dX6_puts_70 : decode cX6_puts 70 = .ok (.ireturn, 1) := by decide +kernel
set_option maxRecDepth 20000 in
theorem ggX6_undo_X0_recall : GoodIn wsX6_undo wsX0_recall := goodIn_r _ [7, 8, 9, 10, 11, 12, 13, 14, 15, 16, 29, 30, 31, 32, 33, 34, 35] (by decide +kernel) (by decide +kernel)
set_option maxRecDepth 20000 in
theorem gX6_undo_X0_recall : GoodIn wsX6_undo (wsV RX6 165 RX0 yX0_recall wsX0_recall) := goodIn_app (goodIn_of _ (by decide +kernel)) ggX6_undo_X0_recall
theorem dX6_undo_0 : decode cX6_undo 0 = .ok (.aload_n 0, 1) := by decide +kernel
theorem dX6_undo_1 : decode cX6_undo 1 = .ok (.getfield 45, 3) := by decide +kernel
theorem dX6_undo_4 : decode cX6_undo 4 = .ok (.invokevirtual 165, 3) := by decide +kernel
theorem dX6_undo_7 : decode cX6_undo 7 = .ok (.ifCond .eq 13, 3) := by decide +kernel
theorem dX6_undo_10 : decode cX6_undo 10 = .ok (.aload_n 0, 1) := by decide +kernel
theorem dX6_undo_11 : decode cX6_undo 11 = .ok (.getfield 45, 3) := by decide +kernel
theorem dX6_undo_14 : decode cX6_undo 14 = .ok (.getfield 169, 3) := by decide +kernel
theorem dX6_undo_17 : decode cX6_undo 17 = .ok (.goto 5, 3) := by decide +kernel
theorem dX6_undo_20 : decode cX6_undo 20 = .ok (.bipush (-2), 2) := by decide +kernel
theorem dX6_undo_22 : decode cX6_undo 22 = .ok (.ireturn, 1) := by decide +kernel
set_option maxRecDepth 20000 in
theorem ggX6_now_X3_likes : GoodIn wsX6_now wsX3_likes := goodIn_r _ [11, 12, 13, 14, 15, 16, 17, 18, 19, 20, 21, 10, 22, 23, 24, 25, 26, 27, 28, 29, 30, 31, 32, 33, 34, 35, 113, 114, 115, 116, 117, 118, 119, 120, 121, 122, 123, 124, 125] (by decide +kernel) (by decide +kernel)
set_option maxRecDepth 20000 in
theorem gX6_now_X3_likes : GoodIn wsX6_now (wsV RX6 172 RX3 yX3_likes wsX3_likes) := goodIn_app (goodIn_of _ (by decide +kernel)) ggX6_now_X3_likes
set_option maxRecDepth 20000 in
theorem ggX6_now_X6_drifts : GoodIn wsX6_now wsX6_drifts := goodIn_r _ [40, 5, 41, 42, 43, 44, 45, 39, 46, 47, 1, 6, 48, 49, 17, 50, 51, 52, 53, 27, 54, 55, 56, 25, 26, 28, 29, 94, 95, 96, 97, 98, 99, 100, 101, 102, 103, 104, 105, 113, 114, 115, 116, 117, 118, 119, 120, 106, 107, 108, 109, 110, 111, 112, 121, 122, 123, 124, 125] (by decide +kernel) (by decide +kernel)
set_option maxRecDepth 20000 in
theorem gX6_now_X6_drifts : GoodIn wsX6_now (wsV RX6 175 RX6 yX6_drifts wsX6_drifts) := goodIn_app (goodIn_of _ (by decide +kernel)) ggX6_now_X6_drifts
set_option maxRecDepth 20000 in
theorem ggX6_now_X3_calmest : GoodIn wsX6_now wsX3_calmest := goodIn_r _ [60, 61, 62, 63, 10, 64, 12, 13, 23, 24, 25, 26, 27, 28, 29, 65, 66, 67, 33, 68, 69, 70, 8, 9, 11, 14, 15, 16, 17, 18, 19, 20, 21, 22, 30, 31, 32, 34, 35, 71, 72, 73, 74, 75, 76, 77, 78, 79, 80, 81, 82, 83, 84, 85, 86, 87, 88, 89, 90, 91, 92, 93, 113, 114, 115, 116, 117, 118, 119, 120, 121, 122, 123, 124, 125] (by decide +kernel) (by decide +kernel)
set_option maxRecDepth 20000 in
theorem gX6_now_X3_calmest : GoodIn wsX6_now (wsV RX6 178 RX3 yX3_calmest wsX3_calmest) := goodIn_app (goodIn_of _ (by decide +kernel)) ggX6_now_X3_calmest
theorem dX6_now_0 : decode cX6_now 0 = .ok (.iload_n 1, 1) := by decide +kernel
theorem dX6_now_1 : decode cX6_now 1 = .ok (.tableswitch 98 0 5 #[39, 47, 55, 63, 78, 83], 39) := by decide +kernel
theorem dX6_now_40 : decode cX6_now 40 = .ok (.aload_n 0, 1) := by decide +kernel
theorem dX6_now_41 : decode cX6_now 41 = .ok (.getfield 45, 3) := by decide +kernel
theorem dX6_now_44 : decode cX6_now 44 = .ok (.getfield 132, 3) := by decide +kernel
theorem dX6_now_47 : decode cX6_now 47 = .ok (.ireturn, 1) := by decide +kernel
theorem dX6_now_48 : decode cX6_now 48 = .ok (.aload_n 0, 1) := by decide +kernel
theorem dX6_now_49 : decode cX6_now 49 = .ok (.getfield 45, 3) := by decide +kernel
theorem dX6_now_52 : decode cX6_now 52 = .ok (.getfield 148, 3) := by decide +kernel
theorem dX6_now_55 : decode cX6_now 55 = .ok (.ireturn, 1) := by decide +kernel
theorem dX6_now_56 : decode cX6_now 56 = .ok (.aload_n 0, 1) := by decide +kernel
theorem dX6_now_57 : decode cX6_now 57 = .ok (.getfield 45, 3) := by decide +kernel
theorem dX6_now_60 : decode cX6_now 60 = .ok (.getfield 162, 3) := by decide +kernel
theorem dX6_now_63 : decode cX6_now 63 = .ok (.ireturn, 1) := by decide +kernel
theorem dX6_now_64 : decode cX6_now 64 = .ok (.aload_n 0, 1) := by decide +kernel
theorem dX6_now_65 : decode cX6_now 65 = .ok (.getfield 26, 3) := by decide +kernel
theorem dX6_now_68 : decode cX6_now 68 = .ok (.aload_n 0, 1) := by decide +kernel
theorem dX6_now_69 : decode cX6_now 69 = .ok (.getfield 45, 3) := by decide +kernel
theorem dX6_now_72 : decode cX6_now 72 = .ok (.getfield 104, 3) := by decide +kernel
theorem dX6_now_75 : decode cX6_now 75 = .ok (.invokevirtual 172, 3) := by decide +kernel
theorem dX6_now_78 : decode cX6_now 78 = .ok (.ireturn, 1) := by decide +kernel
theorem dX6_now_79 : decode cX6_now 79 = .ok (.aload_n 0, 1) := by decide +kernel
theorem dX6_now_80 : decode cX6_now 80 = .ok (.invokevirtual 175, 3) := by decide +kernel
theorem dX6_now_83 : decode cX6_now 83 = .ok (.ireturn, 1) := by decide +kernel
theorem dX6_now_84 : decode cX6_now 84 = .ok (.aload_n 0, 1) := by decide +kernel
theorem dX6_now_85 : decode cX6_now 85 = .ok (.getfield 26, 3) := by decide +kernel
theorem dX6_now_88 : decode cX6_now 88 = .ok (.aload_n 0, 1) := by decide +kernel
theorem dX6_now_89 : decode cX6_now 89 = .ok (.getfield 45, 3) := by decide +kernel
theorem dX6_now_92 : decode cX6_now 92 = .ok (.getfield 104, 3) := by decide +kernel
theorem dX6_now_95 : decode cX6_now 95 = .ok (.invokevirtual 178, 3) := by decide +kernel
theorem dX6_now_98 : decode cX6_now 98 = .ok (.ireturn, 1) := by decide +kernel
theorem dX6_now_99 : decode cX6_now 99 = .ok (.iconst (-1), 1) := by decide +kernel
theorem dX6_now_100 : decode cX6_now 100 = .ok (.ireturn, 1) := by decide +kernel
set_option maxRecDepth 20000 in
theorem ggX6_homeward_X6_searchOf : GoodIn wsX6_homeward wsX6_searchOf := goodIn_r _ [7, 8, 9, 107, 108, 109, 110, 111, 112, 113, 114, 115, 116, 117, 118] (by decide +kernel) (by decide +kernel)
set_option maxRecDepth 20000 in
theorem gX6_homeward_X6_searchOf : GoodIn wsX6_homeward (wsV RX6 181 RX6 yX6_searchOf wsX6_searchOf) := goodIn_app (goodIn_of _ (by decide +kernel)) ggX6_homeward_X6_searchOf
set_option maxRecDepth 20000 in
theorem ggX6_homeward_X6_isZeroOrOne : GoodIn wsX6_homeward wsX6_isZeroOrOne := goodIn_r _ [12] (by decide +kernel) (by decide +kernel)
set_option maxRecDepth 20000 in
theorem gX6_homeward_X6_isZeroOrOne : GoodIn wsX6_homeward (va_wsS RX6 159 yX6_isZeroOrOne wsX6_isZeroOrOne) := goodIn_app (goodIn_of _ (by decide +kernel)) ggX6_homeward_X6_isZeroOrOne
set_option maxRecDepth 20000 in
theorem ggX6_homeward_X2_spread : GoodIn wsX6_homeward wsX2_spread := goodIn_r _ [17, 18, 19, 20, 21, 22, 23, 24, 25, 26, 27, 28, 16, 29, 30, 31, 6, 32, 33, 34, 35, 36, 37, 38, 39, 40, 41, 42, 43, 44, 45, 46, 47, 48, 49, 50, 51, 52, 53, 54, 55, 56, 57, 58, 59, 60, 61, 62, 63, 64, 65, 66, 67, 68, 69, 70, 71, 72, 73, 74, 75, 76, 77, 78, 79, 80, 81, 82, 83, 84, 85, 86, 87, 88, 89, 90, 91, 92, 93, 94, 95, 96, 97, 98, 126, 127, 128, 129, 130, 131, 132, 133, 134, 135, 136, 137, 138, 139, 140, 141, 142, 143, 144, 145] (by decide +kernel) (by decide +kernel)
set_option maxRecDepth 20000 in
theorem gX6_homeward_X2_spread : GoodIn wsX6_homeward (wsV RX6 185 RX2 yX2_spread wsX2_spread) := goodIn_app (goodIn_of _ (by decide +kernel)) ggX6_homeward_X2_spread
set_option maxRecDepth 20000 in
theorem ggX6_homeward_X2_moonsTo : GoodIn wsX6_homeward wsX2_moonsTo := goodIn_r _ [102, 20, 33, 6, 34, 126, 127, 128, 129, 130, 131, 132] (by decide +kernel) (by decide +kernel)
set_option maxRecDepth 20000 in
theorem gX6_homeward_X2_moonsTo : GoodIn wsX6_homeward (wsV RX6 189 RX2 yX2_moonsTo wsX2_moonsTo) := goodIn_app (goodIn_of _ (by decide +kernel)) ggX6_homeward_X2_moonsTo
set_option maxRecDepth 20000 in
theorem ggX6_homeward_X2_firstTo : GoodIn wsX6_homeward wsX2_firstTo := goodIn_r _ [106, 30, 33, 6, 34, 126, 127, 128, 129, 130, 131, 132] (by decide +kernel) (by decide +kernel)
set_option maxRecDepth 20000 in
theorem gX6_homeward_X2_firstTo : GoodIn wsX6_homeward (wsV RX6 192 RX2 yX2_firstTo wsX2_firstTo) := goodIn_app (goodIn_of _ (by decide +kernel)) ggX6_homeward_X2_firstTo
theorem dX6_homeward_0 : decode cX6_homeward 0 = .ok (.aload_n 0, 1) := by decide +kernel
theorem dX6_homeward_1 : decode cX6_homeward 1 = .ok (.iload_n 1, 1) := by decide +kernel
theorem dX6_homeward_2 : decode cX6_homeward 2 = .ok (.invokevirtual 181, 3) := by decide +kernel
theorem dX6_homeward_5 : decode cX6_homeward 5 = .ok (.astore_n 3, 1) := by decide +kernel
theorem dX6_homeward_6 : decode cX6_homeward 6 = .ok (.aload_n 3, 1) := by decide +kernel
theorem dX6_homeward_7 : decode cX6_homeward 7 = .ok (.ifnull 10, 3) := by decide +kernel
theorem dX6_homeward_10 : decode cX6_homeward 10 = .ok (.iload_n 2, 1) := by decide +kernel
theorem dX6_homeward_11 : decode cX6_homeward 11 = .ok (.invokestatic 159, 3) := by decide +kernel
theorem dX6_homeward_14 : decode cX6_homeward 14 = .ok (.ifCond .ne 5, 3) := by decide +kernel
theorem dX6_homeward_17 : decode cX6_homeward 17 = .ok (.iconst (-1), 1) := by decide +kernel
theorem dX6_homeward_18 : decode cX6_homeward 18 = .ok (.ireturn, 1) := by decide +kernel
theorem dX6_homeward_19 : decode cX6_homeward 19 = .ok (.aload_n 3, 1) := by decide +kernel
theorem dX6_homeward_20 : decode cX6_homeward 20 = .ok (.aload_n 0, 1) := by decide +kernel
theorem dX6_homeward_21 : decode cX6_homeward 21 = .ok (.getfield 45, 3) := by decide +kernel
theorem dX6_homeward_24 : decode cX6_homeward 24 = .ok (.getfield 104, 3) := by decide +kernel
theorem dX6_homeward_27 : decode cX6_homeward 27 = .ok (.invokevirtual 185, 3) := by decide +kernel
theorem dX6_homeward_30 : decode cX6_homeward 30 = .ok (.aload_n 3, 1) := by decide +kernel
theorem dX6_homeward_31 : decode cX6_homeward 31 = .ok (.iconst 0, 1) := by decide +kernel
theorem dX6_homeward_32 : decode cX6_homeward 32 = .ok (.invokevirtual 189, 3) := by decide +kernel
theorem dX6_homeward_35 : decode cX6_homeward 35 = .ok (.istore 4, 2) := by decide +kernel
theorem dX6_homeward_37 : decode cX6_homeward 37 = .ok (.iload_n 2, 1) := by decide +kernel
theorem dX6_homeward_38 : decode cX6_homeward 38 = .ok (.ifCond .ne 6, 3) := by decide +kernel
theorem dX6_homeward_41 : decode cX6_homeward 41 = .ok (.iload 4, 2) := by decide +kernel
theorem dX6_homeward_43 : decode cX6_homeward 43 = .ok (.ireturn, 1) := by decide +kernel
theorem dX6_homeward_44 : decode cX6_homeward 44 = .ok (.iload 4, 2) := by decide +kernel
theorem dX6_homeward_46 : decode cX6_homeward 46 = .ok (.ifCond .le 11, 3) := by decide +kernel
theorem dX6_homeward_49 : decode cX6_homeward 49 = .ok (.aload_n 3, 1) := by decide +kernel
theorem dX6_homeward_50 : decode cX6_homeward 50 = .ok (.iconst 0, 1) := by decide +kernel
theorem dX6_homeward_51 : decode cX6_homeward 51 = .ok (.invokevirtual 192, 3) := by decide +kernel
theorem dX6_homeward_54 : decode cX6_homeward 54 = .ok (.goto 5, 3) := by decide +kernel
theorem dX6_homeward_57 : decode cX6_homeward 57 = .ok (.bipush (-9), 2) := by decide +kernel
theorem dX6_homeward_59 : decode cX6_homeward 59 = .ok (.ireturn, 1) := by decide +kernel
set_option maxRecDepth 20000 in
theorem ggX6_trade_X6_searchOf : GoodIn wsX6_trade wsX6_searchOf := goodIn_r _ [10, 11, 12, 120, 121, 122, 123, 124, 125, 126, 127, 128, 129, 130, 131] (by decide +kernel) (by decide +kernel)
set_option maxRecDepth 20000 in
theorem gX6_trade_X6_searchOf : GoodIn wsX6_trade (wsV RX6 181 RX6 yX6_searchOf wsX6_searchOf) := goodIn_app (goodIn_of _ (by decide +kernel)) ggX6_trade_X6_searchOf
set_option maxRecDepth 20000 in
theorem ggX6_trade_X6_isKeeper : GoodIn wsX6_trade wsX6_isKeeper := goodIn_r _ [16, 3, 17, 18, 120, 121, 122, 123, 124, 125, 126, 127, 128, 129, 130, 131, 139, 140, 146, 147, 148, 149, 150, 151] (by decide +kernel) (by decide +kernel)
set_option maxRecDepth 20000 in
theorem gX6_trade_X6_isKeeper : GoodIn wsX6_trade (wsV RX6 90 RX6 yX6_isKeeper wsX6_isKeeper) := goodIn_app (goodIn_of _ (by decide +kernel)) ggX6_trade_X6_isKeeper
set_option maxRecDepth 20000 in
theorem ggX6_trade_X2_spread : GoodIn wsX6_trade wsX2_spread := goodIn_r _ [23, 24, 25, 26, 27, 28, 29, 30, 31, 32, 33, 34, 22, 35, 36, 37, 9, 38, 39, 40, 41, 42, 43, 44, 45, 46, 47, 48, 49, 50, 51, 52, 53, 54, 55, 56, 57, 58, 59, 60, 61, 62, 63, 64, 65, 66, 67, 68, 69, 70, 71, 72, 73, 74, 75, 76, 77, 78, 79, 80, 81, 82, 83, 84, 85, 86, 87, 88, 89, 90, 91, 92, 93, 94, 95, 96, 97, 98, 99, 100, 101, 102, 103, 104, 152, 153, 154, 155, 156, 157, 158, 139, 140, 146, 147, 148, 149, 150, 151, 141, 142, 143, 144, 145] (by decide +kernel) (by decide +kernel)
set_option maxRecDepth 20000 in
theorem gX6_trade_X2_spread : GoodIn wsX6_trade (wsV RX6 185 RX2 yX2_spread wsX2_spread) := goodIn_app (goodIn_of _ (by decide +kernel)) ggX6_trade_X2_spread
set_option maxRecDepth 20000 in
theorem ggX6_trade_X5_rockOf : GoodIn wsX6_trade wsX5_rockOf := goodIn_r _ [108, 109, 110, 55, 56, 57, 58, 59, 141, 142, 143, 144, 145] (by decide +kernel) (by decide +kernel)
set_option maxRecDepth 20000 in
theorem gX6_trade_X5_rockOf : GoodIn wsX6_trade (wsV RX6 107 RX5 yX5_rockOf wsX5_rockOf) := goodIn_app (goodIn_of _ (by decide +kernel)) ggX6_trade_X5_rockOf
set_option maxRecDepth 20000 in
theorem ggX6_trade_X5_who : GoodIn wsX6_trade wsX5_who := goodIn_r _ [58, 59, 141, 142, 143, 144, 145] (by decide +kernel) (by decide +kernel)
set_option maxRecDepth 20000 in
theorem gX6_trade_X5_who : GoodIn wsX6_trade (wsV RX6 125 RX5 yX5_who wsX5_who) := goodIn_app (goodIn_of _ (by decide +kernel)) ggX6_trade_X5_who
set_option maxRecDepth 20000 in
theorem ggX6_trade_X2_moonsTo : GoodIn wsX6_trade wsX2_moonsTo := goodIn_r _ [115, 26, 39, 9, 40, 152, 153, 154, 155, 156, 157, 158] (by decide +kernel) (by decide +kernel)
set_option maxRecDepth 20000 in
theorem gX6_trade_X2_moonsTo : GoodIn wsX6_trade (wsV RX6 189 RX2 yX2_moonsTo wsX2_moonsTo) := goodIn_app (goodIn_of _ (by decide +kernel)) ggX6_trade_X2_moonsTo
set_option maxRecDepth 20000 in
theorem ggX6_trade_X6_fewer : GoodIn wsX6_trade wsX6_fewer := goodIn_r _ [118, 119, 93, 94, 95] (by decide +kernel) (by decide +kernel)
set_option maxRecDepth 20000 in
theorem gX6_trade_X6_fewer : GoodIn wsX6_trade (va_wsS RX6 198 yX6_fewer wsX6_fewer) := goodIn_app (goodIn_of _ (by decide +kernel)) ggX6_trade_X6_fewer
theorem dX6_trade_0 : decode cX6_trade 0 = .ok (.aload_n 0, 1) := by decide +kernel
theorem dX6_trade_1 : decode cX6_trade 1 = .ok (.iload_n 3, 1) := by decide +kernel
theorem dX6_trade_2 : decode cX6_trade 2 = .ok (.invokevirtual 181, 3) := by decide +kernel
theorem dX6_trade_5 : decode cX6_trade 5 = .ok (.astore 4, 2) := by decide +kernel
theorem dX6_trade_7 : decode cX6_trade 7 = .ok (.aload 4, 2) := by decide +kernel
theorem dX6_trade_9 : decode cX6_trade 9 = .ok (.ifnull 24, 3) := by decide +kernel
theorem dX6_trade_12 : decode cX6_trade 12 = .ok (.aload_n 0, 1) := by decide +kernel
theorem dX6_trade_13 : decode cX6_trade 13 = .ok (.iload_n 1, 1) := by decide +kernel
theorem dX6_trade_14 : decode cX6_trade 14 = .ok (.invokevirtual 90, 3) := by decide +kernel
theorem dX6_trade_17 : decode cX6_trade 17 = .ok (.ifCond .eq 16, 3) := by decide +kernel
theorem dX6_trade_20 : decode cX6_trade 20 = .ok (.aload_n 0, 1) := by decide +kernel
theorem dX6_trade_21 : decode cX6_trade 21 = .ok (.iload_n 2, 1) := by decide +kernel
theorem dX6_trade_22 : decode cX6_trade 22 = .ok (.invokevirtual 90, 3) := by decide +kernel
theorem dX6_trade_25 : decode cX6_trade 25 = .ok (.ifCond .eq 8, 3) := by decide +kernel
theorem dX6_trade_28 : decode cX6_trade 28 = .ok (.iload_n 1, 1) := by decide +kernel
theorem dX6_trade_29 : decode cX6_trade 29 = .ok (.iload_n 2, 1) := by decide +kernel
theorem dX6_trade_30 : decode cX6_trade 30 = .ok (.if_icmp .ne 5, 3) := by decide +kernel
theorem dX6_trade_33 : decode cX6_trade 33 = .ok (.iconst (-1), 1) := by decide +kernel
theorem dX6_trade_34 : decode cX6_trade 34 = .ok (.ireturn, 1) := by decide +kernel
theorem dX6_trade_35 : decode cX6_trade 35 = .ok (.aload 4, 2) := by decide +kernel
theorem dX6_trade_37 : decode cX6_trade 37 = .ok (.aload_n 0, 1) := by decide +kernel
theorem dX6_trade_38 : decode cX6_trade 38 = .ok (.getfield 45, 3) := by decide +kernel
theorem dX6_trade_41 : decode cX6_trade 41 = .ok (.getfield 104, 3) := by decide +kernel
theorem dX6_trade_44 : decode cX6_trade 44 = .ok (.invokevirtual 185, 3) := by decide +kernel
theorem dX6_trade_47 : decode cX6_trade 47 = .ok (.aload_n 0, 1) := by decide +kernel
theorem dX6_trade_48 : decode cX6_trade 48 = .ok (.getfield 26, 3) := by decide +kernel
theorem dX6_trade_51 : decode cX6_trade 51 = .ok (.getfield 100, 3) := by decide +kernel
theorem dX6_trade_54 : decode cX6_trade 54 = .ok (.aload_n 0, 1) := by decide +kernel
theorem dX6_trade_55 : decode cX6_trade 55 = .ok (.getfield 45, 3) := by decide +kernel
theorem dX6_trade_58 : decode cX6_trade 58 = .ok (.getfield 104, 3) := by decide +kernel
theorem dX6_trade_61 : decode cX6_trade 61 = .ok (.iload_n 1, 1) := by decide +kernel
theorem dX6_trade_62 : decode cX6_trade 62 = .ok (.invokevirtual 107, 3) := by decide +kernel
theorem dX6_trade_65 : decode cX6_trade 65 = .ok (.istore 5, 2) := by decide +kernel
theorem dX6_trade_67 : decode cX6_trade 67 = .ok (.aload_n 0, 1) := by decide +kernel
theorem dX6_trade_68 : decode cX6_trade 68 = .ok (.getfield 26, 3) := by decide +kernel
theorem dX6_trade_71 : decode cX6_trade 71 = .ok (.getfield 100, 3) := by decide +kernel
theorem dX6_trade_74 : decode cX6_trade 74 = .ok (.aload_n 0, 1) := by decide +kernel
theorem dX6_trade_75 : decode cX6_trade 75 = .ok (.getfield 45, 3) := by decide +kernel
theorem dX6_trade_78 : decode cX6_trade 78 = .ok (.getfield 104, 3) := by decide +kernel
theorem dX6_trade_81 : decode cX6_trade 81 = .ok (.iload_n 2, 1) := by decide +kernel
theorem dX6_trade_82 : decode cX6_trade 82 = .ok (.invokevirtual 107, 3) := by decide +kernel
theorem dX6_trade_85 : decode cX6_trade 85 = .ok (.istore 6, 2) := by decide +kernel
theorem dX6_trade_87 : decode cX6_trade 87 = .ok (.bipush (-9), 2) := by decide +kernel
theorem dX6_trade_89 : decode cX6_trade 89 = .ok (.istore 7, 2) := by decide +kernel
theorem dX6_trade_91 : decode cX6_trade 91 = .ok (.iconst 0, 1) := by decide +kernel
theorem dX6_trade_92 : decode cX6_trade 92 = .ok (.istore 8, 2) := by decide +kernel
theorem dX6_trade_94 : decode cX6_trade 94 = .ok (.iload 8, 2) := by decide +kernel
theorem dX6_trade_96 : decode cX6_trade 96 = .ok (.aload_n 0, 1) := by decide +kernel
theorem dX6_trade_97 : decode cX6_trade 97 = .ok (.getfield 26, 3) := by decide +kernel
theorem dX6_trade_100 : decode cX6_trade 100 = .ok (.getfield 100, 3) := by decide +kernel
theorem dX6_trade_103 : decode cX6_trade 103 = .ok (.getfield 195, 3) := by decide +kernel
theorem dX6_trade_106 : decode cX6_trade 106 = .ok (.if_icmp .ge 59, 3) := by decide +kernel
theorem dX6_trade_109 : decode cX6_trade 109 = .ok (.aload_n 0, 1) := by decide +kernel
theorem dX6_trade_110 : decode cX6_trade 110 = .ok (.getfield 26, 3) := by decide +kernel
theorem dX6_trade_113 : decode cX6_trade 113 = .ok (.getfield 100, 3) := by decide +kernel
theorem dX6_trade_116 : decode cX6_trade 116 = .ok (.iload 8, 2) := by decide +kernel
theorem dX6_trade_118 : decode cX6_trade 118 = .ok (.iload 5, 2) := by decide +kernel
theorem dX6_trade_120 : decode cX6_trade 120 = .ok (.invokevirtual 125, 3) := by decide +kernel
theorem dX6_trade_123 : decode cX6_trade 123 = .ok (.iload_n 2, 1) := by decide +kernel
theorem dX6_trade_124 : decode cX6_trade 124 = .ok (.if_icmp .ne 35, 3) := by decide +kernel
theorem dX6_trade_127 : decode cX6_trade 127 = .ok (.aload_n 0, 1) := by decide +kernel
theorem dX6_trade_128 : decode cX6_trade 128 = .ok (.getfield 26, 3) := by decide +kernel
theorem dX6_trade_131 : decode cX6_trade 131 = .ok (.getfield 100, 3) := by decide +kernel
theorem dX6_trade_134 : decode cX6_trade 134 = .ok (.iload 8, 2) := by decide +kernel
theorem dX6_trade_136 : decode cX6_trade 136 = .ok (.iload 6, 2) := by decide +kernel
theorem dX6_trade_138 : decode cX6_trade 138 = .ok (.invokevirtual 125, 3) := by decide +kernel
theorem dX6_trade_141 : decode cX6_trade 141 = .ok (.iload_n 1, 1) := by decide +kernel
theorem dX6_trade_142 : decode cX6_trade 142 = .ok (.if_icmp .ne 17, 3) := by decide +kernel
theorem dX6_trade_145 : decode cX6_trade 145 = .ok (.iload 7, 2) := by decide +kernel
theorem dX6_trade_147 : decode cX6_trade 147 = .ok (.aload 4, 2) := by decide +kernel
theorem dX6_trade_149 : decode cX6_trade 149 = .ok (.iload 8, 2) := by decide +kernel
theorem dX6_trade_151 : decode cX6_trade 151 = .ok (.invokevirtual 189, 3) := by decide +kernel
theorem dX6_trade_154 : decode cX6_trade 154 = .ok (.invokestatic 198, 3) := by decide +kernel
theorem dX6_trade_157 : decode cX6_trade 157 = .ok (.istore 7, 2) := by decide +kernel
theorem dX6_trade_159 : decode cX6_trade 159 = .ok (.iinc 8 1, 3) := by decide +kernel
theorem dX6_trade_162 : decode cX6_trade 162 = .ok (.goto (-68), 3) := by decide +kernel
theorem dX6_trade_165 : decode cX6_trade 165 = .ok (.iload 7, 2) := by decide +kernel
theorem dX6_trade_167 : decode cX6_trade 167 = .ok (.ireturn, 1) := by decide +kernel
set_option maxRecDepth 20000 in
theorem ggX6_ship_X6_isFlash : GoodIn wsX6_ship wsX6_isFlash := goodIn_r _ [7] (by decide +kernel) (by decide +kernel)
set_option maxRecDepth 20000 in
theorem gX6_ship_X6_isFlash : GoodIn wsX6_ship (va_wsS RX6 201 yX6_isFlash wsX6_isFlash) := goodIn_app (goodIn_of _ (by decide +kernel)) ggX6_ship_X6_isFlash
set_option maxRecDepth 20000 in
theorem ggX6_ship_X6_shines : GoodIn wsX6_ship wsX6_shines := goodIn_r _ [11, 1, 12, 13, 14, 2, 15, 16, 17, 18, 19, 20, 21, 22, 23, 24, 25, 26, 27, 28, 29, 6, 30, 31, 32, 33, 34, 35, 36, 37, 38, 39, 40, 41, 42, 43, 44, 45, 52, 53, 54, 55, 56, 57, 58, 59, 60, 61, 62, 63, 46, 47, 48, 49, 50, 51] (by decide +kernel) (by decide +kernel)
set_option maxRecDepth 20000 in
theorem gX6_ship_X6_shines : GoodIn wsX6_ship (wsV RX6 207 RX6 yX6_shines wsX6_shines) := goodIn_app (goodIn_of _ (by decide +kernel)) ggX6_ship_X6_shines
theorem dX6_ship_0 : decode cX6_ship 0 = .ok (.iload_n 1, 1) := by decide +kernel
theorem dX6_ship_1 : decode cX6_ship 1 = .ok (.invokestatic 201, 3) := by decide +kernel
theorem dX6_ship_4 : decode cX6_ship 4 = .ok (.ifCond .eq 10, 3) := by decide +kernel
theorem dX6_ship_7 : decode cX6_ship 7 = .ok (.iload_n 2, 1) := by decide +kernel
theorem dX6_ship_8 : decode cX6_ship 8 = .ok (.invokestatic 201, 3) := by decide +kernel
theorem dX6_ship_11 : decode cX6_ship 11 = .ok (.ifCond .ne 5, 3) := by decide +kernel
theorem dX6_ship_14 : decode cX6_ship 14 = .ok (.iconst (-1), 1) := by decide +kernel
theorem dX6_ship_15 : decode cX6_ship 15 = .ok (.ireturn, 1) := by decide +kernel
theorem dX6_ship_16 : decode cX6_ship 16 = .ok (.iconst 0, 1) := by decide +kernel
theorem dX6_ship_17 : decode cX6_ship 17 = .ok (.istore_n 3, 1) := by decide +kernel
theorem dX6_ship_18 : decode cX6_ship 18 = .ok (.iconst 0, 1) := by decide +kernel
theorem dX6_ship_19 : decode cX6_ship 19 = .ok (.istore 4, 2) := by decide +kernel
theorem dX6_ship_21 : decode cX6_ship 21 = .ok (.iload 4, 2) := by decide +kernel
theorem dX6_ship_23 : decode cX6_ship 23 = .ok (.iconst 1, 1) := by decide +kernel
theorem dX6_ship_24 : decode cX6_ship 24 = .ok (.iadd, 1) := by decide +kernel
theorem dX6_ship_25 : decode cX6_ship 25 = .ok (.aload_n 0, 1) := by decide +kernel
theorem dX6_ship_26 : decode cX6_ship 26 = .ok (.getfield 26, 3) := by decide +kernel
theorem dX6_ship_29 : decode cX6_ship 29 = .ok (.getfield 93, 3) := by decide +kernel
theorem dX6_ship_32 : decode cX6_ship 32 = .ok (.getfield 204, 3) := by decide +kernel
theorem dX6_ship_35 : decode cX6_ship 35 = .ok (.if_icmp .ge 38, 3) := by decide +kernel
theorem dX6_ship_38 : decode cX6_ship 38 = .ok (.aload_n 0, 1) := by decide +kernel
theorem dX6_ship_39 : decode cX6_ship 39 = .ok (.iload 4, 2) := by decide +kernel
theorem dX6_ship_41 : decode cX6_ship 41 = .ok (.iload_n 1, 1) := by decide +kernel
theorem dX6_ship_42 : decode cX6_ship 42 = .ok (.invokevirtual 207, 3) := by decide +kernel
theorem dX6_ship_45 : decode cX6_ship 45 = .ok (.ifCond .eq 22, 3) := by decide +kernel
theorem dX6_ship_48 : decode cX6_ship 48 = .ok (.aload_n 0, 1) := by decide +kernel
theorem dX6_ship_49 : decode cX6_ship 49 = .ok (.iload 4, 2) := by decide +kernel
theorem dX6_ship_51 : decode cX6_ship 51 = .ok (.iconst 1, 1) := by decide +kernel
theorem dX6_ship_52 : decode cX6_ship 52 = .ok (.iadd, 1) := by decide +kernel
theorem dX6_ship_53 : decode cX6_ship 53 = .ok (.iload_n 2, 1) := by decide +kernel
theorem dX6_ship_54 : decode cX6_ship 54 = .ok (.invokevirtual 207, 3) := by decide +kernel
theorem dX6_ship_57 : decode cX6_ship 57 = .ok (.ifCond .eq 10, 3) := by decide +kernel
theorem dX6_ship_60 : decode cX6_ship 60 = .ok (.iload_n 3, 1) := by decide +kernel
theorem dX6_ship_61 : decode cX6_ship 61 = .ok (.iconst 1, 1) := by decide +kernel
theorem dX6_ship_62 : decode cX6_ship 62 = .ok (.iload 4, 2) := by decide +kernel
theorem dX6_ship_64 : decode cX6_ship 64 = .ok (.ishl, 1) := by decide +kernel
theorem dX6_ship_65 : decode cX6_ship 65 = .ok (.ior, 1) := by decide +kernel
theorem dX6_ship_66 : decode cX6_ship 66 = .ok (.istore_n 3, 1) := by decide +kernel
theorem dX6_ship_67 : decode cX6_ship 67 = .ok (.iinc 4 1, 3) := by decide +kernel
theorem dX6_ship_70 : decode cX6_ship 70 = .ok (.goto (-49), 3) := by decide +kernel
theorem dX6_ship_73 : decode cX6_ship 73 = .ok (.iload_n 3, 1) := by decide +kernel
theorem dX6_ship_74 : decode cX6_ship 74 = .ok (.ireturn, 1) := by decide +kernel
set_option maxRecDepth 20000 in
theorem ggX6_odds_X6_isRock : GoodIn wsX6_odds wsX6_isRock := goodIn_r _ [5, 6, 7, 8, 4, 9, 10, 11, 12, 45, 46, 47, 48, 49, 50, 51, 52, 53, 54, 55, 56, 57, 58, 59, 60, 61, 62, 63, 64] (by decide +kernel) (by decide +kernel)
set_option maxRecDepth 20000 in
theorem gX6_odds_X6_isRock : GoodIn wsX6_odds (wsV RX6 122 RX6 yX6_isRock wsX6_isRock) := goodIn_app (goodIn_of _ (by decide +kernel)) ggX6_odds_X6_isRock
set_option maxRecDepth 20000 in
theorem ggX6_odds_X6_isZeroOrOne : GoodIn wsX6_odds wsX6_isZeroOrOne := goodIn_r _ [15] (by decide +kernel) (by decide +kernel)
set_option maxRecDepth 20000 in
theorem gX6_odds_X6_isZeroOrOne : GoodIn wsX6_odds (va_wsS RX6 159 yX6_isZeroOrOne wsX6_isZeroOrOne) := goodIn_app (goodIn_of _ (by decide +kernel)) ggX6_odds_X6_isZeroOrOne
set_option maxRecDepth 20000 in
theorem ggX6_odds_X6_lightsInSight : GoodIn wsX6_odds wsX6_lightsInSight := goodIn_r _ [19, 10, 11, 12, 20, 21, 22, 23, 24, 25, 26, 27, 28, 29, 30, 31, 32, 33, 34, 35, 36, 4, 37, 38, 45, 46, 47, 48, 49, 50, 51, 52, 53, 54, 55, 56, 57, 58, 59, 60, 61, 62, 63, 64, 65, 66, 67, 68, 69, 70, 71, 72, 73, 74, 75, 76] (by decide +kernel) (by decide +kernel)
set_option maxRecDepth 20000 in
theorem gX6_odds_X6_lightsInSight : GoodIn wsX6_odds (wsV RX6 210 RX6 yX6_lightsInSight wsX6_lightsInSight) := goodIn_app (goodIn_of _ (by decide +kernel)) ggX6_odds_X6_lightsInSight
set_option maxRecDepth 20000 in
theorem ggX6_odds_X6_power : GoodIn wsX6_odds wsX6_power := goodIn_r _ [41] (by decide +kernel) (by decide +kernel)
set_option maxRecDepth 20000 in
theorem gX6_odds_X6_power : GoodIn wsX6_odds (va_wsS RX6 213 yX6_power wsX6_power) := goodIn_app (goodIn_of _ (by decide +kernel)) ggX6_odds_X6_power
set_option maxRecDepth 20000 in
theorem ggX6_odds_X6_commonDivisor : GoodIn wsX6_odds wsX6_commonDivisor := goodIn_r _ [44] (by decide +kernel) (by decide +kernel)
set_option maxRecDepth 20000 in
theorem gX6_odds_X6_commonDivisor : GoodIn wsX6_odds (va_wsS RX6 216 yX6_commonDivisor wsX6_commonDivisor) := goodIn_app (goodIn_of _ (by decide +kernel)) ggX6_odds_X6_commonDivisor
theorem dX6_odds_0 : decode cX6_odds 0 = .ok (.aload_n 0, 1) := by decide +kernel
theorem dX6_odds_1 : decode cX6_odds 1 = .ok (.iload_n 1, 1) := by decide +kernel
theorem dX6_odds_2 : decode cX6_odds 2 = .ok (.invokevirtual 122, 3) := by decide +kernel
theorem dX6_odds_5 : decode cX6_odds 5 = .ok (.ifCond .eq 20, 3) := by decide +kernel
theorem dX6_odds_8 : decode cX6_odds 8 = .ok (.iload_n 2, 1) := by decide +kernel
theorem dX6_odds_9 : decode cX6_odds 9 = .ok (.ifCond .lt 16, 3) := by decide +kernel
theorem dX6_odds_12 : decode cX6_odds 12 = .ok (.iload_n 2, 1) := by decide +kernel
theorem dX6_odds_13 : decode cX6_odds 13 = .ok (.bipush 10, 2) := by decide +kernel
theorem dX6_odds_15 : decode cX6_odds 15 = .ok (.if_icmp .gt 10, 3) := by decide +kernel
theorem dX6_odds_18 : decode cX6_odds 18 = .ok (.iload_n 3, 1) := by decide +kernel
theorem dX6_odds_19 : decode cX6_odds 19 = .ok (.invokestatic 159, 3) := by decide +kernel
theorem dX6_odds_22 : decode cX6_odds 22 = .ok (.ifCond .ne 5, 3) := by decide +kernel
theorem dX6_odds_25 : decode cX6_odds 25 = .ok (.iconst (-1), 1) := by decide +kernel
theorem dX6_odds_26 : decode cX6_odds 26 = .ok (.ireturn, 1) := by decide +kernel
theorem dX6_odds_27 : decode cX6_odds 27 = .ok (.aload_n 0, 1) := by decide +kernel
theorem dX6_odds_28 : decode cX6_odds 28 = .ok (.iload_n 1, 1) := by decide +kernel
theorem dX6_odds_29 : decode cX6_odds 29 = .ok (.invokevirtual 210, 3) := by decide +kernel
theorem dX6_odds_32 : decode cX6_odds 32 = .ok (.istore 4, 2) := by decide +kernel
theorem dX6_odds_34 : decode cX6_odds 34 = .ok (.bipush 10, 2) := by decide +kernel
theorem dX6_odds_36 : decode cX6_odds 36 = .ok (.iload 4, 2) := by decide +kernel
theorem dX6_odds_38 : decode cX6_odds 38 = .ok (.invokestatic 213, 3) := by decide +kernel
theorem dX6_odds_41 : decode cX6_odds 41 = .ok (.istore 5, 2) := by decide +kernel
theorem dX6_odds_43 : decode cX6_odds 43 = .ok (.iload 5, 2) := by decide +kernel
theorem dX6_odds_45 : decode cX6_odds 45 = .ok (.iload_n 2, 1) := by decide +kernel
theorem dX6_odds_46 : decode cX6_odds 46 = .ok (.iload 4, 2) := by decide +kernel
theorem dX6_odds_48 : decode cX6_odds 48 = .ok (.invokestatic 213, 3) := by decide +kernel
theorem dX6_odds_51 : decode cX6_odds 51 = .ok (.isub, 1) := by decide +kernel
theorem dX6_odds_52 : decode cX6_odds 52 = .ok (.istore 6, 2) := by decide +kernel
theorem dX6_odds_54 : decode cX6_odds 54 = .ok (.iload 6, 2) := by decide +kernel
theorem dX6_odds_56 : decode cX6_odds 56 = .ok (.iload 5, 2) := by decide +kernel
theorem dX6_odds_58 : decode cX6_odds 58 = .ok (.invokestatic 216, 3) := by decide +kernel
theorem dX6_odds_61 : decode cX6_odds 61 = .ok (.istore 7, 2) := by decide +kernel
theorem dX6_odds_63 : decode cX6_odds 63 = .ok (.iload 7, 2) := by decide +kernel
theorem dX6_odds_65 : decode cX6_odds 65 = .ok (.ifCond .gt 5, 3) := by decide +kernel
theorem dX6_odds_68 : decode cX6_odds 68 = .ok (.iconst (-1), 1) := by decide +kernel
theorem dX6_odds_69 : decode cX6_odds 69 = .ok (.ireturn, 1) := by decide +kernel
theorem dX6_odds_70 : decode cX6_odds 70 = .ok (.iload_n 3, 1) := by decide +kernel
theorem dX6_odds_71 : decode cX6_odds 71 = .ok (.ifCond .ne 11, 3) := by decide +kernel
theorem dX6_odds_74 : decode cX6_odds 74 = .ok (.iload 6, 2) := by decide +kernel
theorem dX6_odds_76 : decode cX6_odds 76 = .ok (.iload 7, 2) := by decide +kernel
theorem dX6_odds_78 : decode cX6_odds 78 = .ok (.idiv, 1) := by decide +kernel
theorem dX6_odds_79 : decode cX6_odds 79 = .ok (.goto 8, 3) := by decide +kernel
theorem dX6_odds_82 : decode cX6_odds 82 = .ok (.iload 5, 2) := by decide +kernel
theorem dX6_odds_84 : decode cX6_odds 84 = .ok (.iload 7, 2) := by decide +kernel
theorem dX6_odds_86 : decode cX6_odds 86 = .ok (.idiv, 1) := by decide +kernel
theorem dX6_odds_87 : decode cX6_odds 87 = .ok (.ireturn, 1) := by decide +kernel
set_option maxRecDepth 20000 in
theorem ggX6_saw_X6_isRock : GoodIn wsX6_saw wsX6_isRock := goodIn_r _ [8, 9, 10, 11, 7, 12, 13, 14, 15, 22, 23, 24, 25, 26, 27, 28, 29, 30, 31, 32, 33, 34, 35, 36, 37, 38, 39, 40, 41] (by decide +kernel) (by decide +kernel)
set_option maxRecDepth 20000 in
theorem gX6_saw_X6_isRock : GoodIn wsX6_saw (wsV RX6 122 RX6 yX6_isRock wsX6_isRock) := goodIn_app (goodIn_of _ (by decide +kernel)) ggX6_saw_X6_isRock
set_option maxRecDepth 20000 in
theorem ggX6_saw_X6_isFlash : GoodIn wsX6_saw wsX6_isFlash := goodIn_r _ [18] (by decide +kernel) (by decide +kernel)
set_option maxRecDepth 20000 in
theorem gX6_saw_X6_isFlash : GoodIn wsX6_saw (va_wsS RX6 201 yX6_isFlash wsX6_isFlash) := goodIn_app (goodIn_of _ (by decide +kernel)) ggX6_saw_X6_isFlash
set_option maxRecDepth 20000 in
theorem ggX6_saw_X6_put : GoodIn wsX6_saw wsX6_put := goodIn_r _ [21] (by decide +kernel) (by decide +kernel)
set_option maxRecDepth 20000 in
theorem gX6_saw_X6_put : GoodIn wsX6_saw (va_wsS RX6 219 yX6_put wsX6_put) := goodIn_app (goodIn_of _ (by decide +kernel)) ggX6_saw_X6_put
theorem dX6_saw_0 : decode cX6_saw 0 = .ok (.aload_n 0, 1) := by decide +kernel
theorem dX6_saw_1 : decode cX6_saw 1 = .ok (.iload_n 1, 1) := by decide +kernel
theorem dX6_saw_2 : decode cX6_saw 2 = .ok (.invokevirtual 122, 3) := by decide +kernel
theorem dX6_saw_5 : decode cX6_saw 5 = .ok (.ifCond .eq 10, 3) := by decide +kernel
theorem dX6_saw_8 : decode cX6_saw 8 = .ok (.iload_n 2, 1) := by decide +kernel
theorem dX6_saw_9 : decode cX6_saw 9 = .ok (.invokestatic 201, 3) := by decide +kernel
theorem dX6_saw_12 : decode cX6_saw 12 = .ok (.ifCond .ne 5, 3) := by decide +kernel
theorem dX6_saw_15 : decode cX6_saw 15 = .ok (.iconst (-1), 1) := by decide +kernel
theorem dX6_saw_16 : decode cX6_saw 16 = .ok (.ireturn, 1) := by decide +kernel
theorem dX6_saw_17 : decode cX6_saw 17 = .ok (.aload_n 0, 1) := by decide +kernel
theorem dX6_saw_18 : decode cX6_saw 18 = .ok (.getfield 87, 3) := by decide +kernel
theorem dX6_saw_21 : decode cX6_saw 21 = .ok (.bipush 6, 2) := by decide +kernel
theorem dX6_saw_23 : decode cX6_saw 23 = .ok (.if_icmp .lt 6, 3) := by decide +kernel
theorem dX6_saw_26 : decode cX6_saw 26 = .ok (.bipush (-3), 2) := by decide +kernel
theorem dX6_saw_28 : decode cX6_saw 28 = .ok (.ireturn, 1) := by decide +kernel
theorem dX6_saw_29 : decode cX6_saw 29 = .ok (.aload_n 0, 1) := by decide +kernel
theorem dX6_saw_30 : decode cX6_saw 30 = .ok (.getfield 55, 3) := by decide +kernel
theorem dX6_saw_33 : decode cX6_saw 33 = .ok (.aload_n 0, 1) := by decide +kernel
theorem dX6_saw_34 : decode cX6_saw 34 = .ok (.getfield 87, 3) := by decide +kernel
theorem dX6_saw_37 : decode cX6_saw 37 = .ok (.iload_n 1, 1) := by decide +kernel
theorem dX6_saw_38 : decode cX6_saw 38 = .ok (.invokestatic 219, 3) := by decide +kernel
theorem dX6_saw_41 : decode cX6_saw 41 = .ok (.aload_n 0, 1) := by decide +kernel
theorem dX6_saw_42 : decode cX6_saw 42 = .ok (.getfield 59, 3) := by decide +kernel
theorem dX6_saw_45 : decode cX6_saw 45 = .ok (.aload_n 0, 1) := by decide +kernel
theorem dX6_saw_46 : decode cX6_saw 46 = .ok (.getfield 87, 3) := by decide +kernel
theorem dX6_saw_49 : decode cX6_saw 49 = .ok (.iload_n 2, 1) := by decide +kernel
theorem dX6_saw_50 : decode cX6_saw 50 = .ok (.invokestatic 219, 3) := by decide +kernel
theorem dX6_saw_53 : decode cX6_saw 53 = .ok (.aload_n 0, 1) := by decide +kernel
theorem dX6_saw_54 : decode cX6_saw 54 = .ok (.dup, 1) := by decide +kernel
theorem dX6_saw_55 : decode cX6_saw 55 = .ok (.getfield 87, 3) := by decide +kernel
theorem dX6_saw_58 : decode cX6_saw 58 = .ok (.iconst 1, 1) := by decide +kernel
theorem dX6_saw_59 : decode cX6_saw 59 = .ok (.iadd, 1) := by decide +kernel
theorem dX6_saw_60 : decode cX6_saw 60 = .ok (.putfield 87, 3) := by decide +kernel
theorem dX6_saw_63 : decode cX6_saw 63 = .ok (.aload_n 0, 1) := by decide +kernel
theorem dX6_saw_64 : decode cX6_saw 64 = .ok (.getfield 87, 3) := by decide +kernel
theorem dX6_saw_67 : decode cX6_saw 67 = .ok (.ireturn, 1) := by decide +kernel
theorem dX6_forget_0 : decode cX6_forget 0 = .ok (.aload_n 0, 1) := by decide +kernel
theorem dX6_forget_1 : decode cX6_forget 1 = .ok (.getfield 87, 3) := by decide +kernel
theorem dX6_forget_4 : decode cX6_forget 4 = .ok (.istore_n 1, 1) := by decide +kernel
theorem dX6_forget_5 : decode cX6_forget 5 = .ok (.aload_n 0, 1) := by decide +kernel
theorem dX6_forget_6 : decode cX6_forget 6 = .ok (.iconst 0, 1) := by decide +kernel
theorem dX6_forget_7 : decode cX6_forget 7 = .ok (.putfield 87, 3) := by decide +kernel
theorem dX6_forget_10 : decode cX6_forget 10 = .ok (.iload_n 1, 1) := by decide +kernel
theorem dX6_forget_11 : decode cX6_forget 11 = .ok (.ireturn, 1) := by decide +kernel
set_option maxRecDepth 20000 in
theorem ggX6_fits_X6_waysThatFit : GoodIn wsX6_fits wsX6_waysThatFit := goodIn_r _ [5, 6, 7, 8, 9, 10, 11, 4, 12, 13, 14, 15, 16, 17, 18, 19, 20, 21, 22, 23, 24, 25, 26, 27, 28, 29, 30, 31, 32, 33, 34, 35, 36, 37, 53, 54, 55, 56, 57, 58, 59, 60, 61, 62, 63, 64, 65, 66, 67, 68, 69, 70, 71, 72, 73, 74, 75, 76, 77] (by decide +kernel) (by decide +kernel)
set_option maxRecDepth 20000 in
theorem gX6_fits_X6_waysThatFit : GoodIn wsX6_fits (wsV RX6 223 RX6 yX6_waysThatFit wsX6_waysThatFit) := goodIn_app (goodIn_of _ (by decide +kernel)) ggX6_fits_X6_waysThatFit
set_option maxRecDepth 20000 in
theorem ggX6_fits_X6_isRock : GoodIn wsX6_fits wsX6_isRock := goodIn_r _ [41, 42, 43, 44, 4, 45, 6, 46, 47, 53, 54, 55, 56, 57, 58, 59, 60, 61, 62, 63, 64, 65, 66, 72, 73, 74, 75, 76, 77] (by decide +kernel) (by decide +kernel)
set_option maxRecDepth 20000 in
theorem gX6_fits_X6_isRock : GoodIn wsX6_fits (wsV RX6 122 RX6 yX6_isRock wsX6_isRock) := goodIn_app (goodIn_of _ (by decide +kernel)) ggX6_fits_X6_isRock
set_option maxRecDepth 20000 in
theorem ggX6_fits_X6_sureOf : GoodIn wsX6_fits wsX6_sureOf := goodIn_r _ [51, 6, 7, 8, 9, 10, 11, 4, 12, 13, 14, 15, 16, 17, 18, 19, 20, 21, 22, 23, 24, 25, 26, 27, 28, 29, 30, 31, 32, 33, 34, 35, 36, 37, 52, 53, 54, 55, 56, 57, 58, 59, 60, 61, 62, 63, 64, 65, 66, 67, 68, 69, 70, 71, 72, 73, 74, 75, 76, 77] (by decide +kernel) (by decide +kernel)
set_option maxRecDepth 20000 in
theorem gX6_fits_X6_sureOf : GoodIn wsX6_fits (wsV RX6 226 RX6 yX6_sureOf wsX6_sureOf) := goodIn_app (goodIn_of _ (by decide +kernel)) ggX6_fits_X6_sureOf
theorem dX6_fits_0 : decode cX6_fits 0 = .ok (.iload_n 1, 1) := by decide +kernel
theorem dX6_fits_1 : decode cX6_fits 1 = .ok (.iconst (-1), 1) := by decide +kernel
theorem dX6_fits_2 : decode cX6_fits 2 = .ok (.if_icmp .ne 8, 3) := by decide +kernel
theorem dX6_fits_5 : decode cX6_fits 5 = .ok (.aload_n 0, 1) := by decide +kernel
theorem dX6_fits_6 : decode cX6_fits 6 = .ok (.invokevirtual 223, 3) := by decide +kernel
theorem dX6_fits_9 : decode cX6_fits 9 = .ok (.ireturn, 1) := by decide +kernel
theorem dX6_fits_10 : decode cX6_fits 10 = .ok (.aload_n 0, 1) := by decide +kernel
theorem dX6_fits_11 : decode cX6_fits 11 = .ok (.iload_n 1, 1) := by decide +kernel
theorem dX6_fits_12 : decode cX6_fits 12 = .ok (.invokevirtual 122, 3) := by decide +kernel
theorem dX6_fits_15 : decode cX6_fits 15 = .ok (.ifCond .eq 11, 3) := by decide +kernel
theorem dX6_fits_18 : decode cX6_fits 18 = .ok (.aload_n 0, 1) := by decide +kernel
theorem dX6_fits_19 : decode cX6_fits 19 = .ok (.iload_n 1, 1) := by decide +kernel
theorem dX6_fits_20 : decode cX6_fits 20 = .ok (.invokevirtual 226, 3) := by decide +kernel
theorem dX6_fits_23 : decode cX6_fits 23 = .ok (.goto 4, 3) := by decide +kernel
theorem dX6_fits_26 : decode cX6_fits 26 = .ok (.iconst (-1), 1) := by decide +kernel
theorem dX6_fits_27 : decode cX6_fits 27 = .ok (.ireturn, 1) := by decide +kernel
set_option maxRecDepth 20000 in
theorem ggX6_mark_X6_isKeeper : GoodIn wsX6_mark wsX6_isKeeper := goodIn_r _ [6, 7, 8, 9, 69, 70, 71, 72, 73, 74, 75, 76, 77, 78, 79, 80, 81, 82, 83, 84, 85, 86, 87, 88] (by decide +kernel) (by decide +kernel)
set_option maxRecDepth 20000 in
theorem gX6_mark_X6_isKeeper : GoodIn wsX6_mark (wsV RX6 90 RX6 yX6_isKeeper wsX6_isKeeper) := goodIn_app (goodIn_of _ (by decide +kernel)) ggX6_mark_X6_isKeeper
set_option maxRecDepth 20000 in
theorem ggX6_mark_X6_markOfKeeper : GoodIn wsX6_mark wsX6_markOfKeeper := goodIn_r _ [13, 14, 7, 8, 15, 16, 17, 18, 19, 20, 69, 70, 71, 72, 73, 74, 75, 76, 77, 78, 79, 80, 81, 82, 83, 84, 85, 86, 87, 88] (by decide +kernel) (by decide +kernel)
set_option maxRecDepth 20000 in
theorem gX6_mark_X6_markOfKeeper : GoodIn wsX6_mark (wsV RX6 230 RX6 yX6_markOfKeeper wsX6_markOfKeeper) := goodIn_app (goodIn_of _ (by decide +kernel)) ggX6_mark_X6_markOfKeeper
set_option maxRecDepth 20000 in
theorem ggX6_mark_X6_markOfSleeper : GoodIn wsX6_mark wsX6_markOfSleeper := goodIn_r _ [24, 14, 25, 10, 11, 12, 5, 13, 7, 8, 15, 16, 17, 18, 19, 20, 26, 27, 28, 29, 30, 31, 32, 33, 34, 35, 36, 37, 38, 39, 40, 41, 42, 43, 44, 45, 46, 47, 69, 70, 71, 72, 73, 74, 75, 76, 77, 78, 79, 80, 81, 82, 83, 84, 85, 86, 87, 88, 89, 90, 91, 92, 93, 94, 95, 96, 97, 98, 99, 100] (by decide +kernel) (by decide +kernel)
set_option maxRecDepth 20000 in
theorem gX6_mark_X6_markOfSleeper : GoodIn wsX6_mark (wsV RX6 233 RX6 yX6_markOfSleeper wsX6_markOfSleeper) := goodIn_app (goodIn_of _ (by decide +kernel)) ggX6_mark_X6_markOfSleeper
set_option maxRecDepth 20000 in
theorem ggX6_mark_X6_markOfPilot : GoodIn wsX6_mark wsX6_markOfPilot := goodIn_r _ [51, 14, 52, 7, 30, 31, 32, 10, 11, 12, 5, 13, 8, 15, 16, 17, 18, 19, 20, 37, 38, 39, 40, 41, 42, 43, 44, 45, 46, 47, 69, 70, 71, 72, 73, 74, 75, 76, 77, 78, 79, 80, 81, 82, 89, 90, 91, 92, 93, 94, 95, 83, 84, 85, 86, 87, 88, 96, 97, 98, 99, 100] (by decide +kernel) (by decide +kernel)
set_option maxRecDepth 20000 in
theorem gX6_mark_X6_markOfPilot : GoodIn wsX6_mark (wsV RX6 236 RX6 yX6_markOfPilot wsX6_markOfPilot) := goodIn_app (goodIn_of _ (by decide +kernel)) ggX6_mark_X6_markOfPilot
set_option maxRecDepth 20000 in
theorem ggX6_mark_X6_markOfHorn : GoodIn wsX6_mark wsX6_markOfHorn := goodIn_r _ [56, 14, 57, 21, 22, 23, 5, 24, 25, 10, 11, 12, 13, 7, 8, 15, 16, 17, 18, 19, 20, 26, 27, 28, 29, 30, 31, 32, 33, 34, 35, 36, 37, 38, 39, 40, 41, 42, 43, 44, 45, 46, 47, 69, 70, 71, 72, 73, 74, 75, 76, 77, 78, 79, 80, 81, 82, 83, 84, 85, 86, 87, 88, 89, 90, 91, 92, 93, 94, 95, 96, 97, 98, 99, 100] (by decide +kernel) (by decide +kernel)
set_option maxRecDepth 20000 in
theorem gX6_mark_X6_markOfHorn : GoodIn wsX6_mark (wsV RX6 239 RX6 yX6_markOfHorn wsX6_markOfHorn) := goodIn_app (goodIn_of _ (by decide +kernel)) ggX6_mark_X6_markOfHorn
set_option maxRecDepth 20000 in
theorem ggX6_mark_X6_markOfCat : GoodIn wsX6_mark wsX6_markOfCat := goodIn_r _ [61, 14, 62, 48, 49, 50, 5, 51, 52, 7, 30, 31, 32, 10, 11, 12, 13, 8, 15, 16, 17, 18, 19, 20, 37, 38, 39, 40, 41, 42, 43, 44, 45, 46, 47, 69, 70, 71, 72, 73, 74, 75, 76, 77, 78, 79, 80, 81, 82, 89, 90, 91, 92, 93, 94, 95, 83, 84, 85, 86, 87, 88, 96, 97, 98, 99, 100] (by decide +kernel) (by decide +kernel)
set_option maxRecDepth 20000 in
theorem gX6_mark_X6_markOfCat : GoodIn wsX6_mark (wsV RX6 242 RX6 yX6_markOfCat wsX6_markOfCat) := goodIn_app (goodIn_of _ (by decide +kernel)) ggX6_mark_X6_markOfCat
set_option maxRecDepth 20000 in
theorem ggX6_mark_X6_markOfWife : GoodIn wsX6_mark wsX6_markOfWife := goodIn_r _ [66, 14, 67, 31, 68, 10, 11, 12, 5, 13, 7, 8, 15, 16, 17, 18, 19, 20, 69, 70, 71, 72, 73, 74, 75, 76, 77, 78, 79, 80, 89, 90, 91, 92, 93, 94, 95, 81, 82, 83, 84, 85, 86, 87, 88] (by decide +kernel) (by decide +kernel)
set_option maxRecDepth 20000 in
theorem gX6_mark_X6_markOfWife : GoodIn wsX6_mark (wsV RX6 245 RX6 yX6_markOfWife wsX6_markOfWife) := goodIn_app (goodIn_of _ (by decide +kernel)) ggX6_mark_X6_markOfWife
theorem dX6_mark_0 : decode cX6_mark 0 = .ok (.aload_n 0, 1) := by decide +kernel
theorem dX6_mark_1 : decode cX6_mark 1 = .ok (.iload_n 2, 1) := by decide +kernel
theorem dX6_mark_2 : decode cX6_mark 2 = .ok (.invokevirtual 90, 3) := by decide +kernel
theorem dX6_mark_5 : decode cX6_mark 5 = .ok (.ifCond .ne 6, 3) := by decide +kernel
theorem dX6_mark_8 : decode cX6_mark 8 = .ok (.ldc 229, 2) := by decide +kernel
theorem dX6_mark_10 : decode cX6_mark 10 = .ok (.ireturn, 1) := by decide +kernel
theorem dX6_mark_11 : decode cX6_mark 11 = .ok (.iload_n 1, 1) := by decide +kernel
theorem dX6_mark_12 : decode cX6_mark 12 = .ok (.tableswitch 76 0 5 #[40, 46, 52, 58, 64, 70], 40) := by decide +kernel
theorem dX6_mark_52 : decode cX6_mark 52 = .ok (.aload_n 0, 1) := by decide +kernel
theorem dX6_mark_53 : decode cX6_mark 53 = .ok (.iload_n 2, 1) := by decide +kernel
theorem dX6_mark_54 : decode cX6_mark 54 = .ok (.invokevirtual 230, 3) := by decide +kernel
theorem dX6_mark_57 : decode cX6_mark 57 = .ok (.ireturn, 1) := by decide +kernel
theorem dX6_mark_58 : decode cX6_mark 58 = .ok (.aload_n 0, 1) := by decide +kernel
theorem dX6_mark_59 : decode cX6_mark 59 = .ok (.iload_n 2, 1) := by decide +kernel
theorem dX6_mark_60 : decode cX6_mark 60 = .ok (.invokevirtual 233, 3) := by decide +kernel
theorem dX6_mark_63 : decode cX6_mark 63 = .ok (.ireturn, 1) := by decide +kernel
theorem dX6_mark_64 : decode cX6_mark 64 = .ok (.aload_n 0, 1) := by decide +kernel
theorem dX6_mark_65 : decode cX6_mark 65 = .ok (.iload_n 2, 1) := by decide +kernel
theorem dX6_mark_66 : decode cX6_mark 66 = .ok (.invokevirtual 236, 3) := by decide +kernel
theorem dX6_mark_69 : decode cX6_mark 69 = .ok (.ireturn, 1) := by decide +kernel
theorem dX6_mark_70 : decode cX6_mark 70 = .ok (.aload_n 0, 1) := by decide +kernel
theorem dX6_mark_71 : decode cX6_mark 71 = .ok (.iload_n 2, 1) := by decide +kernel
theorem dX6_mark_72 : decode cX6_mark 72 = .ok (.invokevirtual 239, 3) := by decide +kernel
theorem dX6_mark_75 : decode cX6_mark 75 = .ok (.ireturn, 1) := by decide +kernel
theorem dX6_mark_76 : decode cX6_mark 76 = .ok (.aload_n 0, 1) := by decide +kernel
theorem dX6_mark_77 : decode cX6_mark 77 = .ok (.iload_n 2, 1) := by decide +kernel
theorem dX6_mark_78 : decode cX6_mark 78 = .ok (.invokevirtual 242, 3) := by decide +kernel
theorem dX6_mark_81 : decode cX6_mark 81 = .ok (.ireturn, 1) := by decide +kernel
theorem dX6_mark_82 : decode cX6_mark 82 = .ok (.aload_n 0, 1) := by decide +kernel
theorem dX6_mark_83 : decode cX6_mark 83 = .ok (.iload_n 2, 1) := by decide +kernel
theorem dX6_mark_84 : decode cX6_mark 84 = .ok (.invokevirtual 245, 3) := by decide +kernel
theorem dX6_mark_87 : decode cX6_mark 87 = .ok (.ireturn, 1) := by decide +kernel
theorem dX6_mark_88 : decode cX6_mark 88 = .ok (.ldc 229, 2) := by decide +kernel
theorem dX6_mark_90 : decode cX6_mark 90 = .ok (.ireturn, 1) := by decide +kernel
set_option maxRecDepth 20000 in
theorem ggX6_keep_X6_imageOf : GoodIn wsX6_keep wsX6_imageOf := goodIn_r _ [8, 9, 10, 26, 27, 28, 29, 30, 31, 32, 33, 34, 35, 36, 37] (by decide +kernel) (by decide +kernel)
set_option maxRecDepth 20000 in
theorem gX6_keep_X6_imageOf : GoodIn wsX6_keep (wsV RX6 248 RX6 yX6_imageOf wsX6_imageOf) := goodIn_app (goodIn_of _ (by decide +kernel)) ggX6_keep_X6_imageOf
set_option maxRecDepth 20000 in
theorem ggX6_keep_X0_become : GoodIn wsX6_keep wsX0_become := goodIn_r _ [15, 16, 17, 18, 19, 20, 21, 22, 23, 24, 25, 38, 39, 40, 41, 42, 43, 44] (by decide +kernel) (by decide +kernel)
set_option maxRecDepth 20000 in
theorem gX6_keep_X0_become : GoodIn wsX6_keep (wsV RX6 252 RX0 yX0_become wsX0_become) := goodIn_app (goodIn_of _ (by decide +kernel)) ggX6_keep_X0_become
theorem dX6_keep_0 : decode cX6_keep 0 = .ok (.aload_n 0, 1) := by decide +kernel
theorem dX6_keep_1 : decode cX6_keep 1 = .ok (.iload_n 1, 1) := by decide +kernel
theorem dX6_keep_2 : decode cX6_keep 2 = .ok (.invokevirtual 248, 3) := by decide +kernel
theorem dX6_keep_5 : decode cX6_keep 5 = .ok (.astore_n 2, 1) := by decide +kernel
theorem dX6_keep_6 : decode cX6_keep 6 = .ok (.aload_n 2, 1) := by decide +kernel
theorem dX6_keep_7 : decode cX6_keep 7 = .ok (.ifnonnull 5, 3) := by decide +kernel
theorem dX6_keep_10 : decode cX6_keep 10 = .ok (.iconst (-1), 1) := by decide +kernel
theorem dX6_keep_11 : decode cX6_keep 11 = .ok (.ireturn, 1) := by decide +kernel
theorem dX6_keep_12 : decode cX6_keep 12 = .ok (.aload_n 2, 1) := by decide +kernel
theorem dX6_keep_13 : decode cX6_keep 13 = .ok (.aload_n 0, 1) := by decide +kernel
theorem dX6_keep_14 : decode cX6_keep 14 = .ok (.getfield 45, 3) := by decide +kernel
theorem dX6_keep_17 : decode cX6_keep 17 = .ok (.invokevirtual 252, 3) := by decide +kernel
theorem dX6_keep_20 : decode cX6_keep 20 = .ok (.aload_n 2, 1) := by decide +kernel
theorem dX6_keep_21 : decode cX6_keep 21 = .ok (.iconst 1, 1) := by decide +kernel
theorem dX6_keep_22 : decode cX6_keep 22 = .ok (.putfield 255, 3) := by decide +kernel
theorem dX6_keep_25 : decode cX6_keep 25 = .ok (.aload_n 0, 1) := by decide +kernel
theorem dX6_keep_26 : decode cX6_keep 26 = .ok (.getfield 45, 3) := by decide +kernel
theorem dX6_keep_29 : decode cX6_keep 29 = .ok (.getfield 132, 3) := by decide +kernel
theorem dX6_keep_32 : decode cX6_keep 32 = .ok (.ireturn, 1) := by decide +kernel
set_option maxRecDepth 20000 in
theorem ggX6_back_X6_imageOf : GoodIn wsX6_back wsX6_imageOf := goodIn_r _ [8, 9, 10, 33, 34, 35, 36, 37, 38, 39, 40, 41, 42, 43, 44] (by decide +kernel) (by decide +kernel)
set_option maxRecDepth 20000 in
theorem gX6_back_X6_imageOf : GoodIn wsX6_back (wsV RX6 248 RX6 yX6_imageOf wsX6_imageOf) := goodIn_app (goodIn_of _ (by decide +kernel)) ggX6_back_X6_imageOf
set_option maxRecDepth 20000 in
theorem ggX6_back_X0_become : GoodIn wsX6_back wsX0_become := goodIn_r _ [15, 16, 17, 18, 19, 20, 21, 22, 23, 24, 25, 26, 27, 28, 29, 30, 31, 32] (by decide +kernel) (by decide +kernel)
set_option maxRecDepth 20000 in
theorem gX6_back_X0_become : GoodIn wsX6_back (wsV RX6 252 RX0 yX0_become wsX0_become) := goodIn_app (goodIn_of _ (by decide +kernel)) ggX6_back_X0_become
theorem dX6_back_0 : decode cX6_back 0 = .ok (.aload_n 0, 1) := by decide +kernel
theorem dX6_back_1 : decode cX6_back 1 = .ok (.iload_n 1, 1) := by decide +kernel
theorem dX6_back_2 : decode cX6_back 2 = .ok (.invokevirtual 248, 3) := by decide +kernel
theorem dX6_back_5 : decode cX6_back 5 = .ok (.astore_n 2, 1) := by decide +kernel
theorem dX6_back_6 : decode cX6_back 6 = .ok (.aload_n 2, 1) := by decide +kernel
theorem dX6_back_7 : decode cX6_back 7 = .ok (.ifnonnull 5, 3) := by decide +kernel
theorem dX6_back_10 : decode cX6_back 10 = .ok (.iconst (-1), 1) := by decide +kernel
theorem dX6_back_11 : decode cX6_back 11 = .ok (.ireturn, 1) := by decide +kernel
theorem dX6_back_12 : decode cX6_back 12 = .ok (.aload_n 2, 1) := by decide +kernel
theorem dX6_back_13 : decode cX6_back 13 = .ok (.getfield 255, 3) := by decide +kernel
theorem dX6_back_16 : decode cX6_back 16 = .ok (.ifCond .ne 6, 3) := by decide +kernel
theorem dX6_back_19 : decode cX6_back 19 = .ok (.bipush (-2), 2) := by decide +kernel
theorem dX6_back_21 : decode cX6_back 21 = .ok (.ireturn, 1) := by decide +kernel
theorem dX6_back_22 : decode cX6_back 22 = .ok (.aload_n 0, 1) := by decide +kernel
theorem dX6_back_23 : decode cX6_back 23 = .ok (.getfield 45, 3) := by decide +kernel
theorem dX6_back_26 : decode cX6_back 26 = .ok (.aload_n 2, 1) := by decide +kernel
theorem dX6_back_27 : decode cX6_back 27 = .ok (.invokevirtual 252, 3) := by decide +kernel
theorem dX6_back_30 : decode cX6_back 30 = .ok (.aload_n 0, 1) := by decide +kernel
theorem dX6_back_31 : decode cX6_back 31 = .ok (.getfield 45, 3) := by decide +kernel
theorem dX6_back_34 : decode cX6_back 34 = .ok (.getfield 132, 3) := by decide +kernel
theorem dX6_back_37 : decode cX6_back 37 = .ok (.ireturn, 1) := by decide +kernel
theorem dX6_count_0 : decode cX6_count 0 = .ok (.iload_n 1, 1) := by decide +kernel
theorem dX6_count_1 : decode cX6_count 1 = .ok (.tableswitch 93 0 5 #[39, 50, 61, 72, 77, 85], 39) := by decide +kernel
theorem dX6_count_40 : decode cX6_count 40 = .ok (.aload_n 0, 1) := by decide +kernel
theorem dX6_count_41 : decode cX6_count 41 = .ok (.getfield 26, 3) := by decide +kernel
theorem dX6_count_44 : decode cX6_count 44 = .ok (.getfield 93, 3) := by decide +kernel
theorem dX6_count_47 : decode cX6_count 47 = .ok (.getfield 204, 3) := by decide +kernel
theorem dX6_count_50 : decode cX6_count 50 = .ok (.ireturn, 1) := by decide +kernel
theorem dX6_count_51 : decode cX6_count 51 = .ok (.aload_n 0, 1) := by decide +kernel
theorem dX6_count_52 : decode cX6_count 52 = .ok (.getfield 26, 3) := by decide +kernel
theorem dX6_count_55 : decode cX6_count 55 = .ok (.getfield 93, 3) := by decide +kernel
theorem dX6_count_58 : decode cX6_count 58 = .ok (.getfield 259, 3) := by decide +kernel
theorem dX6_count_61 : decode cX6_count 61 = .ok (.ireturn, 1) := by decide +kernel
theorem dX6_count_62 : decode cX6_count 62 = .ok (.aload_n 0, 1) := by decide +kernel
theorem dX6_count_63 : decode cX6_count 63 = .ok (.getfield 26, 3) := by decide +kernel
theorem dX6_count_66 : decode cX6_count 66 = .ok (.getfield 93, 3) := by decide +kernel
theorem dX6_count_69 : decode cX6_count 69 = .ok (.getfield 262, 3) := by decide +kernel
theorem dX6_count_72 : decode cX6_count 72 = .ok (.ireturn, 1) := by decide +kernel
theorem dX6_count_73 : decode cX6_count 73 = .ok (.aload_n 0, 1) := by decide +kernel
theorem dX6_count_74 : decode cX6_count 74 = .ok (.getfield 87, 3) := by decide +kernel
theorem dX6_count_77 : decode cX6_count 77 = .ok (.ireturn, 1) := by decide +kernel
theorem dX6_count_78 : decode cX6_count 78 = .ok (.aload_n 0, 1) := by decide +kernel
theorem dX6_count_79 : decode cX6_count 79 = .ok (.getfield 45, 3) := by decide +kernel
theorem dX6_count_82 : decode cX6_count 82 = .ok (.getfield 169, 3) := by decide +kernel
theorem dX6_count_85 : decode cX6_count 85 = .ok (.ireturn, 1) := by decide +kernel
theorem dX6_count_86 : decode cX6_count 86 = .ok (.aload_n 0, 1) := by decide +kernel
theorem dX6_count_87 : decode cX6_count 87 = .ok (.getfield 10, 3) := by decide +kernel
theorem dX6_count_90 : decode cX6_count 90 = .ok (.getfield 66, 3) := by decide +kernel
theorem dX6_count_93 : decode cX6_count 93 = .ok (.ireturn, 1) := by decide +kernel
theorem dX6_count_94 : decode cX6_count 94 = .ok (.iconst (-1), 1) := by decide +kernel
theorem dX6_count_95 : decode cX6_count 95 = .ok (.ireturn, 1) := by decide +kernel
theorem dX6_trace_0 : decode cX6_trace 0 = .ok (.aload_n 0, 1) := by decide +kernel
theorem dX6_trace_1 : decode cX6_trace 1 = .ok (.getfield 265, 3) := by decide +kernel
theorem dX6_trace_4 : decode cX6_trace 4 = .ok (.lreturn, 1) := by decide +kernel
theorem dX6_isKeeper_0 : decode cX6_isKeeper 0 = .ok (.iload_n 1, 1) := by decide +kernel
theorem dX6_isKeeper_1 : decode cX6_isKeeper 1 = .ok (.ifCond .lt 21, 3) := by decide +kernel
theorem dX6_isKeeper_4 : decode cX6_isKeeper 4 = .ok (.iload_n 1, 1) := by decide +kernel
theorem dX6_isKeeper_5 : decode cX6_isKeeper 5 = .ok (.aload_n 0, 1) := by decide +kernel
theorem dX6_isKeeper_6 : decode cX6_isKeeper 6 = .ok (.getfield 26, 3) := by decide +kernel
theorem dX6_isKeeper_9 : decode cX6_isKeeper 9 = .ok (.getfield 93, 3) := by decide +kernel
theorem dX6_isKeeper_12 : decode cX6_isKeeper 12 = .ok (.getfield 204, 3) := by decide +kernel
theorem dX6_isKeeper_15 : decode cX6_isKeeper 15 = .ok (.if_icmp .ge 7, 3) := by decide +kernel
theorem dX6_isKeeper_18 : decode cX6_isKeeper 18 = .ok (.iconst 1, 1) := by decide +kernel
theorem dX6_isKeeper_19 : decode cX6_isKeeper 19 = .ok (.goto 4, 3) := by decide +kernel
theorem dX6_isKeeper_22 : decode cX6_isKeeper 22 = .ok (.iconst 0, 1) := by decide +kernel
theorem dX6_isKeeper_23 : decode cX6_isKeeper 23 = .ok (.ireturn, 1) := by decide +kernel
set_option maxRecDepth 20000 in
theorem ggX6_isRock_X6_isKeeper : GoodIn wsX6_isRock wsX6_isKeeper := goodIn_r _ [5, 6, 7, 8, 9, 10, 11, 12, 13, 14, 15, 16, 17, 18, 19, 20, 21, 22, 23, 24, 25, 26, 27, 28] (by decide +kernel) (by decide +kernel)
set_option maxRecDepth 20000 in
theorem gX6_isRock_X6_isKeeper : GoodIn wsX6_isRock (wsV RX6 90 RX6 yX6_isKeeper wsX6_isKeeper) := goodIn_app (goodIn_of _ (by decide +kernel)) ggX6_isRock_X6_isKeeper
theorem dX6_isRock_0 : decode cX6_isRock 0 = .ok (.aload_n 0, 1) := by decide +kernel
theorem dX6_isRock_1 : decode cX6_isRock 1 = .ok (.iload_n 1, 1) := by decide +kernel
theorem dX6_isRock_2 : decode cX6_isRock 2 = .ok (.invokevirtual 90, 3) := by decide +kernel
theorem dX6_isRock_5 : decode cX6_isRock 5 = .ok (.ireturn, 1) := by decide +kernel
theorem dX6_isFlash_0 : decode cX6_isFlash 0 = .ok (.iload_n 0, 1) := by decide +kernel
theorem dX6_isFlash_1 : decode cX6_isFlash 1 = .ok (.iconst 1, 1) := by decide +kernel
theorem dX6_isFlash_2 : decode cX6_isFlash 2 = .ok (.if_icmp .lt 13, 3) := by decide +kernel
theorem dX6_isFlash_5 : decode cX6_isFlash 5 = .ok (.iload_n 0, 1) := by decide +kernel
theorem dX6_isFlash_6 : decode cX6_isFlash 6 = .ok (.bipush 9, 2) := by decide +kernel
theorem dX6_isFlash_8 : decode cX6_isFlash 8 = .ok (.if_icmp .gt 7, 3) := by decide +kernel
theorem dX6_isFlash_11 : decode cX6_isFlash 11 = .ok (.iconst 1, 1) := by decide +kernel
theorem dX6_isFlash_12 : decode cX6_isFlash 12 = .ok (.goto 4, 3) := by decide +kernel
theorem dX6_isFlash_15 : decode cX6_isFlash 15 = .ok (.iconst 0, 1) := by decide +kernel
theorem dX6_isFlash_16 : decode cX6_isFlash 16 = .ok (.ireturn, 1) := by decide +kernel
theorem dX6_isZeroOrOne_0 : decode cX6_isZeroOrOne 0 = .ok (.iload_n 0, 1) := by decide +kernel
theorem dX6_isZeroOrOne_1 : decode cX6_isZeroOrOne 1 = .ok (.ifCond .eq 8, 3) := by decide +kernel
theorem dX6_isZeroOrOne_4 : decode cX6_isZeroOrOne 4 = .ok (.iload_n 0, 1) := by decide +kernel
theorem dX6_isZeroOrOne_5 : decode cX6_isZeroOrOne 5 = .ok (.iconst 1, 1) := by decide +kernel
theorem dX6_isZeroOrOne_6 : decode cX6_isZeroOrOne 6 = .ok (.if_icmp .ne 7, 3) := by decide +kernel
theorem dX6_isZeroOrOne_9 : decode cX6_isZeroOrOne 9 = .ok (.iconst 1, 1) := by decide +kernel
theorem dX6_isZeroOrOne_10 : decode cX6_isZeroOrOne 10 = .ok (.goto 4, 3) := by decide +kernel
theorem dX6_isZeroOrOne_13 : decode cX6_isZeroOrOne 13 = .ok (.iconst 0, 1) := by decide +kernel
theorem dX6_isZeroOrOne_14 : decode cX6_isZeroOrOne 14 = .ok (.ireturn, 1) := by decide +kernel
theorem dX6_searchOf_0 : decode cX6_searchOf 0 = .ok (.iload_n 1, 1) := by decide +kernel
theorem dX6_searchOf_1 : decode cX6_searchOf 1 = .ok (.ifCond .ne 10, 3) := by decide +kernel
theorem dX6_searchOf_4 : decode cX6_searchOf 4 = .ok (.aload_n 0, 1) := by decide +kernel
theorem dX6_searchOf_5 : decode cX6_searchOf 5 = .ok (.getfield 35, 3) := by decide +kernel
theorem dX6_searchOf_8 : decode cX6_searchOf 8 = .ok (.goto 16, 3) := by decide +kernel
theorem dX6_searchOf_11 : decode cX6_searchOf 11 = .ok (.iload_n 1, 1) := by decide +kernel
theorem dX6_searchOf_12 : decode cX6_searchOf 12 = .ok (.iconst 1, 1) := by decide +kernel
theorem dX6_searchOf_13 : decode cX6_searchOf 13 = .ok (.if_icmp .ne 10, 3) := by decide +kernel
theorem dX6_searchOf_16 : decode cX6_searchOf 16 = .ok (.aload_n 0, 1) := by decide +kernel
theorem dX6_searchOf_17 : decode cX6_searchOf 17 = .ok (.getfield 39, 3) := by decide +kernel
theorem dX6_searchOf_20 : decode cX6_searchOf 20 = .ok (.goto 4, 3) := by decide +kernel
theorem dX6_searchOf_23 : decode cX6_searchOf 23 = .ok (.aconst_null, 1) := by decide +kernel
theorem dX6_searchOf_24 : decode cX6_searchOf 24 = .ok (.areturn, 1) := by decide +kernel
theorem dX6_imageOf_0 : decode cX6_imageOf 0 = .ok (.iload_n 1, 1) := by decide +kernel
theorem dX6_imageOf_1 : decode cX6_imageOf 1 = .ok (.ifCond .ne 10, 3) := by decide +kernel
theorem dX6_imageOf_4 : decode cX6_imageOf 4 = .ok (.aload_n 0, 1) := by decide +kernel
theorem dX6_imageOf_5 : decode cX6_imageOf 5 = .ok (.getfield 49, 3) := by decide +kernel
theorem dX6_imageOf_8 : decode cX6_imageOf 8 = .ok (.goto 16, 3) := by decide +kernel
theorem dX6_imageOf_11 : decode cX6_imageOf 11 = .ok (.iload_n 1, 1) := by decide +kernel
theorem dX6_imageOf_12 : decode cX6_imageOf 12 = .ok (.iconst 1, 1) := by decide +kernel
theorem dX6_imageOf_13 : decode cX6_imageOf 13 = .ok (.if_icmp .ne 10, 3) := by decide +kernel
theorem dX6_imageOf_16 : decode cX6_imageOf 16 = .ok (.aload_n 0, 1) := by decide +kernel
theorem dX6_imageOf_17 : decode cX6_imageOf 17 = .ok (.getfield 52, 3) := by decide +kernel
theorem dX6_imageOf_20 : decode cX6_imageOf 20 = .ok (.goto 4, 3) := by decide +kernel
theorem dX6_imageOf_23 : decode cX6_imageOf 23 = .ok (.aconst_null, 1) := by decide +kernel
theorem dX6_imageOf_24 : decode cX6_imageOf 24 = .ok (.areturn, 1) := by decide +kernel
set_option maxRecDepth 20000 in
theorem ggX6_driftOf_X5_rockOf : GoodIn wsX6_driftOf wsX5_rockOf := goodIn_r _ [13, 14, 15, 16, 17, 12, 18, 19, 41, 42, 43, 44, 45] (by decide +kernel) (by decide +kernel)
set_option maxRecDepth 20000 in
theorem gX6_driftOf_X5_rockOf : GoodIn wsX6_driftOf (wsV RX6 107 RX5 yX5_rockOf wsX5_rockOf) := goodIn_app (goodIn_of _ (by decide +kernel)) ggX6_driftOf_X5_rockOf
theorem dX6_driftOf_0 : decode cX6_driftOf 0 = .ok (.aload_n 0, 1) := by decide +kernel
theorem dX6_driftOf_1 : decode cX6_driftOf 1 = .ok (.getfield 26, 3) := by decide +kernel
theorem dX6_driftOf_4 : decode cX6_driftOf 4 = .ok (.getfield 100, 3) := by decide +kernel
theorem dX6_driftOf_7 : decode cX6_driftOf 7 = .ok (.aload_n 0, 1) := by decide +kernel
theorem dX6_driftOf_8 : decode cX6_driftOf 8 = .ok (.getfield 45, 3) := by decide +kernel
theorem dX6_driftOf_11 : decode cX6_driftOf 11 = .ok (.getfield 104, 3) := by decide +kernel
theorem dX6_driftOf_14 : decode cX6_driftOf 14 = .ok (.iload_n 1, 1) := by decide +kernel
theorem dX6_driftOf_15 : decode cX6_driftOf 15 = .ok (.invokevirtual 107, 3) := by decide +kernel
theorem dX6_driftOf_18 : decode cX6_driftOf 18 = .ok (.iload_n 1, 1) := by decide +kernel
theorem dX6_driftOf_19 : decode cX6_driftOf 19 = .ok (.isub, 1) := by decide +kernel
theorem dX6_driftOf_20 : decode cX6_driftOf 20 = .ok (.invokestatic 269, 3) := by decide +kernel
theorem dX6_driftOf_23 : decode cX6_driftOf 23 = .ok (.ireturn, 1) := by decide +kernel
set_option maxRecDepth 20000 in
theorem ggX6_drifts_X6_driftOf : GoodIn wsX6_drifts wsX6_driftOf := goodIn_r _ [8, 1, 9, 10, 11, 12, 13, 14, 15, 16, 17, 18, 19, 20, 21, 22, 23, 24, 25, 26, 27, 28, 29, 30, 31, 32, 33, 34, 35, 36, 37, 38, 39, 40, 47, 48, 49, 50, 51, 52, 53, 54, 55, 56, 57, 58] (by decide +kernel) (by decide +kernel)
set_option maxRecDepth 20000 in
theorem gX6_drifts_X6_driftOf : GoodIn wsX6_drifts (wsV RX6 113 RX6 yX6_driftOf wsX6_driftOf) := goodIn_app (goodIn_of _ (by decide +kernel)) ggX6_drifts_X6_driftOf
theorem dX6_drifts_0 : decode cX6_drifts 0 = .ok (.iconst 0, 1) := by decide +kernel
theorem dX6_drifts_1 : decode cX6_drifts 1 = .ok (.istore_n 1, 1) := by decide +kernel
theorem dX6_drifts_2 : decode cX6_drifts 2 = .ok (.iconst 0, 1) := by decide +kernel
theorem dX6_drifts_3 : decode cX6_drifts 3 = .ok (.istore_n 2, 1) := by decide +kernel
theorem dX6_drifts_4 : decode cX6_drifts 4 = .ok (.iload_n 2, 1) := by decide +kernel
theorem dX6_drifts_5 : decode cX6_drifts 5 = .ok (.aload_n 0, 1) := by decide +kernel
theorem dX6_drifts_6 : decode cX6_drifts 6 = .ok (.getfield 26, 3) := by decide +kernel
theorem dX6_drifts_9 : decode cX6_drifts 9 = .ok (.getfield 93, 3) := by decide +kernel
theorem dX6_drifts_12 : decode cX6_drifts 12 = .ok (.getfield 204, 3) := by decide +kernel
theorem dX6_drifts_15 : decode cX6_drifts 15 = .ok (.if_icmp .ge 17, 3) := by decide +kernel
theorem dX6_drifts_18 : decode cX6_drifts 18 = .ok (.iload_n 1, 1) := by decide +kernel
theorem dX6_drifts_19 : decode cX6_drifts 19 = .ok (.aload_n 0, 1) := by decide +kernel
theorem dX6_drifts_20 : decode cX6_drifts 20 = .ok (.iload_n 2, 1) := by decide +kernel
theorem dX6_drifts_21 : decode cX6_drifts 21 = .ok (.invokevirtual 113, 3) := by decide +kernel
theorem dX6_drifts_24 : decode cX6_drifts 24 = .ok (.iadd, 1) := by decide +kernel
theorem dX6_drifts_25 : decode cX6_drifts 25 = .ok (.istore_n 1, 1) := by decide +kernel
theorem dX6_drifts_26 : decode cX6_drifts 26 = .ok (.iinc 2 1, 3) := by decide +kernel
theorem dX6_drifts_29 : decode cX6_drifts 29 = .ok (.goto (-25), 3) := by decide +kernel
theorem dX6_drifts_32 : decode cX6_drifts 32 = .ok (.iload_n 1, 1) := by decide +kernel
theorem dX6_drifts_33 : decode cX6_drifts 33 = .ok (.ireturn, 1) := by decide +kernel
theorem dX6_isOut_0 : decode cX6_isOut 0 = .ok (.aload_n 0, 1) := by decide +kernel
theorem dX6_isOut_1 : decode cX6_isOut 1 = .ok (.getfield 45, 3) := by decide +kernel
theorem dX6_isOut_4 : decode cX6_isOut 4 = .ok (.getfield 162, 3) := by decide +kernel
theorem dX6_isOut_7 : decode cX6_isOut 7 = .ok (.iload_n 1, 1) := by decide +kernel
theorem dX6_isOut_8 : decode cX6_isOut 8 = .ok (.ishr, 1) := by decide +kernel
theorem dX6_isOut_9 : decode cX6_isOut 9 = .ok (.iconst 1, 1) := by decide +kernel
theorem dX6_isOut_10 : decode cX6_isOut 10 = .ok (.iand, 1) := by decide +kernel
theorem dX6_isOut_11 : decode cX6_isOut 11 = .ok (.iconst 1, 1) := by decide +kernel
theorem dX6_isOut_12 : decode cX6_isOut 12 = .ok (.if_icmp .ne 7, 3) := by decide +kernel
theorem dX6_isOut_15 : decode cX6_isOut 15 = .ok (.iconst 1, 1) := by decide +kernel
theorem dX6_isOut_16 : decode cX6_isOut 16 = .ok (.goto 4, 3) := by decide +kernel
theorem dX6_isOut_19 : decode cX6_isOut 19 = .ok (.iconst 0, 1) := by decide +kernel
theorem dX6_isOut_20 : decode cX6_isOut 20 = .ok (.ireturn, 1) := by decide +kernel
set_option maxRecDepth 20000 in
theorem ggX6_flashesNotOut_X6_isOut : GoodIn wsX6_flashesNotOut wsX6_isOut := goodIn_r _ [8, 9, 10, 17, 18, 19, 20, 21, 22, 23, 24, 25, 26, 27, 28, 37, 38, 39, 40, 41, 42, 43] (by decide +kernel) (by decide +kernel)
set_option maxRecDepth 20000 in
theorem gX6_flashesNotOut_X6_isOut : GoodIn wsX6_flashesNotOut (wsV RX6 116 RX6 yX6_isOut wsX6_isOut) := goodIn_app (goodIn_of _ (by decide +kernel)) ggX6_flashesNotOut_X6_isOut
set_option maxRecDepth 20000 in
theorem ggX6_flashesNotOut_X4_flashOf : GoodIn wsX6_flashesNotOut wsX4_flashOf := goodIn_r _ [15, 16, 31, 32, 33, 34, 35, 36] (by decide +kernel) (by decide +kernel)
set_option maxRecDepth 20000 in
theorem gX6_flashesNotOut_X4_flashOf : GoodIn wsX6_flashesNotOut (wsV RX6 96 RX4 yX4_flashOf wsX4_flashOf) := goodIn_app (goodIn_of _ (by decide +kernel)) ggX6_flashesNotOut_X4_flashOf
theorem dX6_flashesNotOut_0 : decode cX6_flashesNotOut 0 = .ok (.iconst 0, 1) := by decide +kernel
theorem dX6_flashesNotOut_1 : decode cX6_flashesNotOut 1 = .ok (.istore_n 1, 1) := by decide +kernel
theorem dX6_flashesNotOut_2 : decode cX6_flashesNotOut 2 = .ok (.iconst 0, 1) := by decide +kernel
theorem dX6_flashesNotOut_3 : decode cX6_flashesNotOut 3 = .ok (.istore_n 2, 1) := by decide +kernel
theorem dX6_flashesNotOut_4 : decode cX6_flashesNotOut 4 = .ok (.iload_n 2, 1) := by decide +kernel
theorem dX6_flashesNotOut_5 : decode cX6_flashesNotOut 5 = .ok (.aload_n 0, 1) := by decide +kernel
theorem dX6_flashesNotOut_6 : decode cX6_flashesNotOut 6 = .ok (.getfield 26, 3) := by decide +kernel
theorem dX6_flashesNotOut_9 : decode cX6_flashesNotOut 9 = .ok (.getfield 93, 3) := by decide +kernel
theorem dX6_flashesNotOut_12 : decode cX6_flashesNotOut 12 = .ok (.getfield 204, 3) := by decide +kernel
theorem dX6_flashesNotOut_15 : decode cX6_flashesNotOut 15 = .ok (.if_icmp .ge 31, 3) := by decide +kernel
theorem dX6_flashesNotOut_18 : decode cX6_flashesNotOut 18 = .ok (.aload_n 0, 1) := by decide +kernel
theorem dX6_flashesNotOut_19 : decode cX6_flashesNotOut 19 = .ok (.iload_n 2, 1) := by decide +kernel
theorem dX6_flashesNotOut_20 : decode cX6_flashesNotOut 20 = .ok (.invokevirtual 116, 3) := by decide +kernel
theorem dX6_flashesNotOut_23 : decode cX6_flashesNotOut 23 = .ok (.ifCond .ne 17, 3) := by decide +kernel
theorem dX6_flashesNotOut_26 : decode cX6_flashesNotOut 26 = .ok (.iload_n 1, 1) := by decide +kernel
theorem dX6_flashesNotOut_27 : decode cX6_flashesNotOut 27 = .ok (.aload_n 0, 1) := by decide +kernel
theorem dX6_flashesNotOut_28 : decode cX6_flashesNotOut 28 = .ok (.getfield 26, 3) := by decide +kernel
theorem dX6_flashesNotOut_31 : decode cX6_flashesNotOut 31 = .ok (.getfield 93, 3) := by decide +kernel
theorem dX6_flashesNotOut_34 : decode cX6_flashesNotOut 34 = .ok (.iload_n 2, 1) := by decide +kernel
theorem dX6_flashesNotOut_35 : decode cX6_flashesNotOut 35 = .ok (.invokevirtual 96, 3) := by decide +kernel
theorem dX6_flashesNotOut_38 : decode cX6_flashesNotOut 38 = .ok (.iadd, 1) := by decide +kernel
theorem dX6_flashesNotOut_39 : decode cX6_flashesNotOut 39 = .ok (.istore_n 1, 1) := by decide +kernel
theorem dX6_flashesNotOut_40 : decode cX6_flashesNotOut 40 = .ok (.iinc 2 1, 3) := by decide +kernel
theorem dX6_flashesNotOut_43 : decode cX6_flashesNotOut 43 = .ok (.goto (-39), 3) := by decide +kernel
theorem dX6_flashesNotOut_46 : decode cX6_flashesNotOut 46 = .ok (.iload_n 1, 1) := by decide +kernel
theorem dX6_flashesNotOut_47 : decode cX6_flashesNotOut 47 = .ok (.ireturn, 1) := by decide +kernel
set_option maxRecDepth 20000 in
theorem ggX6_shines_X5_who : GoodIn wsX6_shines wsX5_who := goodIn_r _ [10, 11, 45, 46, 47, 48, 49] (by decide +kernel) (by decide +kernel)
set_option maxRecDepth 20000 in
theorem gX6_shines_X5_who : GoodIn wsX6_shines (wsV RX6 125 RX5 yX5_who wsX5_who) := goodIn_app (goodIn_of _ (by decide +kernel)) ggX6_shines_X5_who
set_option maxRecDepth 20000 in
theorem ggX6_shines_X4_flashOf : GoodIn wsX6_shines wsX4_flashOf := goodIn_r _ [16, 17, 50, 51, 52, 53, 54, 55] (by decide +kernel) (by decide +kernel)
set_option maxRecDepth 20000 in
theorem gX6_shines_X4_flashOf : GoodIn wsX6_shines (wsV RX6 96 RX4 yX4_flashOf wsX4_flashOf) := goodIn_app (goodIn_of _ (by decide +kernel)) ggX6_shines_X4_flashOf
set_option maxRecDepth 20000 in
theorem ggX6_shines_X6_isOut : GoodIn wsX6_shines wsX6_isOut := goodIn_r _ [22, 3, 23, 24, 25, 26, 27, 28, 29, 30, 31, 32, 33, 34, 35, 38, 39, 40, 41, 42, 43, 44] (by decide +kernel) (by decide +kernel)
set_option maxRecDepth 20000 in
theorem gX6_shines_X6_isOut : GoodIn wsX6_shines (wsV RX6 116 RX6 yX6_isOut wsX6_isOut) := goodIn_app (goodIn_of _ (by decide +kernel)) ggX6_shines_X6_isOut
theorem dX6_shines_0 : decode cX6_shines 0 = .ok (.aload_n 0, 1) := by decide +kernel
theorem dX6_shines_1 : decode cX6_shines 1 = .ok (.getfield 26, 3) := by decide +kernel
theorem dX6_shines_4 : decode cX6_shines 4 = .ok (.getfield 100, 3) := by decide +kernel
theorem dX6_shines_7 : decode cX6_shines 7 = .ok (.aload_n 0, 1) := by decide +kernel
theorem dX6_shines_8 : decode cX6_shines 8 = .ok (.getfield 45, 3) := by decide +kernel
theorem dX6_shines_11 : decode cX6_shines 11 = .ok (.getfield 104, 3) := by decide +kernel
theorem dX6_shines_14 : decode cX6_shines 14 = .ok (.iload_n 1, 1) := by decide +kernel
theorem dX6_shines_15 : decode cX6_shines 15 = .ok (.invokevirtual 125, 3) := by decide +kernel
theorem dX6_shines_18 : decode cX6_shines 18 = .ok (.istore_n 3, 1) := by decide +kernel
theorem dX6_shines_19 : decode cX6_shines 19 = .ok (.aload_n 0, 1) := by decide +kernel
theorem dX6_shines_20 : decode cX6_shines 20 = .ok (.getfield 26, 3) := by decide +kernel
theorem dX6_shines_23 : decode cX6_shines 23 = .ok (.getfield 93, 3) := by decide +kernel
theorem dX6_shines_26 : decode cX6_shines 26 = .ok (.iload_n 3, 1) := by decide +kernel
theorem dX6_shines_27 : decode cX6_shines 27 = .ok (.invokevirtual 96, 3) := by decide +kernel
theorem dX6_shines_30 : decode cX6_shines 30 = .ok (.iload_n 2, 1) := by decide +kernel
theorem dX6_shines_31 : decode cX6_shines 31 = .ok (.if_icmp .ne 15, 3) := by decide +kernel
theorem dX6_shines_34 : decode cX6_shines 34 = .ok (.aload_n 0, 1) := by decide +kernel
theorem dX6_shines_35 : decode cX6_shines 35 = .ok (.iload_n 3, 1) := by decide +kernel
theorem dX6_shines_36 : decode cX6_shines 36 = .ok (.invokevirtual 116, 3) := by decide +kernel
theorem dX6_shines_39 : decode cX6_shines 39 = .ok (.ifCond .ne 7, 3) := by decide +kernel
theorem dX6_shines_42 : decode cX6_shines 42 = .ok (.iconst 1, 1) := by decide +kernel
theorem dX6_shines_43 : decode cX6_shines 43 = .ok (.goto 4, 3) := by decide +kernel
theorem dX6_shines_46 : decode cX6_shines 46 = .ok (.iconst 0, 1) := by decide +kernel
theorem dX6_shines_47 : decode cX6_shines 47 = .ok (.ireturn, 1) := by decide +kernel
set_option maxRecDepth 20000 in
theorem ggX6_lightsInSight_X5_who : GoodIn wsX6_lightsInSight wsX5_who := goodIn_r _ [16, 17, 51, 52, 53, 54, 55] (by decide +kernel) (by decide +kernel)
set_option maxRecDepth 20000 in
theorem gX6_lightsInSight_X5_who : GoodIn wsX6_lightsInSight (wsV RX6 125 RX5 yX5_who wsX5_who) := goodIn_app (goodIn_of _ (by decide +kernel)) ggX6_lightsInSight_X5_who
set_option maxRecDepth 20000 in
theorem ggX6_lightsInSight_X6_isOut : GoodIn wsX6_lightsInSight wsX6_isOut := goodIn_r _ [22, 10, 23, 24, 25, 26, 27, 28, 29, 30, 31, 32, 33, 34, 35, 44, 45, 46, 47, 48, 49, 50] (by decide +kernel) (by decide +kernel)
set_option maxRecDepth 20000 in
theorem gX6_lightsInSight_X6_isOut : GoodIn wsX6_lightsInSight (wsV RX6 116 RX6 yX6_isOut wsX6_isOut) := goodIn_app (goodIn_of _ (by decide +kernel)) ggX6_lightsInSight_X6_isOut
theorem dX6_lightsInSight_0 : decode cX6_lightsInSight 0 = .ok (.iconst 0, 1) := by decide +kernel
theorem dX6_lightsInSight_1 : decode cX6_lightsInSight 1 = .ok (.istore_n 2, 1) := by decide +kernel
theorem dX6_lightsInSight_2 : decode cX6_lightsInSight 2 = .ok (.iconst 0, 1) := by decide +kernel
theorem dX6_lightsInSight_3 : decode cX6_lightsInSight 3 = .ok (.istore_n 3, 1) := by decide +kernel
theorem dX6_lightsInSight_4 : decode cX6_lightsInSight 4 = .ok (.iload_n 3, 1) := by decide +kernel
theorem dX6_lightsInSight_5 : decode cX6_lightsInSight 5 = .ok (.aload_n 0, 1) := by decide +kernel
theorem dX6_lightsInSight_6 : decode cX6_lightsInSight 6 = .ok (.getfield 26, 3) := by decide +kernel
theorem dX6_lightsInSight_9 : decode cX6_lightsInSight 9 = .ok (.getfield 93, 3) := by decide +kernel
theorem dX6_lightsInSight_12 : decode cX6_lightsInSight 12 = .ok (.getfield 204, 3) := by decide +kernel
theorem dX6_lightsInSight_15 : decode cX6_lightsInSight 15 = .ok (.if_icmp .ge 68, 3) := by decide +kernel
theorem dX6_lightsInSight_18 : decode cX6_lightsInSight 18 = .ok (.iload_n 3, 1) := by decide +kernel
theorem dX6_lightsInSight_19 : decode cX6_lightsInSight 19 = .ok (.iload_n 1, 1) := by decide +kernel
theorem dX6_lightsInSight_20 : decode cX6_lightsInSight 20 = .ok (.isub, 1) := by decide +kernel
theorem dX6_lightsInSight_21 : decode cX6_lightsInSight 21 = .ok (.invokestatic 269, 3) := by decide +kernel
theorem dX6_lightsInSight_24 : decode cX6_lightsInSight 24 = .ok (.aload_n 0, 1) := by decide +kernel
theorem dX6_lightsInSight_25 : decode cX6_lightsInSight 25 = .ok (.getfield 26, 3) := by decide +kernel
theorem dX6_lightsInSight_28 : decode cX6_lightsInSight 28 = .ok (.getfield 93, 3) := by decide +kernel
theorem dX6_lightsInSight_31 : decode cX6_lightsInSight 31 = .ok (.getfield 262, 3) := by decide +kernel
theorem dX6_lightsInSight_34 : decode cX6_lightsInSight 34 = .ok (.if_icmp .gt 7, 3) := by decide +kernel
theorem dX6_lightsInSight_37 : decode cX6_lightsInSight 37 = .ok (.iconst 1, 1) := by decide +kernel
theorem dX6_lightsInSight_38 : decode cX6_lightsInSight 38 = .ok (.goto 4, 3) := by decide +kernel
theorem dX6_lightsInSight_41 : decode cX6_lightsInSight 41 = .ok (.iconst 0, 1) := by decide +kernel
theorem dX6_lightsInSight_42 : decode cX6_lightsInSight 42 = .ok (.istore 4, 2) := by decide +kernel
theorem dX6_lightsInSight_44 : decode cX6_lightsInSight 44 = .ok (.iload 4, 2) := by decide +kernel
theorem dX6_lightsInSight_46 : decode cX6_lightsInSight 46 = .ok (.ifCond .eq 31, 3) := by decide +kernel
theorem dX6_lightsInSight_49 : decode cX6_lightsInSight 49 = .ok (.aload_n 0, 1) := by decide +kernel
theorem dX6_lightsInSight_50 : decode cX6_lightsInSight 50 = .ok (.aload_n 0, 1) := by decide +kernel
theorem dX6_lightsInSight_51 : decode cX6_lightsInSight 51 = .ok (.getfield 26, 3) := by decide +kernel
theorem dX6_lightsInSight_54 : decode cX6_lightsInSight 54 = .ok (.getfield 100, 3) := by decide +kernel
theorem dX6_lightsInSight_57 : decode cX6_lightsInSight 57 = .ok (.aload_n 0, 1) := by decide +kernel
theorem dX6_lightsInSight_58 : decode cX6_lightsInSight 58 = .ok (.getfield 45, 3) := by decide +kernel
theorem dX6_lightsInSight_61 : decode cX6_lightsInSight 61 = .ok (.getfield 104, 3) := by decide +kernel
theorem dX6_lightsInSight_64 : decode cX6_lightsInSight 64 = .ok (.iload_n 3, 1) := by decide +kernel
theorem dX6_lightsInSight_65 : decode cX6_lightsInSight 65 = .ok (.invokevirtual 125, 3) := by decide +kernel
theorem dX6_lightsInSight_68 : decode cX6_lightsInSight 68 = .ok (.invokevirtual 116, 3) := by decide +kernel
theorem dX6_lightsInSight_71 : decode cX6_lightsInSight 71 = .ok (.ifCond .ne 6, 3) := by decide +kernel
theorem dX6_lightsInSight_74 : decode cX6_lightsInSight 74 = .ok (.iinc 2 1, 3) := by decide +kernel
theorem dX6_lightsInSight_77 : decode cX6_lightsInSight 77 = .ok (.iinc 3 1, 3) := by decide +kernel
theorem dX6_lightsInSight_80 : decode cX6_lightsInSight 80 = .ok (.goto (-76), 3) := by decide +kernel
theorem dX6_lightsInSight_83 : decode cX6_lightsInSight 83 = .ok (.iload_n 2, 1) := by decide +kernel
theorem dX6_lightsInSight_84 : decode cX6_lightsInSight 84 = .ok (.ireturn, 1) := by decide +kernel
set_option maxRecDepth 20000 in
theorem ggX6_fitsSeen_X6_item : GoodIn wsX6_fitsSeen wsX6_item := goodIn_r _ [8] (by decide +kernel) (by decide +kernel)
set_option maxRecDepth 20000 in
theorem gX6_fitsSeen_X6_item : GoodIn wsX6_fitsSeen (va_wsS RX6 274 yX6_item wsX6_item) := goodIn_app (goodIn_of _ (by decide +kernel)) ggX6_fitsSeen_X6_item
set_option maxRecDepth 20000 in
theorem ggX6_fitsSeen_X3_flashAt : GoodIn wsX6_fitsSeen wsX3_flashAt := goodIn_r _ [13, 14, 15, 16, 17, 18, 19, 20, 21, 22, 23, 24, 25, 26, 27, 40, 41, 42, 43, 44, 45, 46, 47, 48, 49, 50, 51, 52] (by decide +kernel) (by decide +kernel)
set_option maxRecDepth 20000 in
theorem gX6_fitsSeen_X3_flashAt : GoodIn wsX6_fitsSeen (wsV RX6 278 RX3 yX3_flashAt wsX3_flashAt) := goodIn_app (goodIn_of _ (by decide +kernel)) ggX6_fitsSeen_X3_flashAt
theorem dX6_fitsSeen_0 : decode cX6_fitsSeen 0 = .ok (.iconst 0, 1) := by decide +kernel
theorem dX6_fitsSeen_1 : decode cX6_fitsSeen 1 = .ok (.istore_n 2, 1) := by decide +kernel
theorem dX6_fitsSeen_2 : decode cX6_fitsSeen 2 = .ok (.iload_n 2, 1) := by decide +kernel
theorem dX6_fitsSeen_3 : decode cX6_fitsSeen 3 = .ok (.aload_n 0, 1) := by decide +kernel
theorem dX6_fitsSeen_4 : decode cX6_fitsSeen 4 = .ok (.getfield 87, 3) := by decide +kernel
theorem dX6_fitsSeen_7 : decode cX6_fitsSeen 7 = .ok (.if_icmp .ge 38, 3) := by decide +kernel
theorem dX6_fitsSeen_10 : decode cX6_fitsSeen 10 = .ok (.aload_n 0, 1) := by decide +kernel
theorem dX6_fitsSeen_11 : decode cX6_fitsSeen 11 = .ok (.getfield 26, 3) := by decide +kernel
theorem dX6_fitsSeen_14 : decode cX6_fitsSeen 14 = .ok (.iload_n 1, 1) := by decide +kernel
theorem dX6_fitsSeen_15 : decode cX6_fitsSeen 15 = .ok (.aload_n 0, 1) := by decide +kernel
theorem dX6_fitsSeen_16 : decode cX6_fitsSeen 16 = .ok (.getfield 55, 3) := by decide +kernel
theorem dX6_fitsSeen_19 : decode cX6_fitsSeen 19 = .ok (.iload_n 2, 1) := by decide +kernel
theorem dX6_fitsSeen_20 : decode cX6_fitsSeen 20 = .ok (.invokestatic 274, 3) := by decide +kernel
theorem dX6_fitsSeen_23 : decode cX6_fitsSeen 23 = .ok (.invokevirtual 278, 3) := by decide +kernel
theorem dX6_fitsSeen_26 : decode cX6_fitsSeen 26 = .ok (.aload_n 0, 1) := by decide +kernel
theorem dX6_fitsSeen_27 : decode cX6_fitsSeen 27 = .ok (.getfield 59, 3) := by decide +kernel
theorem dX6_fitsSeen_30 : decode cX6_fitsSeen 30 = .ok (.iload_n 2, 1) := by decide +kernel
theorem dX6_fitsSeen_31 : decode cX6_fitsSeen 31 = .ok (.invokestatic 274, 3) := by decide +kernel
theorem dX6_fitsSeen_34 : decode cX6_fitsSeen 34 = .ok (.if_icmp .eq 5, 3) := by decide +kernel
theorem dX6_fitsSeen_37 : decode cX6_fitsSeen 37 = .ok (.iconst 0, 1) := by decide +kernel
theorem dX6_fitsSeen_38 : decode cX6_fitsSeen 38 = .ok (.ireturn, 1) := by decide +kernel
theorem dX6_fitsSeen_39 : decode cX6_fitsSeen 39 = .ok (.iinc 2 1, 3) := by decide +kernel
theorem dX6_fitsSeen_42 : decode cX6_fitsSeen 42 = .ok (.goto (-40), 3) := by decide +kernel
theorem dX6_fitsSeen_45 : decode cX6_fitsSeen 45 = .ok (.iconst 1, 1) := by decide +kernel
theorem dX6_fitsSeen_46 : decode cX6_fitsSeen 46 = .ok (.ireturn, 1) := by decide +kernel
set_option maxRecDepth 20000 in
theorem ggX6_waysThatFit_X6_fitsSeen : GoodIn wsX6_waysThatFit wsX6_fitsSeen := goodIn_r _ [8, 9, 1, 10, 11, 12, 13, 7, 14, 15, 16, 17, 18, 19, 20, 21, 22, 23, 24, 25, 26, 27, 28, 29, 30, 31, 32, 33, 34, 35, 36, 37, 38, 39, 40, 41, 42, 43, 44, 45, 46, 47, 48, 49, 50, 51, 52, 53, 54, 55, 56, 57, 58] (by decide +kernel) (by decide +kernel)
set_option maxRecDepth 20000 in
theorem gX6_waysThatFit_X6_fitsSeen : GoodIn wsX6_waysThatFit (wsV RX6 281 RX6 yX6_fitsSeen wsX6_fitsSeen) := goodIn_app (goodIn_of _ (by decide +kernel)) ggX6_waysThatFit_X6_fitsSeen
theorem dX6_waysThatFit_0 : decode cX6_waysThatFit 0 = .ok (.iconst 0, 1) := by decide +kernel
theorem dX6_waysThatFit_1 : decode cX6_waysThatFit 1 = .ok (.istore_n 1, 1) := by decide +kernel
theorem dX6_waysThatFit_2 : decode cX6_waysThatFit 2 = .ok (.iconst 0, 1) := by decide +kernel
theorem dX6_waysThatFit_3 : decode cX6_waysThatFit 3 = .ok (.istore_n 2, 1) := by decide +kernel
theorem dX6_waysThatFit_4 : decode cX6_waysThatFit 4 = .ok (.iload_n 2, 1) := by decide +kernel
theorem dX6_waysThatFit_5 : decode cX6_waysThatFit 5 = .ok (.aload_n 0, 1) := by decide +kernel
theorem dX6_waysThatFit_6 : decode cX6_waysThatFit 6 = .ok (.getfield 26, 3) := by decide +kernel
theorem dX6_waysThatFit_9 : decode cX6_waysThatFit 9 = .ok (.getfield 100, 3) := by decide +kernel
theorem dX6_waysThatFit_12 : decode cX6_waysThatFit 12 = .ok (.getfield 195, 3) := by decide +kernel
theorem dX6_waysThatFit_15 : decode cX6_waysThatFit 15 = .ok (.if_icmp .ge 20, 3) := by decide +kernel
theorem dX6_waysThatFit_18 : decode cX6_waysThatFit 18 = .ok (.aload_n 0, 1) := by decide +kernel
theorem dX6_waysThatFit_19 : decode cX6_waysThatFit 19 = .ok (.iload_n 2, 1) := by decide +kernel
theorem dX6_waysThatFit_20 : decode cX6_waysThatFit 20 = .ok (.invokevirtual 281, 3) := by decide +kernel
theorem dX6_waysThatFit_23 : decode cX6_waysThatFit 23 = .ok (.ifCond .eq 6, 3) := by decide +kernel
theorem dX6_waysThatFit_26 : decode cX6_waysThatFit 26 = .ok (.iinc 1 1, 3) := by decide +kernel
theorem dX6_waysThatFit_29 : decode cX6_waysThatFit 29 = .ok (.iinc 2 1, 3) := by decide +kernel
theorem dX6_waysThatFit_32 : decode cX6_waysThatFit 32 = .ok (.goto (-28), 3) := by decide +kernel
theorem dX6_waysThatFit_35 : decode cX6_waysThatFit 35 = .ok (.iload_n 1, 1) := by decide +kernel
theorem dX6_waysThatFit_36 : decode cX6_waysThatFit 36 = .ok (.ireturn, 1) := by decide +kernel
set_option maxRecDepth 20000 in
theorem ggX6_sureOf_X6_fitsSeen : GoodIn wsX6_sureOf wsX6_fitsSeen := goodIn_r _ [8, 9, 1, 10, 11, 12, 13, 7, 14, 15, 16, 17, 18, 19, 20, 21, 22, 23, 24, 25, 26, 27, 28, 29, 30, 31, 32, 33, 35, 36, 37, 38, 39, 40, 41, 42, 43, 44, 45, 46, 47, 48, 49, 50, 51, 52, 53, 54, 55, 56, 57, 58, 59] (by decide +kernel) (by decide +kernel)
set_option maxRecDepth 20000 in
theorem gX6_sureOf_X6_fitsSeen : GoodIn wsX6_sureOf (wsV RX6 281 RX6 yX6_fitsSeen wsX6_fitsSeen) := goodIn_app (goodIn_of _ (by decide +kernel)) ggX6_sureOf_X6_fitsSeen
set_option maxRecDepth 20000 in
theorem ggX6_sureOf_X5_who : GoodIn wsX6_sureOf wsX5_who := goodIn_r _ [26, 27, 49, 50, 51, 52, 53] (by decide +kernel) (by decide +kernel)
set_option maxRecDepth 20000 in
theorem gX6_sureOf_X5_who : GoodIn wsX6_sureOf (wsV RX6 125 RX5 yX5_who wsX5_who) := goodIn_app (goodIn_of _ (by decide +kernel)) ggX6_sureOf_X5_who
theorem dX6_sureOf_0 : decode cX6_sureOf 0 = .ok (.bipush (-9), 2) := by decide +kernel
theorem dX6_sureOf_2 : decode cX6_sureOf 2 = .ok (.istore_n 2, 1) := by decide +kernel
theorem dX6_sureOf_3 : decode cX6_sureOf 3 = .ok (.iconst 0, 1) := by decide +kernel
theorem dX6_sureOf_4 : decode cX6_sureOf 4 = .ok (.istore_n 3, 1) := by decide +kernel
theorem dX6_sureOf_5 : decode cX6_sureOf 5 = .ok (.iload_n 3, 1) := by decide +kernel
theorem dX6_sureOf_6 : decode cX6_sureOf 6 = .ok (.aload_n 0, 1) := by decide +kernel
theorem dX6_sureOf_7 : decode cX6_sureOf 7 = .ok (.getfield 26, 3) := by decide +kernel
theorem dX6_sureOf_10 : decode cX6_sureOf 10 = .ok (.getfield 100, 3) := by decide +kernel
theorem dX6_sureOf_13 : decode cX6_sureOf 13 = .ok (.getfield 195, 3) := by decide +kernel
theorem dX6_sureOf_16 : decode cX6_sureOf 16 = .ok (.if_icmp .ge 49, 3) := by decide +kernel
theorem dX6_sureOf_19 : decode cX6_sureOf 19 = .ok (.aload_n 0, 1) := by decide +kernel
theorem dX6_sureOf_20 : decode cX6_sureOf 20 = .ok (.iload_n 3, 1) := by decide +kernel
theorem dX6_sureOf_21 : decode cX6_sureOf 21 = .ok (.invokevirtual 281, 3) := by decide +kernel
theorem dX6_sureOf_24 : decode cX6_sureOf 24 = .ok (.ifCond .eq 35, 3) := by decide +kernel
theorem dX6_sureOf_27 : decode cX6_sureOf 27 = .ok (.aload_n 0, 1) := by decide +kernel
theorem dX6_sureOf_28 : decode cX6_sureOf 28 = .ok (.getfield 26, 3) := by decide +kernel
theorem dX6_sureOf_31 : decode cX6_sureOf 31 = .ok (.getfield 100, 3) := by decide +kernel
theorem dX6_sureOf_34 : decode cX6_sureOf 34 = .ok (.iload_n 3, 1) := by decide +kernel
theorem dX6_sureOf_35 : decode cX6_sureOf 35 = .ok (.iload_n 1, 1) := by decide +kernel
theorem dX6_sureOf_36 : decode cX6_sureOf 36 = .ok (.invokevirtual 125, 3) := by decide +kernel
theorem dX6_sureOf_39 : decode cX6_sureOf 39 = .ok (.istore 4, 2) := by decide +kernel
theorem dX6_sureOf_41 : decode cX6_sureOf 41 = .ok (.iload_n 2, 1) := by decide +kernel
theorem dX6_sureOf_42 : decode cX6_sureOf 42 = .ok (.bipush (-9), 2) := by decide +kernel
theorem dX6_sureOf_44 : decode cX6_sureOf 44 = .ok (.if_icmp .eq 12, 3) := by decide +kernel
theorem dX6_sureOf_47 : decode cX6_sureOf 47 = .ok (.iload_n 2, 1) := by decide +kernel
theorem dX6_sureOf_48 : decode cX6_sureOf 48 = .ok (.iload 4, 2) := by decide +kernel
theorem dX6_sureOf_50 : decode cX6_sureOf 50 = .ok (.if_icmp .eq 6, 3) := by decide +kernel
theorem dX6_sureOf_53 : decode cX6_sureOf 53 = .ok (.bipush (-9), 2) := by decide +kernel
theorem dX6_sureOf_55 : decode cX6_sureOf 55 = .ok (.ireturn, 1) := by decide +kernel
theorem dX6_sureOf_56 : decode cX6_sureOf 56 = .ok (.iload 4, 2) := by decide +kernel
theorem dX6_sureOf_58 : decode cX6_sureOf 58 = .ok (.istore_n 2, 1) := by decide +kernel
theorem dX6_sureOf_59 : decode cX6_sureOf 59 = .ok (.iinc 3 1, 3) := by decide +kernel
theorem dX6_sureOf_62 : decode cX6_sureOf 62 = .ok (.goto (-57), 3) := by decide +kernel
theorem dX6_sureOf_65 : decode cX6_sureOf 65 = .ok (.iload_n 2, 1) := by decide +kernel
theorem dX6_sureOf_66 : decode cX6_sureOf 66 = .ok (.ireturn, 1) := by decide +kernel
set_option maxRecDepth 20000 in
theorem ggX6_markOfKeeper_X4_flashOf : GoodIn wsX6_markOfKeeper wsX4_flashOf := goodIn_r _ [8, 9, 24, 25, 26, 27, 28, 29] (by decide +kernel) (by decide +kernel)
set_option maxRecDepth 20000 in
theorem gX6_markOfKeeper_X4_flashOf : GoodIn wsX6_markOfKeeper (wsV RX6 96 RX4 yX4_flashOf wsX4_flashOf) := goodIn_app (goodIn_of _ (by decide +kernel)) ggX6_markOfKeeper_X4_flashOf
theorem dX6_markOfKeeper_0 : decode cX6_markOfKeeper 0 = .ok (.aload_n 0, 1) := by decide +kernel
theorem dX6_markOfKeeper_1 : decode cX6_markOfKeeper 1 = .ok (.dup, 1) := by decide +kernel
theorem dX6_markOfKeeper_2 : decode cX6_markOfKeeper 2 = .ok (.getfield 265, 3) := by decide +kernel
theorem dX6_markOfKeeper_5 : decode cX6_markOfKeeper 5 = .ok (.lconst 1, 1) := by decide +kernel
theorem dX6_markOfKeeper_6 : decode cX6_markOfKeeper 6 = .ok (.ladd, 1) := by decide +kernel
theorem dX6_markOfKeeper_7 : decode cX6_markOfKeeper 7 = .ok (.putfield 265, 3) := by decide +kernel
theorem dX6_markOfKeeper_10 : decode cX6_markOfKeeper 10 = .ok (.aload_n 0, 1) := by decide +kernel
theorem dX6_markOfKeeper_11 : decode cX6_markOfKeeper 11 = .ok (.getfield 26, 3) := by decide +kernel
theorem dX6_markOfKeeper_14 : decode cX6_markOfKeeper 14 = .ok (.getfield 93, 3) := by decide +kernel
theorem dX6_markOfKeeper_17 : decode cX6_markOfKeeper 17 = .ok (.iload_n 1, 1) := by decide +kernel
theorem dX6_markOfKeeper_18 : decode cX6_markOfKeeper 18 = .ok (.invokevirtual 96, 3) := by decide +kernel
theorem dX6_markOfKeeper_21 : decode cX6_markOfKeeper 21 = .ok (.ireturn, 1) := by decide +kernel
set_option maxRecDepth 20000 in
theorem ggX6_markOfSleeper_X6_markOfKeeper : GoodIn wsX6_markOfSleeper wsX6_markOfKeeper := goodIn_r _ [7, 1, 8, 9, 10, 11, 12, 13, 14, 15, 38, 39, 40, 41, 42, 43, 44, 45, 46, 47, 48, 49, 50, 51, 52, 53, 54, 55, 56, 57] (by decide +kernel) (by decide +kernel)
set_option maxRecDepth 20000 in
theorem gX6_markOfSleeper_X6_markOfKeeper : GoodIn wsX6_markOfSleeper (wsV RX6 230 RX6 yX6_markOfKeeper wsX6_markOfKeeper) := goodIn_app (goodIn_of _ (by decide +kernel)) ggX6_markOfSleeper_X6_markOfKeeper
set_option maxRecDepth 20000 in
theorem ggX6_markOfSleeper_X6_driftOf : GoodIn wsX6_markOfSleeper wsX6_driftOf := goodIn_r _ [19, 8, 20, 21, 22, 23, 24, 25, 26, 27, 28, 29, 30, 31, 32, 33, 34, 35, 36, 37, 38, 39, 40, 41, 42, 43, 44, 45, 46, 47, 48, 49, 50, 51, 58, 59, 60, 61, 62, 63, 64, 65, 66, 67, 68, 69] (by decide +kernel) (by decide +kernel)
set_option maxRecDepth 20000 in
theorem gX6_markOfSleeper_X6_driftOf : GoodIn wsX6_markOfSleeper (wsV RX6 113 RX6 yX6_driftOf wsX6_driftOf) := goodIn_app (goodIn_of _ (by decide +kernel)) ggX6_markOfSleeper_X6_driftOf
theorem dX6_markOfSleeper_0 : decode cX6_markOfSleeper 0 = .ok (.aload_n 0, 1) := by decide +kernel
theorem dX6_markOfSleeper_1 : decode cX6_markOfSleeper 1 = .ok (.dup, 1) := by decide +kernel
theorem dX6_markOfSleeper_2 : decode cX6_markOfSleeper 2 = .ok (.getfield 265, 3) := by decide +kernel
theorem dX6_markOfSleeper_5 : decode cX6_markOfSleeper 5 = .ok (.ldc2_w 284, 3) := by decide +kernel
theorem dX6_markOfSleeper_8 : decode cX6_markOfSleeper 8 = .ok (.ladd, 1) := by decide +kernel
theorem dX6_markOfSleeper_9 : decode cX6_markOfSleeper 9 = .ok (.putfield 265, 3) := by decide +kernel
theorem dX6_markOfSleeper_12 : decode cX6_markOfSleeper 12 = .ok (.aload_n 0, 1) := by decide +kernel
theorem dX6_markOfSleeper_13 : decode cX6_markOfSleeper 13 = .ok (.iload_n 1, 1) := by decide +kernel
theorem dX6_markOfSleeper_14 : decode cX6_markOfSleeper 14 = .ok (.invokevirtual 230, 3) := by decide +kernel
theorem dX6_markOfSleeper_17 : decode cX6_markOfSleeper 17 = .ok (.aload_n 0, 1) := by decide +kernel
theorem dX6_markOfSleeper_18 : decode cX6_markOfSleeper 18 = .ok (.iload_n 1, 1) := by decide +kernel
theorem dX6_markOfSleeper_19 : decode cX6_markOfSleeper 19 = .ok (.invokevirtual 113, 3) := by decide +kernel
theorem dX6_markOfSleeper_22 : decode cX6_markOfSleeper 22 = .ok (.iadd, 1) := by decide +kernel
theorem dX6_markOfSleeper_23 : decode cX6_markOfSleeper 23 = .ok (.ireturn, 1) := by decide +kernel
set_option maxRecDepth 20000 in
theorem ggX6_markOfPilot_X6_markOfKeeper : GoodIn wsX6_markOfPilot wsX6_markOfKeeper := goodIn_r _ [11, 1, 3, 12, 13, 14, 15, 16, 17, 18, 30, 31, 32, 33, 34, 35, 36, 37, 38, 39, 40, 41, 42, 43, 51, 52, 53, 54, 55, 56] (by decide +kernel) (by decide +kernel)
set_option maxRecDepth 20000 in
theorem gX6_markOfPilot_X6_markOfKeeper : GoodIn wsX6_markOfPilot (wsV RX6 230 RX6 yX6_markOfKeeper wsX6_markOfKeeper) := goodIn_app (goodIn_of _ (by decide +kernel)) ggX6_markOfPilot_X6_markOfKeeper
set_option maxRecDepth 20000 in
theorem ggX6_markOfPilot_X5_rockOf : GoodIn wsX6_markOfPilot wsX5_rockOf := goodIn_r _ [23, 24, 25, 26, 27, 22, 28, 29, 57, 58, 59, 60, 61] (by decide +kernel) (by decide +kernel)
set_option maxRecDepth 20000 in
theorem gX6_markOfPilot_X5_rockOf : GoodIn wsX6_markOfPilot (wsV RX6 107 RX5 yX5_rockOf wsX5_rockOf) := goodIn_app (goodIn_of _ (by decide +kernel)) ggX6_markOfPilot_X5_rockOf
theorem dX6_markOfPilot_0 : decode cX6_markOfPilot 0 = .ok (.aload_n 0, 1) := by decide +kernel
theorem dX6_markOfPilot_1 : decode cX6_markOfPilot 1 = .ok (.dup, 1) := by decide +kernel
theorem dX6_markOfPilot_2 : decode cX6_markOfPilot 2 = .ok (.getfield 265, 3) := by decide +kernel
theorem dX6_markOfPilot_5 : decode cX6_markOfPilot 5 = .ok (.ldc2_w 286, 3) := by decide +kernel
theorem dX6_markOfPilot_8 : decode cX6_markOfPilot 8 = .ok (.ladd, 1) := by decide +kernel
theorem dX6_markOfPilot_9 : decode cX6_markOfPilot 9 = .ok (.putfield 265, 3) := by decide +kernel
theorem dX6_markOfPilot_12 : decode cX6_markOfPilot 12 = .ok (.aload_n 0, 1) := by decide +kernel
theorem dX6_markOfPilot_13 : decode cX6_markOfPilot 13 = .ok (.iload_n 1, 1) := by decide +kernel
theorem dX6_markOfPilot_14 : decode cX6_markOfPilot 14 = .ok (.invokevirtual 230, 3) := by decide +kernel
theorem dX6_markOfPilot_17 : decode cX6_markOfPilot 17 = .ok (.aload_n 0, 1) := by decide +kernel
theorem dX6_markOfPilot_18 : decode cX6_markOfPilot 18 = .ok (.getfield 26, 3) := by decide +kernel
theorem dX6_markOfPilot_21 : decode cX6_markOfPilot 21 = .ok (.getfield 100, 3) := by decide +kernel
theorem dX6_markOfPilot_24 : decode cX6_markOfPilot 24 = .ok (.aload_n 0, 1) := by decide +kernel
theorem dX6_markOfPilot_25 : decode cX6_markOfPilot 25 = .ok (.getfield 45, 3) := by decide +kernel
theorem dX6_markOfPilot_28 : decode cX6_markOfPilot 28 = .ok (.getfield 104, 3) := by decide +kernel
theorem dX6_markOfPilot_31 : decode cX6_markOfPilot 31 = .ok (.iload_n 1, 1) := by decide +kernel
theorem dX6_markOfPilot_32 : decode cX6_markOfPilot 32 = .ok (.invokevirtual 107, 3) := by decide +kernel
theorem dX6_markOfPilot_35 : decode cX6_markOfPilot 35 = .ok (.isub, 1) := by decide +kernel
theorem dX6_markOfPilot_36 : decode cX6_markOfPilot 36 = .ok (.ireturn, 1) := by decide +kernel
set_option maxRecDepth 20000 in
theorem ggX6_markOfHorn_X6_markOfSleeper : GoodIn wsX6_markOfHorn wsX6_markOfSleeper := goodIn_r _ [7, 1, 8, 9, 10, 11, 6, 12, 13, 14, 15, 16, 17, 18, 19, 20, 21, 22, 23, 24, 25, 26, 27, 28, 29, 30, 31, 32, 33, 34, 35, 36, 37, 38, 39, 40, 41, 42, 43, 44, 45, 46, 47, 48, 49, 50, 51, 52, 53, 54, 55, 56, 57, 58, 59, 60, 61, 62, 63, 64, 65, 66, 67, 68, 69, 70, 71, 72, 73, 74] (by decide +kernel) (by decide +kernel)
set_option maxRecDepth 20000 in
theorem gX6_markOfHorn_X6_markOfSleeper : GoodIn wsX6_markOfHorn (wsV RX6 233 RX6 yX6_markOfSleeper wsX6_markOfSleeper) := goodIn_app (goodIn_of _ (by decide +kernel)) ggX6_markOfHorn_X6_markOfSleeper
theorem dX6_markOfHorn_0 : decode cX6_markOfHorn 0 = .ok (.aload_n 0, 1) := by decide +kernel
theorem dX6_markOfHorn_1 : decode cX6_markOfHorn 1 = .ok (.dup, 1) := by decide +kernel
theorem dX6_markOfHorn_2 : decode cX6_markOfHorn 2 = .ok (.getfield 265, 3) := by decide +kernel
theorem dX6_markOfHorn_5 : decode cX6_markOfHorn 5 = .ok (.ldc2_w 288, 3) := by decide +kernel
theorem dX6_markOfHorn_8 : decode cX6_markOfHorn 8 = .ok (.ladd, 1) := by decide +kernel
theorem dX6_markOfHorn_9 : decode cX6_markOfHorn 9 = .ok (.putfield 265, 3) := by decide +kernel
theorem dX6_markOfHorn_12 : decode cX6_markOfHorn 12 = .ok (.aload_n 0, 1) := by decide +kernel
theorem dX6_markOfHorn_13 : decode cX6_markOfHorn 13 = .ok (.iload_n 1, 1) := by decide +kernel
theorem dX6_markOfHorn_14 : decode cX6_markOfHorn 14 = .ok (.invokevirtual 233, 3) := by decide +kernel
theorem dX6_markOfHorn_17 : decode cX6_markOfHorn 17 = .ok (.iconst 2, 1) := by decide +kernel
theorem dX6_markOfHorn_18 : decode cX6_markOfHorn 18 = .ok (.imul, 1) := by decide +kernel
theorem dX6_markOfHorn_19 : decode cX6_markOfHorn 19 = .ok (.ireturn, 1) := by decide +kernel
set_option maxRecDepth 20000 in
theorem ggX6_markOfCat_X6_markOfPilot : GoodIn wsX6_markOfCat wsX6_markOfPilot := goodIn_r _ [7, 1, 8, 9, 10, 11, 12, 13, 14, 15, 6, 16, 17, 18, 19, 20, 21, 22, 23, 24, 25, 26, 27, 28, 29, 30, 31, 32, 33, 34, 35, 36, 37, 38, 39, 40, 41, 42, 43, 44, 45, 46, 47, 48, 49, 50, 51, 52, 53, 54, 55, 56, 57, 58, 59, 60, 61, 62, 63, 64, 65, 66] (by decide +kernel) (by decide +kernel)
set_option maxRecDepth 20000 in
theorem gX6_markOfCat_X6_markOfPilot : GoodIn wsX6_markOfCat (wsV RX6 236 RX6 yX6_markOfPilot wsX6_markOfPilot) := goodIn_app (goodIn_of _ (by decide +kernel)) ggX6_markOfCat_X6_markOfPilot
theorem dX6_markOfCat_0 : decode cX6_markOfCat 0 = .ok (.aload_n 0, 1) := by decide +kernel
theorem dX6_markOfCat_1 : decode cX6_markOfCat 1 = .ok (.dup, 1) := by decide +kernel
theorem dX6_markOfCat_2 : decode cX6_markOfCat 2 = .ok (.getfield 265, 3) := by decide +kernel
theorem dX6_markOfCat_5 : decode cX6_markOfCat 5 = .ok (.ldc2_w 290, 3) := by decide +kernel
theorem dX6_markOfCat_8 : decode cX6_markOfCat 8 = .ok (.ladd, 1) := by decide +kernel
theorem dX6_markOfCat_9 : decode cX6_markOfCat 9 = .ok (.putfield 265, 3) := by decide +kernel
theorem dX6_markOfCat_12 : decode cX6_markOfCat 12 = .ok (.aload_n 0, 1) := by decide +kernel
theorem dX6_markOfCat_13 : decode cX6_markOfCat 13 = .ok (.iload_n 1, 1) := by decide +kernel
theorem dX6_markOfCat_14 : decode cX6_markOfCat 14 = .ok (.invokevirtual 236, 3) := by decide +kernel
theorem dX6_markOfCat_17 : decode cX6_markOfCat 17 = .ok (.iload_n 1, 1) := by decide +kernel
theorem dX6_markOfCat_18 : decode cX6_markOfCat 18 = .ok (.iadd, 1) := by decide +kernel
theorem dX6_markOfCat_19 : decode cX6_markOfCat 19 = .ok (.ireturn, 1) := by decide +kernel
set_option maxRecDepth 20000 in
theorem ggX6_markOfWife_X6_markOfKeeper : GoodIn wsX6_markOfWife wsX6_markOfKeeper := goodIn_r _ [9, 1, 10, 11, 12, 13, 14, 15, 16, 17, 18, 19, 20, 21, 22, 23, 24, 25, 26, 27, 28, 29, 37, 38, 39, 40, 41, 42, 43, 44] (by decide +kernel) (by decide +kernel)
set_option maxRecDepth 20000 in
theorem gX6_markOfWife_X6_markOfKeeper : GoodIn wsX6_markOfWife (wsV RX6 230 RX6 yX6_markOfKeeper wsX6_markOfKeeper) := goodIn_app (goodIn_of _ (by decide +kernel)) ggX6_markOfWife_X6_markOfKeeper
theorem dX6_markOfWife_0 : decode cX6_markOfWife 0 = .ok (.aload_n 0, 1) := by decide +kernel
theorem dX6_markOfWife_1 : decode cX6_markOfWife 1 = .ok (.dup, 1) := by decide +kernel
theorem dX6_markOfWife_2 : decode cX6_markOfWife 2 = .ok (.getfield 265, 3) := by decide +kernel
theorem dX6_markOfWife_5 : decode cX6_markOfWife 5 = .ok (.ldc2_w 292, 3) := by decide +kernel
theorem dX6_markOfWife_8 : decode cX6_markOfWife 8 = .ok (.ladd, 1) := by decide +kernel
theorem dX6_markOfWife_9 : decode cX6_markOfWife 9 = .ok (.putfield 265, 3) := by decide +kernel
theorem dX6_markOfWife_12 : decode cX6_markOfWife 12 = .ok (.aload_n 0, 1) := by decide +kernel
theorem dX6_markOfWife_13 : decode cX6_markOfWife 13 = .ok (.iload_n 1, 1) := by decide +kernel
theorem dX6_markOfWife_14 : decode cX6_markOfWife 14 = .ok (.invokevirtual 230, 3) := by decide +kernel
theorem dX6_markOfWife_17 : decode cX6_markOfWife 17 = .ok (.aload_n 0, 1) := by decide +kernel
theorem dX6_markOfWife_18 : decode cX6_markOfWife 18 = .ok (.getfield 45, 3) := by decide +kernel
theorem dX6_markOfWife_21 : decode cX6_markOfWife 21 = .ok (.getfield 132, 3) := by decide +kernel
theorem dX6_markOfWife_24 : decode cX6_markOfWife 24 = .ok (.iadd, 1) := by decide +kernel
theorem dX6_markOfWife_25 : decode cX6_markOfWife 25 = .ok (.ireturn, 1) := by decide +kernel
theorem dX6_item_0 : decode cX6_item 0 = .ok (.iload_n 1, 1) := by decide +kernel
theorem dX6_item_1 : decode cX6_item 1 = .ok (.ifCond .lt 15, 3) := by decide +kernel
theorem dX6_item_4 : decode cX6_item 4 = .ok (.iload_n 1, 1) := by decide +kernel
theorem dX6_item_5 : decode cX6_item 5 = .ok (.aload_n 0, 1) := by decide +kernel
theorem dX6_item_6 : decode cX6_item 6 = .ok (.arraylength, 1) := by decide +kernel
theorem dX6_item_7 : decode cX6_item 7 = .ok (.if_icmp .ge 9, 3) := by decide +kernel
theorem dX6_item_10 : decode cX6_item 10 = .ok (.aload_n 0, 1) := by decide +kernel
theorem dX6_item_11 : decode cX6_item 11 = .ok (.iload_n 1, 1) := by decide +kernel
theorem dX6_item_12 : decode cX6_item 12 = .ok (.iaload, 1) := by decide +kernel
theorem dX6_item_13 : decode cX6_item 13 = .ok (.goto 5, 3) := by decide +kernel
theorem dX6_item_16 : decode cX6_item 16 = .ok (.bipush (-9), 2) := by decide +kernel
theorem dX6_item_18 : decode cX6_item 18 = .ok (.ireturn, 1) := by decide +kernel
theorem dX6_put_0 : decode cX6_put 0 = .ok (.iload_n 1, 1) := by decide +kernel
theorem dX6_put_1 : decode cX6_put 1 = .ok (.ifCond .lt 13, 3) := by decide +kernel
theorem dX6_put_4 : decode cX6_put 4 = .ok (.iload_n 1, 1) := by decide +kernel
theorem dX6_put_5 : decode cX6_put 5 = .ok (.aload_n 0, 1) := by decide +kernel
theorem dX6_put_6 : decode cX6_put 6 = .ok (.arraylength, 1) := by decide +kernel
theorem dX6_put_7 : decode cX6_put 7 = .ok (.if_icmp .ge 7, 3) := by decide +kernel
theorem dX6_put_10 : decode cX6_put 10 = .ok (.aload_n 0, 1) := by decide +kernel
theorem dX6_put_11 : decode cX6_put 11 = .ok (.iload_n 1, 1) := by decide +kernel
theorem dX6_put_12 : decode cX6_put 12 = .ok (.iload_n 2, 1) := by decide +kernel
theorem dX6_put_13 : decode cX6_put 13 = .ok (.iastore, 1) := by decide +kernel
theorem dX6_put_14 : decode cX6_put 14 = .ok (.return_, 1) := by decide +kernel
theorem dX6_fewer_0 : decode cX6_fewer 0 = .ok (.iload_n 0, 1) := by decide +kernel
theorem dX6_fewer_1 : decode cX6_fewer 1 = .ok (.bipush (-9), 2) := by decide +kernel
theorem dX6_fewer_3 : decode cX6_fewer 3 = .ok (.if_icmp .eq 9, 3) := by decide +kernel
theorem dX6_fewer_6 : decode cX6_fewer 6 = .ok (.iload_n 1, 1) := by decide +kernel
theorem dX6_fewer_7 : decode cX6_fewer 7 = .ok (.bipush (-9), 2) := by decide +kernel
theorem dX6_fewer_9 : decode cX6_fewer 9 = .ok (.if_icmp .ne 15, 3) := by decide +kernel
theorem dX6_fewer_12 : decode cX6_fewer 12 = .ok (.iload_n 0, 1) := by decide +kernel
theorem dX6_fewer_13 : decode cX6_fewer 13 = .ok (.bipush (-9), 2) := by decide +kernel
theorem dX6_fewer_15 : decode cX6_fewer 15 = .ok (.if_icmp .ne 7, 3) := by decide +kernel
theorem dX6_fewer_18 : decode cX6_fewer 18 = .ok (.iload_n 1, 1) := by decide +kernel
theorem dX6_fewer_19 : decode cX6_fewer 19 = .ok (.goto 4, 3) := by decide +kernel
theorem dX6_fewer_22 : decode cX6_fewer 22 = .ok (.iload_n 0, 1) := by decide +kernel
theorem dX6_fewer_23 : decode cX6_fewer 23 = .ok (.ireturn, 1) := by decide +kernel
theorem dX6_fewer_24 : decode cX6_fewer 24 = .ok (.iload_n 0, 1) := by decide +kernel
theorem dX6_fewer_25 : decode cX6_fewer 25 = .ok (.iload_n 1, 1) := by decide +kernel
theorem dX6_fewer_26 : decode cX6_fewer 26 = .ok (.invokestatic 294, 3) := by decide +kernel
theorem dX6_fewer_29 : decode cX6_fewer 29 = .ok (.ireturn, 1) := by decide +kernel
theorem dX6_power_0 : decode cX6_power 0 = .ok (.iconst 1, 1) := by decide +kernel
theorem dX6_power_1 : decode cX6_power 1 = .ok (.istore_n 2, 1) := by decide +kernel
theorem dX6_power_2 : decode cX6_power 2 = .ok (.iconst 0, 1) := by decide +kernel
theorem dX6_power_3 : decode cX6_power 3 = .ok (.istore_n 3, 1) := by decide +kernel
theorem dX6_power_4 : decode cX6_power 4 = .ok (.iload_n 3, 1) := by decide +kernel
theorem dX6_power_5 : decode cX6_power 5 = .ok (.iload_n 1, 1) := by decide +kernel
theorem dX6_power_6 : decode cX6_power 6 = .ok (.if_icmp .ge 13, 3) := by decide +kernel
theorem dX6_power_9 : decode cX6_power 9 = .ok (.iload_n 2, 1) := by decide +kernel
theorem dX6_power_10 : decode cX6_power 10 = .ok (.iload_n 0, 1) := by decide +kernel
theorem dX6_power_11 : decode cX6_power 11 = .ok (.imul, 1) := by decide +kernel
theorem dX6_power_12 : decode cX6_power 12 = .ok (.istore_n 2, 1) := by decide +kernel
theorem dX6_power_13 : decode cX6_power 13 = .ok (.iinc 3 1, 3) := by decide +kernel
theorem dX6_power_16 : decode cX6_power 16 = .ok (.goto (-12), 3) := by decide +kernel
theorem dX6_power_19 : decode cX6_power 19 = .ok (.iload_n 2, 1) := by decide +kernel
theorem dX6_power_20 : decode cX6_power 20 = .ok (.ireturn, 1) := by decide +kernel
theorem dX6_commonDivisor_0 : decode cX6_commonDivisor 0 = .ok (.iload_n 0, 1) := by decide +kernel
theorem dX6_commonDivisor_1 : decode cX6_commonDivisor 1 = .ok (.istore_n 2, 1) := by decide +kernel
theorem dX6_commonDivisor_2 : decode cX6_commonDivisor 2 = .ok (.iload_n 1, 1) := by decide +kernel
theorem dX6_commonDivisor_3 : decode cX6_commonDivisor 3 = .ok (.istore_n 3, 1) := by decide +kernel
theorem dX6_commonDivisor_4 : decode cX6_commonDivisor 4 = .ok (.iconst 0, 1) := by decide +kernel
theorem dX6_commonDivisor_5 : decode cX6_commonDivisor 5 = .ok (.istore 4, 2) := by decide +kernel
theorem dX6_commonDivisor_7 : decode cX6_commonDivisor 7 = .ok (.iload 4, 2) := by decide +kernel
theorem dX6_commonDivisor_9 : decode cX6_commonDivisor 9 = .ok (.bipush 50, 2) := by decide +kernel
theorem dX6_commonDivisor_11 : decode cX6_commonDivisor 11 = .ok (.if_icmp .ge 23, 3) := by decide +kernel
theorem dX6_commonDivisor_14 : decode cX6_commonDivisor 14 = .ok (.iload_n 3, 1) := by decide +kernel
theorem dX6_commonDivisor_15 : decode cX6_commonDivisor 15 = .ok (.ifCond .eq 19, 3) := by decide +kernel
theorem dX6_commonDivisor_18 : decode cX6_commonDivisor 18 = .ok (.iload_n 2, 1) := by decide +kernel
theorem dX6_commonDivisor_19 : decode cX6_commonDivisor 19 = .ok (.iload_n 3, 1) := by decide +kernel
theorem dX6_commonDivisor_20 : decode cX6_commonDivisor 20 = .ok (.irem, 1) := by decide +kernel
theorem dX6_commonDivisor_21 : decode cX6_commonDivisor 21 = .ok (.istore 5, 2) := by decide +kernel
theorem dX6_commonDivisor_23 : decode cX6_commonDivisor 23 = .ok (.iload_n 3, 1) := by decide +kernel
theorem dX6_commonDivisor_24 : decode cX6_commonDivisor 24 = .ok (.istore_n 2, 1) := by decide +kernel
theorem dX6_commonDivisor_25 : decode cX6_commonDivisor 25 = .ok (.iload 5, 2) := by decide +kernel
theorem dX6_commonDivisor_27 : decode cX6_commonDivisor 27 = .ok (.istore_n 3, 1) := by decide +kernel
theorem dX6_commonDivisor_28 : decode cX6_commonDivisor 28 = .ok (.iinc 4 1, 3) := by decide +kernel
theorem dX6_commonDivisor_31 : decode cX6_commonDivisor 31 = .ok (.goto (-24), 3) := by decide +kernel
theorem dX6_commonDivisor_34 : decode cX6_commonDivisor 34 = .ok (.iload_n 2, 1) := by decide +kernel
theorem dX6_commonDivisor_35 : decode cX6_commonDivisor 35 = .ok (.ireturn, 1) := by decide +kernel
