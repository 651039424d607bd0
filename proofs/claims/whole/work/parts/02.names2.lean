set_option maxRecDepth 20000 in
theorem ggX5_init_X2_init : GoodIn wsX5_init wsX2_init := goodIn_r _ [25, 26, 2, 3, 21, 27, 58, 59] (by decide +kernel) (by decide +kernel)
set_option maxRecDepth 20000 in
theorem gX5_init_X2_init_n9 : GoodIn wsX5_init (wsX2_init) := ggX5_init_X2_init
set_option maxRecDepth 20000 in
theorem ggX5_init_X4_init : GoodIn wsX5_init wsX4_init := goodIn_r _ [29, 30, 2, 3, 31, 14, 15, 32, 33, 34, 35, 36, 37, 38, 39, 21, 40, 41, 42, 43, 44, 45, 46, 47, 48, 49, 50, 51, 72, 73, 74, 75, 76, 77, 78, 79, 80, 69, 70, 71, 86, 87, 88, 89, 90] (by decide +kernel) (by decide +kernel)
set_option maxRecDepth 20000 in
theorem gX5_init_X4_init_n18 : GoodIn wsX5_init (wsX4_init) := ggX5_init_X4_init
set_option maxRecDepth 20000 in
theorem ggX5_init_X1_init : GoodIn wsX5_init wsX1_init := goodIn_r _ [38, 39, 2, 3, 21, 40, 41, 42, 43, 44, 72, 73, 74, 75, 76, 77, 78, 79, 80] (by decide +kernel) (by decide +kernel)
set_option maxRecDepth 20000 in
theorem gX5_init_X1_init_n28 : GoodIn wsX5_init (wsX1_init) := ggX5_init_X1_init
set_option maxRecDepth 20000 in
theorem ggX5_init_X3_init : GoodIn wsX5_init wsX3_init := goodIn_r _ [53, 54, 2, 3, 21, 55, 56, 57, 81, 82, 83, 84, 85] (by decide +kernel) (by decide +kernel)
set_option maxRecDepth 20000 in
theorem gX5_init_X3_init_n35 : GoodIn wsX5_init (wsX3_init) := ggX5_init_X3_init
theorem dX5_init_0 : decode cX5_init 0 = .ok (.aload_n 0, 1) := by decide +kernel
theorem dX5_init_1 : decode cX5_init 1 = .ok (.invokespecial 1, 3) := by decide +kernel
theorem dX5_init_4 : decode cX5_init 4 = .ok (.aload_n 0, 1) := by decide +kernel
theorem dX5_init_5 : decode cX5_init 5 = .ok (.new 7, 3) := by decide +kernel
theorem dX5_init_8 : decode cX5_init 8 = .ok (.dup, 1) := by decide +kernel
theorem dX5_init_9 : decode cX5_init 9 = .ok (.invokespecial 9, 3) := by decide +kernel
theorem dX5_init_12 : decode cX5_init 12 = .ok (.putfield 10, 3) := by decide +kernel
theorem dX5_init_15 : decode cX5_init 15 = .ok (.aload_n 0, 1) := by decide +kernel
theorem dX5_init_16 : decode cX5_init 16 = .ok (.new 16, 3) := by decide +kernel
theorem dX5_init_19 : decode cX5_init 19 = .ok (.dup, 1) := by decide +kernel
theorem dX5_init_20 : decode cX5_init 20 = .ok (.invokespecial 18, 3) := by decide +kernel
theorem dX5_init_23 : decode cX5_init 23 = .ok (.putfield 19, 3) := by decide +kernel
theorem dX5_init_26 : decode cX5_init 26 = .ok (.aload_n 0, 1) := by decide +kernel
theorem dX5_init_27 : decode cX5_init 27 = .ok (.new 16, 3) := by decide +kernel
theorem dX5_init_30 : decode cX5_init 30 = .ok (.dup, 1) := by decide +kernel
theorem dX5_init_31 : decode cX5_init 31 = .ok (.invokespecial 18, 3) := by decide +kernel
theorem dX5_init_34 : decode cX5_init 34 = .ok (.putfield 23, 3) := by decide +kernel
theorem dX5_init_37 : decode cX5_init 37 = .ok (.aload_n 0, 1) := by decide +kernel
theorem dX5_init_38 : decode cX5_init 38 = .ok (.new 26, 3) := by decide +kernel
theorem dX5_init_41 : decode cX5_init 41 = .ok (.dup, 1) := by decide +kernel
theorem dX5_init_42 : decode cX5_init 42 = .ok (.invokespecial 28, 3) := by decide +kernel
theorem dX5_init_45 : decode cX5_init 45 = .ok (.putfield 29, 3) := by decide +kernel
theorem dX5_init_48 : decode cX5_init 48 = .ok (.aload_n 0, 1) := by decide +kernel
theorem dX5_init_49 : decode cX5_init 49 = .ok (.new 33, 3) := by decide +kernel
theorem dX5_init_52 : decode cX5_init 52 = .ok (.dup, 1) := by decide +kernel
theorem dX5_init_53 : decode cX5_init 53 = .ok (.invokespecial 35, 3) := by decide +kernel
theorem dX5_init_56 : decode cX5_init 56 = .ok (.putfield 36, 3) := by decide +kernel
theorem dX5_init_59 : decode cX5_init 59 = .ok (.aload_n 0, 1) := by decide +kernel
theorem dX5_init_60 : decode cX5_init 60 = .ok (.bipush 14, 2) := by decide +kernel
theorem dX5_init_62 : decode cX5_init 62 = .ok (.newarray .int, 2) := by decide +kernel
theorem dX5_init_64 : decode cX5_init 64 = .ok (.putfield 40, 3) := by decide +kernel
theorem dX5_init_67 : decode cX5_init 67 = .ok (.aload_n 0, 1) := by decide +kernel
theorem dX5_init_68 : decode cX5_init 68 = .ok (.bipush 6, 2) := by decide +kernel
theorem dX5_init_70 : decode cX5_init 70 = .ok (.newarray .int, 2) := by decide +kernel
theorem dX5_init_72 : decode cX5_init 72 = .ok (.putfield 44, 3) := by decide +kernel
theorem dX5_init_75 : decode cX5_init 75 = .ok (.return_, 1) := by decide +kernel
set_option maxRecDepth 20000 in
theorem ggX5_letter_X5_refuse : GoodIn wsX5_letter wsX5_refuse := goodIn_r _ [6, 7, 14, 15, 16, 17, 18, 19, 20, 21, 22] (by decide +kernel) (by decide +kernel)
set_option maxRecDepth 20000 in
theorem gX5_letter_X5_refuse : GoodIn wsX5_letter (wsV RX5 47 RX5 yX5_refuse wsX5_refuse) := goodIn_app (goodIn_of _ (by decide +kernel)) ggX5_letter_X5_refuse
set_option maxRecDepth 20000 in
theorem ggX5_letter_X2_add : GoodIn wsX5_letter wsX2_add := goodIn_r _ [11, 12, 13, 23, 24] (by decide +kernel) (by decide +kernel)
set_option maxRecDepth 20000 in
theorem gX5_letter_X2_add_n51 : GoodIn wsX5_letter (wsX2_add) := ggX5_letter_X2_add
theorem dX5_letter_0 : decode cX5_letter 0 = .ok (.iload_n 1, 1) := by decide +kernel
theorem dX5_letter_1 : decode cX5_letter 1 = .ok (.ifCond .ge 10, 3) := by decide +kernel
theorem dX5_letter_4 : decode cX5_letter 4 = .ok (.aload_n 0, 1) := by decide +kernel
theorem dX5_letter_5 : decode cX5_letter 5 = .ok (.bipush (-4), 2) := by decide +kernel
theorem dX5_letter_7 : decode cX5_letter 7 = .ok (.invokevirtual 47, 3) := by decide +kernel
theorem dX5_letter_10 : decode cX5_letter 10 = .ok (.ireturn, 1) := by decide +kernel
theorem dX5_letter_11 : decode cX5_letter 11 = .ok (.iload_n 1, 1) := by decide +kernel
theorem dX5_letter_12 : decode cX5_letter 12 = .ok (.sipush 255, 3) := by decide +kernel
theorem dX5_letter_15 : decode cX5_letter 15 = .ok (.if_icmp .gt 14, 3) := by decide +kernel
theorem dX5_letter_18 : decode cX5_letter 18 = .ok (.aload_n 0, 1) := by decide +kernel
theorem dX5_letter_19 : decode cX5_letter 19 = .ok (.getfield 10, 3) := by decide +kernel
theorem dX5_letter_22 : decode cX5_letter 22 = .ok (.iload_n 1, 1) := by decide +kernel
theorem dX5_letter_23 : decode cX5_letter 23 = .ok (.invokevirtual 51, 3) := by decide +kernel
theorem dX5_letter_26 : decode cX5_letter 26 = .ok (.ifCond .ne 10, 3) := by decide +kernel
theorem dX5_letter_29 : decode cX5_letter 29 = .ok (.aload_n 0, 1) := by decide +kernel
theorem dX5_letter_30 : decode cX5_letter 30 = .ok (.bipush (-6), 2) := by decide +kernel
theorem dX5_letter_32 : decode cX5_letter 32 = .ok (.invokevirtual 47, 3) := by decide +kernel
theorem dX5_letter_35 : decode cX5_letter 35 = .ok (.ireturn, 1) := by decide +kernel
theorem dX5_letter_36 : decode cX5_letter 36 = .ok (.aload_n 0, 1) := by decide +kernel
theorem dX5_letter_37 : decode cX5_letter 37 = .ok (.getfield 10, 3) := by decide +kernel
theorem dX5_letter_40 : decode cX5_letter 40 = .ok (.getfield 55, 3) := by decide +kernel
theorem dX5_letter_43 : decode cX5_letter 43 = .ok (.ireturn, 1) := by decide +kernel
set_option maxRecDepth 20000 in
theorem ggX5_land_X5_landTold : GoodIn wsX5_land wsX5_landTold := goodIn_r _ [6, 1, 7, 8, 9, 10, 11, 12, 13, 14, 15, 16, 17, 18, 19, 20, 21, 22, 23, 24, 25, 26, 27, 28, 29, 30, 31, 32, 33, 34, 35, 36, 37, 38, 39, 40, 41, 42, 43, 44, 45, 46, 47, 48, 49, 50, 51, 52, 53, 54, 55, 56, 57, 58, 59, 60, 61, 62, 63, 64, 65, 66, 67, 68, 69, 70, 71, 72, 73, 74, 75, 76, 77, 78, 79, 80, 81, 82, 83, 84, 85, 86, 87, 88, 89, 90, 91, 92, 93, 94, 95, 96, 97, 98, 99, 100, 101, 102, 103, 104, 105, 106, 107, 108, 109, 110, 111, 112, 113, 114, 115, 116, 117, 118, 119, 120, 121, 122, 123, 124, 125, 126, 127, 128, 129, 130, 131, 132, 133, 134, 135, 136, 137, 138, 139, 140, 141, 142, 143, 144, 145, 146, 147, 148, 149, 150, 151, 152, 153, 154, 155, 156, 157, 158, 159, 160, 161, 162, 163, 164, 165, 166, 167, 168, 169, 170, 171, 172, 173, 174, 175, 176, 177, 178, 179, 180, 181, 182, 183, 184, 185, 186, 187, 5, 188, 189, 190, 191, 192, 193, 194, 195, 196, 197, 198, 199, 200, 201, 202, 203, 204, 205, 208, 209, 210, 206, 207, 211, 212, 213, 214, 215, 216, 217, 218, 219] (by decide +kernel) (by decide +kernel)
set_option maxRecDepth 20000 in
theorem gX5_land_X5_landTold : GoodIn wsX5_land (wsV RX5 59 RX5 yX5_landTold wsX5_landTold) := goodIn_app (goodIn_of _ (by decide +kernel)) ggX5_land_X5_landTold
theorem dX5_land_0 : decode cX5_land 0 = .ok (.aload_n 0, 1) := by decide +kernel
theorem dX5_land_1 : decode cX5_land 1 = .ok (.invokevirtual 59, 3) := by decide +kernel
theorem dX5_land_4 : decode cX5_land 4 = .ok (.istore_n 1, 1) := by decide +kernel
theorem dX5_land_5 : decode cX5_land 5 = .ok (.aload_n 0, 1) := by decide +kernel
theorem dX5_land_6 : decode cX5_land 6 = .ok (.getfield 10, 3) := by decide +kernel
theorem dX5_land_9 : decode cX5_land 9 = .ok (.iconst 0, 1) := by decide +kernel
theorem dX5_land_10 : decode cX5_land 10 = .ok (.putfield 55, 3) := by decide +kernel
theorem dX5_land_13 : decode cX5_land 13 = .ok (.iload_n 1, 1) := by decide +kernel
theorem dX5_land_14 : decode cX5_land 14 = .ok (.ireturn, 1) := by decide +kernel
set_option maxRecDepth 20000 in
theorem ggX5_engine_X1_knows : GoodIn wsX5_engine wsX1_knows := goodIn_r _ [5, 6, 38, 39, 40, 41, 42, 43, 44, 45, 46] (by decide +kernel) (by decide +kernel)
set_option maxRecDepth 20000 in
theorem gX5_engine_X1_knows_n66 : GoodIn wsX5_engine (wsX1_knows) := ggX5_engine_X1_knows
set_option maxRecDepth 20000 in
theorem ggX5_engine_X5_refuse : GoodIn wsX5_engine wsX5_refuse := goodIn_r _ [11, 12, 26, 27, 28, 29, 30, 31, 32, 33, 34] (by decide +kernel) (by decide +kernel)
set_option maxRecDepth 20000 in
theorem gX5_engine_X5_refuse : GoodIn wsX5_engine (wsV RX5 47 RX5 yX5_refuse wsX5_refuse) := goodIn_app (goodIn_of _ (by decide +kernel)) ggX5_engine_X5_refuse
set_option maxRecDepth 20000 in
theorem ggX5_engine_X1_number : GoodIn wsX5_engine wsX1_number := goodIn_r _ [15, 16, 17, 2, 4, 3, 5, 6, 38, 39, 40, 41, 42, 43, 44, 45, 46] (by decide +kernel) (by decide +kernel)
set_option maxRecDepth 20000 in
theorem gX5_engine_X1_number_n69 : GoodIn wsX5_engine (wsX1_number) := ggX5_engine_X1_number
set_option maxRecDepth 20000 in
theorem ggX5_engine_X1_isOn : GoodIn wsX5_engine wsX1_isOn := goodIn_r _ [20, 21, 17, 2, 4, 3, 5, 6, 22, 23, 24, 25, 38, 39, 40, 41, 42, 43, 44, 45, 46] (by decide +kernel) (by decide +kernel)
set_option maxRecDepth 20000 in
theorem gX5_engine_X1_isOn_n87 : GoodIn wsX5_engine (wsX1_isOn) := ggX5_engine_X1_isOn
theorem dX5_engine_0 : decode cX5_engine 0 = .ok (.aload_n 0, 1) := by decide +kernel
theorem dX5_engine_1 : decode cX5_engine 1 = .ok (.getfield 19, 3) := by decide +kernel
theorem dX5_engine_4 : decode cX5_engine 4 = .ok (.getfield 63, 3) := by decide +kernel
theorem dX5_engine_7 : decode cX5_engine 7 = .ok (.astore_n 3, 1) := by decide +kernel
theorem dX5_engine_8 : decode cX5_engine 8 = .ok (.aload_n 3, 1) := by decide +kernel
theorem dX5_engine_9 : decode cX5_engine 9 = .ok (.iload_n 1, 1) := by decide +kernel
theorem dX5_engine_10 : decode cX5_engine 10 = .ok (.invokevirtual 66, 3) := by decide +kernel
theorem dX5_engine_13 : decode cX5_engine 13 = .ok (.ifCond .ne 9, 3) := by decide +kernel
theorem dX5_engine_16 : decode cX5_engine 16 = .ok (.aload_n 0, 1) := by decide +kernel
theorem dX5_engine_17 : decode cX5_engine 17 = .ok (.iconst (-1), 1) := by decide +kernel
theorem dX5_engine_18 : decode cX5_engine 18 = .ok (.invokevirtual 47, 3) := by decide +kernel
theorem dX5_engine_21 : decode cX5_engine 21 = .ok (.ireturn, 1) := by decide +kernel
theorem dX5_engine_22 : decode cX5_engine 22 = .ok (.iload_n 2, 1) := by decide +kernel
theorem dX5_engine_23 : decode cX5_engine 23 = .ok (.tableswitch 104 0 6 #[41, 47, 54, 61, 68, 77, 86], 41) := by decide +kernel
theorem dX5_engine_64 : decode cX5_engine 64 = .ok (.aload_n 3, 1) := by decide +kernel
theorem dX5_engine_65 : decode cX5_engine 65 = .ok (.iload_n 1, 1) := by decide +kernel
theorem dX5_engine_66 : decode cX5_engine 66 = .ok (.invokevirtual 69, 3) := by decide +kernel
theorem dX5_engine_69 : decode cX5_engine 69 = .ok (.ireturn, 1) := by decide +kernel
theorem dX5_engine_70 : decode cX5_engine 70 = .ok (.aload_n 3, 1) := by decide +kernel
theorem dX5_engine_71 : decode cX5_engine 71 = .ok (.getfield 72, 3) := by decide +kernel
theorem dX5_engine_74 : decode cX5_engine 74 = .ok (.iload_n 1, 1) := by decide +kernel
theorem dX5_engine_75 : decode cX5_engine 75 = .ok (.iaload, 1) := by decide +kernel
theorem dX5_engine_76 : decode cX5_engine 76 = .ok (.ireturn, 1) := by decide +kernel
theorem dX5_engine_77 : decode cX5_engine 77 = .ok (.aload_n 3, 1) := by decide +kernel
theorem dX5_engine_78 : decode cX5_engine 78 = .ok (.getfield 75, 3) := by decide +kernel
theorem dX5_engine_81 : decode cX5_engine 81 = .ok (.iload_n 1, 1) := by decide +kernel
theorem dX5_engine_82 : decode cX5_engine 82 = .ok (.iaload, 1) := by decide +kernel
theorem dX5_engine_83 : decode cX5_engine 83 = .ok (.ireturn, 1) := by decide +kernel
theorem dX5_engine_84 : decode cX5_engine 84 = .ok (.aload_n 3, 1) := by decide +kernel
theorem dX5_engine_85 : decode cX5_engine 85 = .ok (.getfield 78, 3) := by decide +kernel
theorem dX5_engine_88 : decode cX5_engine 88 = .ok (.iload_n 1, 1) := by decide +kernel
theorem dX5_engine_89 : decode cX5_engine 89 = .ok (.iaload, 1) := by decide +kernel
theorem dX5_engine_90 : decode cX5_engine 90 = .ok (.ireturn, 1) := by decide +kernel
theorem dX5_engine_91 : decode cX5_engine 91 = .ok (.aload_n 3, 1) := by decide +kernel
theorem dX5_engine_92 : decode cX5_engine 92 = .ok (.getfield 81, 3) := by decide +kernel
theorem dX5_engine_95 : decode cX5_engine 95 = .ok (.iload_n 1, 1) := by decide +kernel
theorem dX5_engine_96 : decode cX5_engine 96 = .ok (.ishr, 1) := by decide +kernel
theorem dX5_engine_97 : decode cX5_engine 97 = .ok (.iconst 1, 1) := by decide +kernel
theorem dX5_engine_98 : decode cX5_engine 98 = .ok (.iand, 1) := by decide +kernel
theorem dX5_engine_99 : decode cX5_engine 99 = .ok (.ireturn, 1) := by decide +kernel
theorem dX5_engine_100 : decode cX5_engine 100 = .ok (.aload_n 3, 1) := by decide +kernel
theorem dX5_engine_101 : decode cX5_engine 101 = .ok (.getfield 84, 3) := by decide +kernel
theorem dX5_engine_104 : decode cX5_engine 104 = .ok (.iload_n 1, 1) := by decide +kernel
theorem dX5_engine_105 : decode cX5_engine 105 = .ok (.ishr, 1) := by decide +kernel
theorem dX5_engine_106 : decode cX5_engine 106 = .ok (.iconst 1, 1) := by decide +kernel
theorem dX5_engine_107 : decode cX5_engine 107 = .ok (.iand, 1) := by decide +kernel
theorem dX5_engine_108 : decode cX5_engine 108 = .ok (.ireturn, 1) := by decide +kernel
theorem dX5_engine_109 : decode cX5_engine 109 = .ok (.aload_n 3, 1) := by decide +kernel
theorem dX5_engine_110 : decode cX5_engine 110 = .ok (.aload_n 3, 1) := by decide +kernel
theorem dX5_engine_111 : decode cX5_engine 111 = .ok (.getfield 81, 3) := by decide +kernel
theorem dX5_engine_114 : decode cX5_engine 114 = .ok (.iload_n 1, 1) := by decide +kernel
theorem dX5_engine_115 : decode cX5_engine 115 = .ok (.invokevirtual 87, 3) := by decide +kernel
theorem dX5_engine_118 : decode cX5_engine 118 = .ok (.ifCond .eq 7, 3) := by decide +kernel
theorem dX5_engine_121 : decode cX5_engine 121 = .ok (.iconst 1, 1) := by decide +kernel
theorem dX5_engine_122 : decode cX5_engine 122 = .ok (.goto 4, 3) := by decide +kernel
theorem dX5_engine_125 : decode cX5_engine 125 = .ok (.iconst 0, 1) := by decide +kernel
theorem dX5_engine_126 : decode cX5_engine 126 = .ok (.ireturn, 1) := by decide +kernel
theorem dX5_engine_127 : decode cX5_engine 127 = .ok (.aload_n 0, 1) := by decide +kernel
theorem dX5_engine_128 : decode cX5_engine 128 = .ok (.bipush (-2), 2) := by decide +kernel
theorem dX5_engine_130 : decode cX5_engine 130 = .ok (.invokevirtual 47, 3) := by decide +kernel
theorem dX5_engine_133 : decode cX5_engine 133 = .ok (.ireturn, 1) := by decide +kernel
set_option maxRecDepth 20000 in
theorem ggX5_turn_X1_knows : GoodIn wsX5_turn wsX1_knows := goodIn_r _ [5, 6, 30, 31, 32, 33, 34, 35, 36, 37, 38] (by decide +kernel) (by decide +kernel)
set_option maxRecDepth 20000 in
theorem gX5_turn_X1_knows_n66 : GoodIn wsX5_turn (wsX1_knows) := ggX5_turn_X1_knows
set_option maxRecDepth 20000 in
theorem ggX5_turn_X5_refuse : GoodIn wsX5_turn wsX5_refuse := goodIn_r _ [11, 12, 18, 19, 20, 21, 22, 23, 24, 25, 26] (by decide +kernel) (by decide +kernel)
set_option maxRecDepth 20000 in
theorem gX5_turn_X5_refuse : GoodIn wsX5_turn (wsV RX5 47 RX5 yX5_refuse wsX5_refuse) := goodIn_app (goodIn_of _ (by decide +kernel)) ggX5_turn_X5_refuse
set_option maxRecDepth 20000 in
theorem ggX5_turn_X1_turnOf : GoodIn wsX5_turn wsX1_turnOf := goodIn_r _ [15, 16, 17, 2, 4, 3, 5, 6, 30, 31, 32, 33, 34, 35, 36, 37, 38] (by decide +kernel) (by decide +kernel)
set_option maxRecDepth 20000 in
theorem gX5_turn_X1_turnOf_n91 : GoodIn wsX5_turn (wsX1_turnOf) := ggX5_turn_X1_turnOf
theorem dX5_turn_0 : decode cX5_turn 0 = .ok (.aload_n 0, 1) := by decide +kernel
theorem dX5_turn_1 : decode cX5_turn 1 = .ok (.getfield 19, 3) := by decide +kernel
theorem dX5_turn_4 : decode cX5_turn 4 = .ok (.getfield 63, 3) := by decide +kernel
theorem dX5_turn_7 : decode cX5_turn 7 = .ok (.iload_n 1, 1) := by decide +kernel
theorem dX5_turn_8 : decode cX5_turn 8 = .ok (.invokevirtual 66, 3) := by decide +kernel
theorem dX5_turn_11 : decode cX5_turn 11 = .ok (.ifCond .ne 9, 3) := by decide +kernel
theorem dX5_turn_14 : decode cX5_turn 14 = .ok (.aload_n 0, 1) := by decide +kernel
theorem dX5_turn_15 : decode cX5_turn 15 = .ok (.iconst (-1), 1) := by decide +kernel
theorem dX5_turn_16 : decode cX5_turn 16 = .ok (.invokevirtual 47, 3) := by decide +kernel
theorem dX5_turn_19 : decode cX5_turn 19 = .ok (.ireturn, 1) := by decide +kernel
theorem dX5_turn_20 : decode cX5_turn 20 = .ok (.iload_n 2, 1) := by decide +kernel
theorem dX5_turn_21 : decode cX5_turn 21 = .ok (.ifCond .ge 10, 3) := by decide +kernel
theorem dX5_turn_24 : decode cX5_turn 24 = .ok (.aload_n 0, 1) := by decide +kernel
theorem dX5_turn_25 : decode cX5_turn 25 = .ok (.bipush (-4), 2) := by decide +kernel
theorem dX5_turn_27 : decode cX5_turn 27 = .ok (.invokevirtual 47, 3) := by decide +kernel
theorem dX5_turn_30 : decode cX5_turn 30 = .ok (.ireturn, 1) := by decide +kernel
theorem dX5_turn_31 : decode cX5_turn 31 = .ok (.iload_n 2, 1) := by decide +kernel
theorem dX5_turn_32 : decode cX5_turn 32 = .ok (.bipush 7, 2) := by decide +kernel
theorem dX5_turn_34 : decode cX5_turn 34 = .ok (.if_icmp .lt 10, 3) := by decide +kernel
theorem dX5_turn_37 : decode cX5_turn 37 = .ok (.aload_n 0, 1) := by decide +kernel
theorem dX5_turn_38 : decode cX5_turn 38 = .ok (.bipush (-6), 2) := by decide +kernel
theorem dX5_turn_40 : decode cX5_turn 40 = .ok (.invokevirtual 47, 3) := by decide +kernel
theorem dX5_turn_43 : decode cX5_turn 43 = .ok (.ireturn, 1) := by decide +kernel
theorem dX5_turn_44 : decode cX5_turn 44 = .ok (.aload_n 0, 1) := by decide +kernel
theorem dX5_turn_45 : decode cX5_turn 45 = .ok (.getfield 19, 3) := by decide +kernel
theorem dX5_turn_48 : decode cX5_turn 48 = .ok (.getfield 63, 3) := by decide +kernel
theorem dX5_turn_51 : decode cX5_turn 51 = .ok (.iload_n 1, 1) := by decide +kernel
theorem dX5_turn_52 : decode cX5_turn 52 = .ok (.iload_n 2, 1) := by decide +kernel
theorem dX5_turn_53 : decode cX5_turn 53 = .ok (.invokevirtual 91, 3) := by decide +kernel
theorem dX5_turn_56 : decode cX5_turn 56 = .ok (.ireturn, 1) := by decide +kernel
set_option maxRecDepth 20000 in
theorem ggX5_at_X1_knows : GoodIn wsX5_at wsX1_knows := goodIn_r _ [5, 6, 36, 37, 38, 39, 40, 41, 42, 43, 44] (by decide +kernel) (by decide +kernel)
set_option maxRecDepth 20000 in
theorem gX5_at_X1_knows_n66 : GoodIn wsX5_at (wsX1_knows) := ggX5_at_X1_knows
set_option maxRecDepth 20000 in
theorem ggX5_at_X5_refuse : GoodIn wsX5_at wsX5_refuse := goodIn_r _ [11, 12, 24, 25, 26, 27, 28, 29, 30, 31, 32] (by decide +kernel) (by decide +kernel)
set_option maxRecDepth 20000 in
theorem gX5_at_X5_refuse : GoodIn wsX5_at (wsV RX5 47 RX5 yX5_refuse wsX5_refuse) := goodIn_app (goodIn_of _ (by decide +kernel)) ggX5_at_X5_refuse
set_option maxRecDepth 20000 in
theorem ggX5_at_X1_placeOn : GoodIn wsX5_at wsX1_placeOn := goodIn_r _ [15, 16, 17, 18, 2, 4, 3, 5, 6, 19, 20, 21, 22, 23, 36, 37, 38, 39, 40, 41, 42, 43, 44] (by decide +kernel) (by decide +kernel)
set_option maxRecDepth 20000 in
theorem gX5_at_X1_placeOn_n95 : GoodIn wsX5_at (wsX1_placeOn) := ggX5_at_X1_placeOn
theorem dX5_at_0 : decode cX5_at 0 = .ok (.aload_n 0, 1) := by decide +kernel
theorem dX5_at_1 : decode cX5_at 1 = .ok (.getfield 19, 3) := by decide +kernel
theorem dX5_at_4 : decode cX5_at 4 = .ok (.getfield 63, 3) := by decide +kernel
theorem dX5_at_7 : decode cX5_at 7 = .ok (.iload_n 1, 1) := by decide +kernel
theorem dX5_at_8 : decode cX5_at 8 = .ok (.invokevirtual 66, 3) := by decide +kernel
theorem dX5_at_11 : decode cX5_at 11 = .ok (.ifCond .ne 9, 3) := by decide +kernel
theorem dX5_at_14 : decode cX5_at 14 = .ok (.aload_n 0, 1) := by decide +kernel
theorem dX5_at_15 : decode cX5_at 15 = .ok (.iconst (-1), 1) := by decide +kernel
theorem dX5_at_16 : decode cX5_at 16 = .ok (.invokevirtual 47, 3) := by decide +kernel
theorem dX5_at_19 : decode cX5_at 19 = .ok (.ireturn, 1) := by decide +kernel
theorem dX5_at_20 : decode cX5_at 20 = .ok (.iload_n 2, 1) := by decide +kernel
theorem dX5_at_21 : decode cX5_at 21 = .ok (.ifCond .ge 10, 3) := by decide +kernel
theorem dX5_at_24 : decode cX5_at 24 = .ok (.aload_n 0, 1) := by decide +kernel
theorem dX5_at_25 : decode cX5_at 25 = .ok (.bipush (-4), 2) := by decide +kernel
theorem dX5_at_27 : decode cX5_at 27 = .ok (.invokevirtual 47, 3) := by decide +kernel
theorem dX5_at_30 : decode cX5_at 30 = .ok (.ireturn, 1) := by decide +kernel
theorem dX5_at_31 : decode cX5_at 31 = .ok (.iload_n 2, 1) := by decide +kernel
theorem dX5_at_32 : decode cX5_at 32 = .ok (.sipush 1100, 3) := by decide +kernel
theorem dX5_at_35 : decode cX5_at 35 = .ok (.if_icmp .le 10, 3) := by decide +kernel
theorem dX5_at_38 : decode cX5_at 38 = .ok (.aload_n 0, 1) := by decide +kernel
theorem dX5_at_39 : decode cX5_at 39 = .ok (.bipush (-6), 2) := by decide +kernel
theorem dX5_at_41 : decode cX5_at 41 = .ok (.invokevirtual 47, 3) := by decide +kernel
theorem dX5_at_44 : decode cX5_at 44 = .ok (.ireturn, 1) := by decide +kernel
theorem dX5_at_45 : decode cX5_at 45 = .ok (.aload_n 0, 1) := by decide +kernel
theorem dX5_at_46 : decode cX5_at 46 = .ok (.getfield 19, 3) := by decide +kernel
theorem dX5_at_49 : decode cX5_at 49 = .ok (.getfield 63, 3) := by decide +kernel
theorem dX5_at_52 : decode cX5_at 52 = .ok (.iload_n 1, 1) := by decide +kernel
theorem dX5_at_53 : decode cX5_at 53 = .ok (.iload_n 2, 1) := by decide +kernel
theorem dX5_at_54 : decode cX5_at 54 = .ok (.invokevirtual 95, 3) := by decide +kernel
theorem dX5_at_57 : decode cX5_at 57 = .ok (.ireturn, 1) := by decide +kernel
set_option maxRecDepth 20000 in
theorem ggX5_pass_X5_isPlace : GoodIn wsX5_pass wsX5_isPlace := goodIn_r _ [5] (by decide +kernel) (by decide +kernel)
set_option maxRecDepth 20000 in
theorem gX5_pass_X5_isPlace : GoodIn wsX5_pass (va_wsS RX5 98 yX5_isPlace wsX5_isPlace) := goodIn_app (goodIn_of _ (by decide +kernel)) ggX5_pass_X5_isPlace
set_option maxRecDepth 20000 in
theorem ggX5_pass_X5_refuse : GoodIn wsX5_pass wsX5_refuse := goodIn_r _ [9, 10, 35, 36, 37, 38, 39, 40, 41, 42, 43] (by decide +kernel) (by decide +kernel)
set_option maxRecDepth 20000 in
theorem gX5_pass_X5_refuse : GoodIn wsX5_pass (wsV RX5 47 RX5 yX5_refuse wsX5_refuse) := goodIn_app (goodIn_of _ (by decide +kernel)) ggX5_pass_X5_refuse
set_option maxRecDepth 20000 in
theorem ggX5_pass_X1_passing : GoodIn wsX5_pass wsX1_passing := goodIn_r _ [14, 15, 16, 17, 18, 12, 19, 20, 21, 22, 23, 24, 25, 26, 27, 28, 29, 30, 31, 32, 33, 34, 47, 48, 49, 50, 51, 52, 53, 54, 55] (by decide +kernel) (by decide +kernel)
set_option maxRecDepth 20000 in
theorem gX5_pass_X1_passing_n101 : GoodIn wsX5_pass (wsX1_passing) := ggX5_pass_X1_passing
theorem dX5_pass_0 : decode cX5_pass 0 = .ok (.iload_n 1, 1) := by decide +kernel
theorem dX5_pass_1 : decode cX5_pass 1 = .ok (.invokestatic 98, 3) := by decide +kernel
theorem dX5_pass_4 : decode cX5_pass 4 = .ok (.ifCond .ne 9, 3) := by decide +kernel
theorem dX5_pass_7 : decode cX5_pass 7 = .ok (.aload_n 0, 1) := by decide +kernel
theorem dX5_pass_8 : decode cX5_pass 8 = .ok (.iconst (-1), 1) := by decide +kernel
theorem dX5_pass_9 : decode cX5_pass 9 = .ok (.invokevirtual 47, 3) := by decide +kernel
theorem dX5_pass_12 : decode cX5_pass 12 = .ok (.ireturn, 1) := by decide +kernel
theorem dX5_pass_13 : decode cX5_pass 13 = .ok (.iload_n 2, 1) := by decide +kernel
theorem dX5_pass_14 : decode cX5_pass 14 = .ok (.ifCond .ge 10, 3) := by decide +kernel
theorem dX5_pass_17 : decode cX5_pass 17 = .ok (.aload_n 0, 1) := by decide +kernel
theorem dX5_pass_18 : decode cX5_pass 18 = .ok (.bipush (-4), 2) := by decide +kernel
theorem dX5_pass_20 : decode cX5_pass 20 = .ok (.invokevirtual 47, 3) := by decide +kernel
theorem dX5_pass_23 : decode cX5_pass 23 = .ok (.ireturn, 1) := by decide +kernel
theorem dX5_pass_24 : decode cX5_pass 24 = .ok (.iload_n 2, 1) := by decide +kernel
theorem dX5_pass_25 : decode cX5_pass 25 = .ok (.sipush 1100, 3) := by decide +kernel
theorem dX5_pass_28 : decode cX5_pass 28 = .ok (.if_icmp .le 10, 3) := by decide +kernel
theorem dX5_pass_31 : decode cX5_pass 31 = .ok (.aload_n 0, 1) := by decide +kernel
theorem dX5_pass_32 : decode cX5_pass 32 = .ok (.bipush (-6), 2) := by decide +kernel
theorem dX5_pass_34 : decode cX5_pass 34 = .ok (.invokevirtual 47, 3) := by decide +kernel
theorem dX5_pass_37 : decode cX5_pass 37 = .ok (.ireturn, 1) := by decide +kernel
theorem dX5_pass_38 : decode cX5_pass 38 = .ok (.aload_n 0, 1) := by decide +kernel
theorem dX5_pass_39 : decode cX5_pass 39 = .ok (.getfield 19, 3) := by decide +kernel
theorem dX5_pass_42 : decode cX5_pass 42 = .ok (.getfield 63, 3) := by decide +kernel
theorem dX5_pass_45 : decode cX5_pass 45 = .ok (.iload_n 1, 1) := by decide +kernel
theorem dX5_pass_46 : decode cX5_pass 46 = .ok (.iload_n 2, 1) := by decide +kernel
theorem dX5_pass_47 : decode cX5_pass 47 = .ok (.invokevirtual 101, 3) := by decide +kernel
theorem dX5_pass_50 : decode cX5_pass 50 = .ok (.ireturn, 1) := by decide +kernel
set_option maxRecDepth 20000 in
theorem ggX5_stand_X5_isPlace : GoodIn wsX5_stand wsX5_isPlace := goodIn_r _ [5] (by decide +kernel) (by decide +kernel)
set_option maxRecDepth 20000 in
theorem gX5_stand_X5_isPlace : GoodIn wsX5_stand (va_wsS RX5 98 yX5_isPlace wsX5_isPlace) := goodIn_app (goodIn_of _ (by decide +kernel)) ggX5_stand_X5_isPlace
set_option maxRecDepth 20000 in
theorem ggX5_stand_X5_refuse : GoodIn wsX5_stand wsX5_refuse := goodIn_r _ [9, 10, 63, 64, 65, 66, 67, 68, 69, 70, 71] (by decide +kernel) (by decide +kernel)
set_option maxRecDepth 20000 in
theorem gX5_stand_X5_refuse : GoodIn wsX5_stand (wsV RX5 47 RX5 yX5_refuse wsX5_refuse) := goodIn_app (goodIn_of _ (by decide +kernel)) ggX5_stand_X5_refuse
set_option maxRecDepth 20000 in
theorem ggX5_stand_X1_passing : GoodIn wsX5_stand wsX1_passing := goodIn_r _ [14, 15, 16, 17, 18, 12, 19, 20, 21, 22, 23, 24, 25, 26, 27, 28, 29, 30, 31, 32, 33, 34, 75, 76, 77, 78, 79, 80, 81, 82, 83] (by decide +kernel) (by decide +kernel)
set_option maxRecDepth 20000 in
theorem gX5_stand_X1_passing_n101 : GoodIn wsX5_stand (wsX1_passing) := ggX5_stand_X1_passing
set_option maxRecDepth 20000 in
theorem ggX5_stand_X1_newOf : GoodIn wsX5_stand wsX1_newOf := goodIn_r _ [37, 15, 38, 31, 32, 33, 12, 34, 22, 23, 24, 25, 39, 40, 41, 42, 43, 44, 45, 46, 47, 48, 49, 50, 51, 75, 76, 77, 78, 79, 80, 81, 82, 83] (by decide +kernel) (by decide +kernel)
set_option maxRecDepth 20000 in
theorem gX5_stand_X1_newOf_n107 : GoodIn wsX5_stand (wsX1_newOf) := ggX5_stand_X1_newOf
set_option maxRecDepth 20000 in
theorem ggX5_stand_X1_worth : GoodIn wsX5_stand wsX1_worth := goodIn_r _ [54, 55, 56, 57, 58, 59, 60, 61, 62, 75, 76, 77, 78, 79, 80, 81, 82, 83] (by decide +kernel) (by decide +kernel)
set_option maxRecDepth 20000 in
theorem gX5_stand_X1_worth_n110 : GoodIn wsX5_stand (wsX1_worth) := ggX5_stand_X1_worth
theorem dX5_stand_0 : decode cX5_stand 0 = .ok (.iload_n 1, 1) := by decide +kernel
theorem dX5_stand_1 : decode cX5_stand 1 = .ok (.invokestatic 98, 3) := by decide +kernel
theorem dX5_stand_4 : decode cX5_stand 4 = .ok (.ifCond .ne 9, 3) := by decide +kernel
theorem dX5_stand_7 : decode cX5_stand 7 = .ok (.aload_n 0, 1) := by decide +kernel
theorem dX5_stand_8 : decode cX5_stand 8 = .ok (.iconst (-1), 1) := by decide +kernel
theorem dX5_stand_9 : decode cX5_stand 9 = .ok (.invokevirtual 47, 3) := by decide +kernel
theorem dX5_stand_12 : decode cX5_stand 12 = .ok (.ireturn, 1) := by decide +kernel
theorem dX5_stand_13 : decode cX5_stand 13 = .ok (.aload_n 0, 1) := by decide +kernel
theorem dX5_stand_14 : decode cX5_stand 14 = .ok (.getfield 19, 3) := by decide +kernel
theorem dX5_stand_17 : decode cX5_stand 17 = .ok (.getfield 104, 3) := by decide +kernel
theorem dX5_stand_20 : decode cX5_stand 20 = .ok (.sipush 999, 3) := by decide +kernel
theorem dX5_stand_23 : decode cX5_stand 23 = .ok (.if_icmp .lt 10, 3) := by decide +kernel
theorem dX5_stand_26 : decode cX5_stand 26 = .ok (.aload_n 0, 1) := by decide +kernel
theorem dX5_stand_27 : decode cX5_stand 27 = .ok (.bipush (-6), 2) := by decide +kernel
theorem dX5_stand_29 : decode cX5_stand 29 = .ok (.invokevirtual 47, 3) := by decide +kernel
theorem dX5_stand_32 : decode cX5_stand 32 = .ok (.ireturn, 1) := by decide +kernel
theorem dX5_stand_33 : decode cX5_stand 33 = .ok (.aload_n 0, 1) := by decide +kernel
theorem dX5_stand_34 : decode cX5_stand 34 = .ok (.getfield 19, 3) := by decide +kernel
theorem dX5_stand_37 : decode cX5_stand 37 = .ok (.getfield 63, 3) := by decide +kernel
theorem dX5_stand_40 : decode cX5_stand 40 = .ok (.iload_n 1, 1) := by decide +kernel
theorem dX5_stand_41 : decode cX5_stand 41 = .ok (.aload_n 0, 1) := by decide +kernel
theorem dX5_stand_42 : decode cX5_stand 42 = .ok (.getfield 19, 3) := by decide +kernel
theorem dX5_stand_45 : decode cX5_stand 45 = .ok (.getfield 104, 3) := by decide +kernel
theorem dX5_stand_48 : decode cX5_stand 48 = .ok (.invokevirtual 101, 3) := by decide +kernel
theorem dX5_stand_51 : decode cX5_stand 51 = .ok (.istore_n 2, 1) := by decide +kernel
theorem dX5_stand_52 : decode cX5_stand 52 = .ok (.aload_n 0, 1) := by decide +kernel
theorem dX5_stand_53 : decode cX5_stand 53 = .ok (.getfield 19, 3) := by decide +kernel
theorem dX5_stand_56 : decode cX5_stand 56 = .ok (.getfield 63, 3) := by decide +kernel
theorem dX5_stand_59 : decode cX5_stand 59 = .ok (.aload_n 0, 1) := by decide +kernel
theorem dX5_stand_60 : decode cX5_stand 60 = .ok (.getfield 19, 3) := by decide +kernel
theorem dX5_stand_63 : decode cX5_stand 63 = .ok (.getfield 63, 3) := by decide +kernel
theorem dX5_stand_66 : decode cX5_stand 66 = .ok (.iload_n 2, 1) := by decide +kernel
theorem dX5_stand_67 : decode cX5_stand 67 = .ok (.invokevirtual 107, 3) := by decide +kernel
theorem dX5_stand_70 : decode cX5_stand 70 = .ok (.invokevirtual 110, 3) := by decide +kernel
theorem dX5_stand_73 : decode cX5_stand 73 = .ok (.istore_n 3, 1) := by decide +kernel
theorem dX5_stand_74 : decode cX5_stand 74 = .ok (.aload_n 0, 1) := by decide +kernel
theorem dX5_stand_75 : decode cX5_stand 75 = .ok (.getfield 19, 3) := by decide +kernel
theorem dX5_stand_78 : decode cX5_stand 78 = .ok (.getfield 63, 3) := by decide +kernel
theorem dX5_stand_81 : decode cX5_stand 81 = .ok (.dup, 1) := by decide +kernel
theorem dX5_stand_82 : decode cX5_stand 82 = .ok (.getfield 81, 3) := by decide +kernel
theorem dX5_stand_85 : decode cX5_stand 85 = .ok (.iload_n 2, 1) := by decide +kernel
theorem dX5_stand_86 : decode cX5_stand 86 = .ok (.ior, 1) := by decide +kernel
theorem dX5_stand_87 : decode cX5_stand 87 = .ok (.putfield 81, 3) := by decide +kernel
theorem dX5_stand_90 : decode cX5_stand 90 = .ok (.aload_n 0, 1) := by decide +kernel
theorem dX5_stand_91 : decode cX5_stand 91 = .ok (.getfield 19, 3) := by decide +kernel
theorem dX5_stand_94 : decode cX5_stand 94 = .ok (.dup, 1) := by decide +kernel
theorem dX5_stand_95 : decode cX5_stand 95 = .ok (.getfield 104, 3) := by decide +kernel
theorem dX5_stand_98 : decode cX5_stand 98 = .ok (.iconst 1, 1) := by decide +kernel
theorem dX5_stand_99 : decode cX5_stand 99 = .ok (.iadd, 1) := by decide +kernel
theorem dX5_stand_100 : decode cX5_stand 100 = .ok (.putfield 104, 3) := by decide +kernel
theorem dX5_stand_103 : decode cX5_stand 103 = .ok (.iload_n 3, 1) := by decide +kernel
theorem dX5_stand_104 : decode cX5_stand 104 = .ok (.ireturn, 1) := by decide +kernel
set_option maxRecDepth 20000 in
theorem ggX5_rest_X5_refuse : GoodIn wsX5_rest wsX5_refuse := goodIn_r _ [6, 7, 8, 9, 10, 11, 12, 13, 14, 15, 16] (by decide +kernel) (by decide +kernel)
set_option maxRecDepth 20000 in
theorem gX5_rest_X5_refuse : GoodIn wsX5_rest (wsV RX5 47 RX5 yX5_refuse wsX5_refuse) := goodIn_app (goodIn_of _ (by decide +kernel)) ggX5_rest_X5_refuse
theorem dX5_rest_0 : decode cX5_rest 0 = .ok (.iload_n 1, 1) := by decide +kernel
theorem dX5_rest_1 : decode cX5_rest 1 = .ok (.iconst 1, 1) := by decide +kernel
theorem dX5_rest_2 : decode cX5_rest 2 = .ok (.if_icmp .ge 10, 3) := by decide +kernel
theorem dX5_rest_5 : decode cX5_rest 5 = .ok (.aload_n 0, 1) := by decide +kernel
theorem dX5_rest_6 : decode cX5_rest 6 = .ok (.bipush (-4), 2) := by decide +kernel
theorem dX5_rest_8 : decode cX5_rest 8 = .ok (.invokevirtual 47, 3) := by decide +kernel
theorem dX5_rest_11 : decode cX5_rest 11 = .ok (.ireturn, 1) := by decide +kernel
theorem dX5_rest_12 : decode cX5_rest 12 = .ok (.iload_n 1, 1) := by decide +kernel
theorem dX5_rest_13 : decode cX5_rest 13 = .ok (.bipush 60, 2) := by decide +kernel
theorem dX5_rest_15 : decode cX5_rest 15 = .ok (.if_icmp .gt 18, 3) := by decide +kernel
theorem dX5_rest_18 : decode cX5_rest 18 = .ok (.aload_n 0, 1) := by decide +kernel
theorem dX5_rest_19 : decode cX5_rest 19 = .ok (.getfield 19, 3) := by decide +kernel
theorem dX5_rest_22 : decode cX5_rest 22 = .ok (.getfield 104, 3) := by decide +kernel
theorem dX5_rest_25 : decode cX5_rest 25 = .ok (.iload_n 1, 1) := by decide +kernel
theorem dX5_rest_26 : decode cX5_rest 26 = .ok (.iadd, 1) := by decide +kernel
theorem dX5_rest_27 : decode cX5_rest 27 = .ok (.sipush 999, 3) := by decide +kernel
theorem dX5_rest_30 : decode cX5_rest 30 = .ok (.if_icmp .le 10, 3) := by decide +kernel
theorem dX5_rest_33 : decode cX5_rest 33 = .ok (.aload_n 0, 1) := by decide +kernel
theorem dX5_rest_34 : decode cX5_rest 34 = .ok (.bipush (-6), 2) := by decide +kernel
theorem dX5_rest_36 : decode cX5_rest 36 = .ok (.invokevirtual 47, 3) := by decide +kernel
theorem dX5_rest_39 : decode cX5_rest 39 = .ok (.ireturn, 1) := by decide +kernel
theorem dX5_rest_40 : decode cX5_rest 40 = .ok (.aload_n 0, 1) := by decide +kernel
theorem dX5_rest_41 : decode cX5_rest 41 = .ok (.getfield 19, 3) := by decide +kernel
theorem dX5_rest_44 : decode cX5_rest 44 = .ok (.dup, 1) := by decide +kernel
theorem dX5_rest_45 : decode cX5_rest 45 = .ok (.getfield 104, 3) := by decide +kernel
theorem dX5_rest_48 : decode cX5_rest 48 = .ok (.iload_n 1, 1) := by decide +kernel
theorem dX5_rest_49 : decode cX5_rest 49 = .ok (.iadd, 1) := by decide +kernel
theorem dX5_rest_50 : decode cX5_rest 50 = .ok (.putfield 104, 3) := by decide +kernel
theorem dX5_rest_53 : decode cX5_rest 53 = .ok (.aload_n 0, 1) := by decide +kernel
theorem dX5_rest_54 : decode cX5_rest 54 = .ok (.getfield 19, 3) := by decide +kernel
theorem dX5_rest_57 : decode cX5_rest 57 = .ok (.getfield 104, 3) := by decide +kernel
theorem dX5_rest_60 : decode cX5_rest 60 = .ok (.ireturn, 1) := by decide +kernel
set_option maxRecDepth 20000 in
theorem ggX5_underline_X1_knows : GoodIn wsX5_underline wsX1_knows := goodIn_r _ [5, 6, 25, 26, 27, 28, 29, 30, 31, 32, 33] (by decide +kernel) (by decide +kernel)
set_option maxRecDepth 20000 in
theorem gX5_underline_X1_knows_n66 : GoodIn wsX5_underline (wsX1_knows) := ggX5_underline_X1_knows
set_option maxRecDepth 20000 in
theorem ggX5_underline_X5_refuse : GoodIn wsX5_underline wsX5_refuse := goodIn_r _ [11, 12, 13, 14, 15, 16, 17, 18, 19, 20, 21] (by decide +kernel) (by decide +kernel)
set_option maxRecDepth 20000 in
theorem gX5_underline_X5_refuse : GoodIn wsX5_underline (wsV RX5 47 RX5 yX5_refuse wsX5_refuse) := goodIn_app (goodIn_of _ (by decide +kernel)) ggX5_underline_X5_refuse
theorem dX5_underline_0 : decode cX5_underline 0 = .ok (.aload_n 0, 1) := by decide +kernel
theorem dX5_underline_1 : decode cX5_underline 1 = .ok (.getfield 19, 3) := by decide +kernel
theorem dX5_underline_4 : decode cX5_underline 4 = .ok (.getfield 63, 3) := by decide +kernel
theorem dX5_underline_7 : decode cX5_underline 7 = .ok (.astore_n 3, 1) := by decide +kernel
theorem dX5_underline_8 : decode cX5_underline 8 = .ok (.aload_n 3, 1) := by decide +kernel
theorem dX5_underline_9 : decode cX5_underline 9 = .ok (.iload_n 1, 1) := by decide +kernel
theorem dX5_underline_10 : decode cX5_underline 10 = .ok (.invokevirtual 66, 3) := by decide +kernel
theorem dX5_underline_13 : decode cX5_underline 13 = .ok (.ifCond .ne 9, 3) := by decide +kernel
theorem dX5_underline_16 : decode cX5_underline 16 = .ok (.aload_n 0, 1) := by decide +kernel
theorem dX5_underline_17 : decode cX5_underline 17 = .ok (.iconst (-1), 1) := by decide +kernel
theorem dX5_underline_18 : decode cX5_underline 18 = .ok (.invokevirtual 47, 3) := by decide +kernel
theorem dX5_underline_21 : decode cX5_underline 21 = .ok (.ireturn, 1) := by decide +kernel
theorem dX5_underline_22 : decode cX5_underline 22 = .ok (.iload_n 2, 1) := by decide +kernel
theorem dX5_underline_23 : decode cX5_underline 23 = .ok (.ifCond .lt 8, 3) := by decide +kernel
theorem dX5_underline_26 : decode cX5_underline 26 = .ok (.iload_n 2, 1) := by decide +kernel
theorem dX5_underline_27 : decode cX5_underline 27 = .ok (.iconst 1, 1) := by decide +kernel
theorem dX5_underline_28 : decode cX5_underline 28 = .ok (.if_icmp .le 10, 3) := by decide +kernel
theorem dX5_underline_31 : decode cX5_underline 31 = .ok (.aload_n 0, 1) := by decide +kernel
theorem dX5_underline_32 : decode cX5_underline 32 = .ok (.bipush (-2), 2) := by decide +kernel
theorem dX5_underline_34 : decode cX5_underline 34 = .ok (.invokevirtual 47, 3) := by decide +kernel
theorem dX5_underline_37 : decode cX5_underline 37 = .ok (.ireturn, 1) := by decide +kernel
theorem dX5_underline_38 : decode cX5_underline 38 = .ok (.aload_n 3, 1) := by decide +kernel
theorem dX5_underline_39 : decode cX5_underline 39 = .ok (.getfield 81, 3) := by decide +kernel
theorem dX5_underline_42 : decode cX5_underline 42 = .ok (.iload_n 1, 1) := by decide +kernel
theorem dX5_underline_43 : decode cX5_underline 43 = .ok (.ishr, 1) := by decide +kernel
theorem dX5_underline_44 : decode cX5_underline 44 = .ok (.iconst 1, 1) := by decide +kernel
theorem dX5_underline_45 : decode cX5_underline 45 = .ok (.iand, 1) := by decide +kernel
theorem dX5_underline_46 : decode cX5_underline 46 = .ok (.istore 4, 2) := by decide +kernel
theorem dX5_underline_48 : decode cX5_underline 48 = .ok (.aload_n 3, 1) := by decide +kernel
theorem dX5_underline_49 : decode cX5_underline 49 = .ok (.aload_n 3, 1) := by decide +kernel
theorem dX5_underline_50 : decode cX5_underline 50 = .ok (.getfield 81, 3) := by decide +kernel
theorem dX5_underline_53 : decode cX5_underline 53 = .ok (.iconst 1, 1) := by decide +kernel
theorem dX5_underline_54 : decode cX5_underline 54 = .ok (.iload_n 1, 1) := by decide +kernel
theorem dX5_underline_55 : decode cX5_underline 55 = .ok (.ishl, 1) := by decide +kernel
theorem dX5_underline_56 : decode cX5_underline 56 = .ok (.iconst (-1), 1) := by decide +kernel
theorem dX5_underline_57 : decode cX5_underline 57 = .ok (.ixor, 1) := by decide +kernel
theorem dX5_underline_58 : decode cX5_underline 58 = .ok (.iand, 1) := by decide +kernel
theorem dX5_underline_59 : decode cX5_underline 59 = .ok (.iload_n 2, 1) := by decide +kernel
theorem dX5_underline_60 : decode cX5_underline 60 = .ok (.iload_n 1, 1) := by decide +kernel
theorem dX5_underline_61 : decode cX5_underline 61 = .ok (.ishl, 1) := by decide +kernel
theorem dX5_underline_62 : decode cX5_underline 62 = .ok (.ior, 1) := by decide +kernel
theorem dX5_underline_63 : decode cX5_underline 63 = .ok (.putfield 81, 3) := by decide +kernel
theorem dX5_underline_66 : decode cX5_underline 66 = .ok (.iload 4, 2) := by decide +kernel
theorem dX5_underline_68 : decode cX5_underline 68 = .ok (.ireturn, 1) := by decide +kernel
set_option maxRecDepth 20000 in
theorem ggX5_fresh_X5_isPlace : GoodIn wsX5_fresh wsX5_isPlace := goodIn_r _ [5] (by decide +kernel) (by decide +kernel)
set_option maxRecDepth 20000 in
theorem gX5_fresh_X5_isPlace : GoodIn wsX5_fresh (va_wsS RX5 98 yX5_isPlace wsX5_isPlace) := goodIn_app (goodIn_of _ (by decide +kernel)) ggX5_fresh_X5_isPlace
set_option maxRecDepth 20000 in
theorem ggX5_fresh_X5_refuse : GoodIn wsX5_fresh wsX5_refuse := goodIn_r _ [9, 10, 73, 74, 75, 76, 77, 78, 79, 80, 81] (by decide +kernel) (by decide +kernel)
set_option maxRecDepth 20000 in
theorem gX5_fresh_X5_refuse : GoodIn wsX5_fresh (wsV RX5 47 RX5 yX5_refuse wsX5_refuse) := goodIn_app (goodIn_of _ (by decide +kernel)) ggX5_fresh_X5_refuse
set_option maxRecDepth 20000 in
theorem ggX5_fresh_X4_freshWorth : GoodIn wsX5_fresh wsX4_freshWorth := goodIn_r _ [14, 15, 16, 17, 18, 19, 12, 20, 21, 22, 23, 24, 25, 26, 27, 28, 29, 30, 31, 32, 33, 34, 35, 36, 37, 38, 39, 40, 41, 42, 43, 44, 45, 46, 47, 48, 49, 50, 51, 52, 53, 54, 55, 56, 57, 58, 59, 60, 61, 62, 63, 64, 65, 66, 67, 68, 69, 70, 71, 72, 82, 83, 84, 85, 86, 87, 88, 89, 90, 91, 92, 93] (by decide +kernel) (by decide +kernel)
set_option maxRecDepth 20000 in
theorem gX5_fresh_X4_freshWorth_n113 : GoodIn wsX5_fresh (wsX4_freshWorth) := ggX5_fresh_X4_freshWorth
theorem dX5_fresh_0 : decode cX5_fresh 0 = .ok (.iload_n 1, 1) := by decide +kernel
theorem dX5_fresh_1 : decode cX5_fresh 1 = .ok (.invokestatic 98, 3) := by decide +kernel
theorem dX5_fresh_4 : decode cX5_fresh 4 = .ok (.ifCond .ne 9, 3) := by decide +kernel
theorem dX5_fresh_7 : decode cX5_fresh 7 = .ok (.aload_n 0, 1) := by decide +kernel
theorem dX5_fresh_8 : decode cX5_fresh 8 = .ok (.iconst (-1), 1) := by decide +kernel
theorem dX5_fresh_9 : decode cX5_fresh 9 = .ok (.invokevirtual 47, 3) := by decide +kernel
theorem dX5_fresh_12 : decode cX5_fresh 12 = .ok (.ireturn, 1) := by decide +kernel
theorem dX5_fresh_13 : decode cX5_fresh 13 = .ok (.iload_n 2, 1) := by decide +kernel
theorem dX5_fresh_14 : decode cX5_fresh 14 = .ok (.iconst 1, 1) := by decide +kernel
theorem dX5_fresh_15 : decode cX5_fresh 15 = .ok (.if_icmp .ge 10, 3) := by decide +kernel
theorem dX5_fresh_18 : decode cX5_fresh 18 = .ok (.aload_n 0, 1) := by decide +kernel
theorem dX5_fresh_19 : decode cX5_fresh 19 = .ok (.bipush (-4), 2) := by decide +kernel
theorem dX5_fresh_21 : decode cX5_fresh 21 = .ok (.invokevirtual 47, 3) := by decide +kernel
theorem dX5_fresh_24 : decode cX5_fresh 24 = .ok (.ireturn, 1) := by decide +kernel
theorem dX5_fresh_25 : decode cX5_fresh 25 = .ok (.iload_n 2, 1) := by decide +kernel
theorem dX5_fresh_26 : decode cX5_fresh 26 = .ok (.bipush 14, 2) := by decide +kernel
theorem dX5_fresh_28 : decode cX5_fresh 28 = .ok (.if_icmp .le 10, 3) := by decide +kernel
theorem dX5_fresh_31 : decode cX5_fresh 31 = .ok (.aload_n 0, 1) := by decide +kernel
theorem dX5_fresh_32 : decode cX5_fresh 32 = .ok (.bipush (-6), 2) := by decide +kernel
theorem dX5_fresh_34 : decode cX5_fresh 34 = .ok (.invokevirtual 47, 3) := by decide +kernel
theorem dX5_fresh_37 : decode cX5_fresh 37 = .ok (.ireturn, 1) := by decide +kernel
theorem dX5_fresh_38 : decode cX5_fresh 38 = .ok (.aload_n 0, 1) := by decide +kernel
theorem dX5_fresh_39 : decode cX5_fresh 39 = .ok (.getfield 19, 3) := by decide +kernel
theorem dX5_fresh_42 : decode cX5_fresh 42 = .ok (.iload_n 1, 1) := by decide +kernel
theorem dX5_fresh_43 : decode cX5_fresh 43 = .ok (.iload_n 2, 1) := by decide +kernel
theorem dX5_fresh_44 : decode cX5_fresh 44 = .ok (.invokevirtual 113, 3) := by decide +kernel
theorem dX5_fresh_47 : decode cX5_fresh 47 = .ok (.ireturn, 1) := by decide +kernel
set_option maxRecDepth 20000 in
theorem ggX5_where_X5_refuse : GoodIn wsX5_where wsX5_refuse := goodIn_r _ [6, 7, 70, 71, 72, 73, 74, 75, 76, 77, 78] (by decide +kernel) (by decide +kernel)
set_option maxRecDepth 20000 in
theorem gX5_where_X5_refuse : GoodIn wsX5_where (wsV RX5 47 RX5 yX5_refuse wsX5_refuse) := goodIn_app (goodIn_of _ (by decide +kernel)) ggX5_where_X5_refuse
set_option maxRecDepth 20000 in
theorem ggX5_where_X4_freshWorth : GoodIn wsX5_where wsX4_freshWorth := goodIn_r _ [11, 12, 13, 14, 15, 16, 9, 17, 18, 19, 20, 21, 22, 23, 24, 25, 26, 27, 28, 29, 30, 31, 32, 33, 34, 35, 36, 37, 38, 39, 40, 41, 42, 43, 44, 45, 46, 47, 48, 49, 50, 51, 52, 53, 54, 55, 56, 57, 58, 59, 60, 61, 62, 63, 64, 65, 66, 67, 68, 69, 79, 80, 81, 82, 83, 84, 85, 86, 87, 88, 89, 90] (by decide +kernel) (by decide +kernel)
set_option maxRecDepth 20000 in
theorem gX5_where_X4_freshWorth_n113 : GoodIn wsX5_where (wsX4_freshWorth) := ggX5_where_X4_freshWorth
theorem dX5_where_0 : decode cX5_where 0 = .ok (.iload_n 1, 1) := by decide +kernel
theorem dX5_where_1 : decode cX5_where 1 = .ok (.iconst 1, 1) := by decide +kernel
theorem dX5_where_2 : decode cX5_where 2 = .ok (.if_icmp .ge 10, 3) := by decide +kernel
theorem dX5_where_5 : decode cX5_where 5 = .ok (.aload_n 0, 1) := by decide +kernel
theorem dX5_where_6 : decode cX5_where 6 = .ok (.bipush (-4), 2) := by decide +kernel
theorem dX5_where_8 : decode cX5_where 8 = .ok (.invokevirtual 47, 3) := by decide +kernel
theorem dX5_where_11 : decode cX5_where 11 = .ok (.ireturn, 1) := by decide +kernel
theorem dX5_where_12 : decode cX5_where 12 = .ok (.iload_n 1, 1) := by decide +kernel
theorem dX5_where_13 : decode cX5_where 13 = .ok (.bipush 14, 2) := by decide +kernel
theorem dX5_where_15 : decode cX5_where 15 = .ok (.if_icmp .le 10, 3) := by decide +kernel
theorem dX5_where_18 : decode cX5_where 18 = .ok (.aload_n 0, 1) := by decide +kernel
theorem dX5_where_19 : decode cX5_where 19 = .ok (.bipush (-6), 2) := by decide +kernel
theorem dX5_where_21 : decode cX5_where 21 = .ok (.invokevirtual 47, 3) := by decide +kernel
theorem dX5_where_24 : decode cX5_where 24 = .ok (.ireturn, 1) := by decide +kernel
theorem dX5_where_25 : decode cX5_where 25 = .ok (.iconst 0, 1) := by decide +kernel
theorem dX5_where_26 : decode cX5_where 26 = .ok (.istore_n 2, 1) := by decide +kernel
theorem dX5_where_27 : decode cX5_where 27 = .ok (.iconst (-1), 1) := by decide +kernel
theorem dX5_where_28 : decode cX5_where 28 = .ok (.istore_n 3, 1) := by decide +kernel
theorem dX5_where_29 : decode cX5_where 29 = .ok (.iconst 0, 1) := by decide +kernel
theorem dX5_where_30 : decode cX5_where 30 = .ok (.istore 4, 2) := by decide +kernel
theorem dX5_where_32 : decode cX5_where 32 = .ok (.iload 4, 2) := by decide +kernel
theorem dX5_where_34 : decode cX5_where 34 = .ok (.iconst 5, 1) := by decide +kernel
theorem dX5_where_35 : decode cX5_where 35 = .ok (.if_icmp .ge 33, 3) := by decide +kernel
theorem dX5_where_38 : decode cX5_where 38 = .ok (.aload_n 0, 1) := by decide +kernel
theorem dX5_where_39 : decode cX5_where 39 = .ok (.getfield 19, 3) := by decide +kernel
theorem dX5_where_42 : decode cX5_where 42 = .ok (.iload 4, 2) := by decide +kernel
theorem dX5_where_44 : decode cX5_where 44 = .ok (.iload_n 1, 1) := by decide +kernel
theorem dX5_where_45 : decode cX5_where 45 = .ok (.invokevirtual 113, 3) := by decide +kernel
theorem dX5_where_48 : decode cX5_where 48 = .ok (.istore 5, 2) := by decide +kernel
theorem dX5_where_50 : decode cX5_where 50 = .ok (.iload 5, 2) := by decide +kernel
theorem dX5_where_52 : decode cX5_where 52 = .ok (.iload_n 3, 1) := by decide +kernel
theorem dX5_where_53 : decode cX5_where 53 = .ok (.if_icmp .le 9, 3) := by decide +kernel
theorem dX5_where_56 : decode cX5_where 56 = .ok (.iload 5, 2) := by decide +kernel
theorem dX5_where_58 : decode cX5_where 58 = .ok (.istore_n 3, 1) := by decide +kernel
theorem dX5_where_59 : decode cX5_where 59 = .ok (.iload 4, 2) := by decide +kernel
theorem dX5_where_61 : decode cX5_where 61 = .ok (.istore_n 2, 1) := by decide +kernel
theorem dX5_where_62 : decode cX5_where 62 = .ok (.iinc 4 1, 3) := by decide +kernel
theorem dX5_where_65 : decode cX5_where 65 = .ok (.goto (-33), 3) := by decide +kernel
theorem dX5_where_68 : decode cX5_where 68 = .ok (.iload_n 2, 1) := by decide +kernel
theorem dX5_where_69 : decode cX5_where 69 = .ok (.ireturn, 1) := by decide +kernel
set_option maxRecDepth 20000 in
theorem ggX5_plan_X5_refuse : GoodIn wsX5_plan wsX5_refuse := goodIn_r _ [7, 8, 89, 90, 91, 92, 93, 94, 95, 96, 97] (by decide +kernel) (by decide +kernel)
set_option maxRecDepth 20000 in
theorem gX5_plan_X5_refuse : GoodIn wsX5_plan (wsV RX5 47 RX5 yX5_refuse wsX5_refuse) := goodIn_app (goodIn_of _ (by decide +kernel)) ggX5_plan_X5_refuse
set_option maxRecDepth 20000 in
theorem ggX5_plan_X3_search : GoodIn wsX5_plan wsX3_search := goodIn_r _ [12, 13, 14, 15, 16, 17, 18, 19, 20, 21, 22, 23, 24, 25, 26, 27, 28, 29, 30, 31, 32, 33, 34, 35, 36, 37, 38, 39, 40, 41, 42, 43, 44, 45, 46, 47, 48, 49, 50, 51, 52, 53, 54, 55, 56, 57, 58, 59, 60, 61, 62, 63, 64, 65, 66, 67, 68, 69, 70, 71, 72, 73, 74, 10, 75, 76, 77, 78, 79, 80, 81, 82, 83, 84, 85, 86, 87, 88, 98, 99, 100, 101, 102, 103, 104, 105, 106, 107, 108, 109, 110, 111, 112, 113, 114] (by decide +kernel) (by decide +kernel)
set_option maxRecDepth 20000 in
theorem gX5_plan_X3_search_n116 : GoodIn wsX5_plan (wsX3_search) := ggX5_plan_X3_search
theorem dX5_plan_0 : decode cX5_plan 0 = .ok (.iload_n 1, 1) := by decide +kernel
theorem dX5_plan_1 : decode cX5_plan 1 = .ok (.iconst 1, 1) := by decide +kernel
theorem dX5_plan_2 : decode cX5_plan 2 = .ok (.if_icmp .lt 12, 3) := by decide +kernel
theorem dX5_plan_5 : decode cX5_plan 5 = .ok (.iload_n 2, 1) := by decide +kernel
theorem dX5_plan_6 : decode cX5_plan 6 = .ok (.ifCond .lt 8, 3) := by decide +kernel
theorem dX5_plan_9 : decode cX5_plan 9 = .ok (.iload_n 3, 1) := by decide +kernel
theorem dX5_plan_10 : decode cX5_plan 10 = .ok (.iconst (-1), 1) := by decide +kernel
theorem dX5_plan_11 : decode cX5_plan 11 = .ok (.if_icmp .ge 10, 3) := by decide +kernel
theorem dX5_plan_14 : decode cX5_plan 14 = .ok (.aload_n 0, 1) := by decide +kernel
theorem dX5_plan_15 : decode cX5_plan 15 = .ok (.bipush (-4), 2) := by decide +kernel
theorem dX5_plan_17 : decode cX5_plan 17 = .ok (.invokevirtual 47, 3) := by decide +kernel
theorem dX5_plan_20 : decode cX5_plan 20 = .ok (.ireturn, 1) := by decide +kernel
theorem dX5_plan_21 : decode cX5_plan 21 = .ok (.iload_n 1, 1) := by decide +kernel
theorem dX5_plan_22 : decode cX5_plan 22 = .ok (.iconst 5, 1) := by decide +kernel
theorem dX5_plan_23 : decode cX5_plan 23 = .ok (.if_icmp .gt 9, 3) := by decide +kernel
theorem dX5_plan_26 : decode cX5_plan 26 = .ok (.iload_n 2, 1) := by decide +kernel
theorem dX5_plan_27 : decode cX5_plan 27 = .ok (.bipush 20, 2) := by decide +kernel
theorem dX5_plan_29 : decode cX5_plan 29 = .ok (.if_icmp .le 10, 3) := by decide +kernel
theorem dX5_plan_32 : decode cX5_plan 32 = .ok (.aload_n 0, 1) := by decide +kernel
theorem dX5_plan_33 : decode cX5_plan 33 = .ok (.bipush (-6), 2) := by decide +kernel
theorem dX5_plan_35 : decode cX5_plan 35 = .ok (.invokevirtual 47, 3) := by decide +kernel
theorem dX5_plan_38 : decode cX5_plan 38 = .ok (.ireturn, 1) := by decide +kernel
theorem dX5_plan_39 : decode cX5_plan 39 = .ok (.iload_n 3, 1) := by decide +kernel
theorem dX5_plan_40 : decode cX5_plan 40 = .ok (.iload_n 1, 1) := by decide +kernel
theorem dX5_plan_41 : decode cX5_plan 41 = .ok (.if_icmp .lt 6, 3) := by decide +kernel
theorem dX5_plan_44 : decode cX5_plan 44 = .ok (.bipush (-9), 2) := by decide +kernel
theorem dX5_plan_46 : decode cX5_plan 46 = .ok (.ireturn, 1) := by decide +kernel
theorem dX5_plan_47 : decode cX5_plan 47 = .ok (.aload_n 0, 1) := by decide +kernel
theorem dX5_plan_48 : decode cX5_plan 48 = .ok (.getfield 36, 3) := by decide +kernel
theorem dX5_plan_51 : decode cX5_plan 51 = .ok (.aload_n 0, 1) := by decide +kernel
theorem dX5_plan_52 : decode cX5_plan 52 = .ok (.getfield 19, 3) := by decide +kernel
theorem dX5_plan_55 : decode cX5_plan 55 = .ok (.iload_n 1, 1) := by decide +kernel
theorem dX5_plan_56 : decode cX5_plan 56 = .ok (.iload_n 2, 1) := by decide +kernel
theorem dX5_plan_57 : decode cX5_plan 57 = .ok (.invokevirtual 116, 3) := by decide +kernel
theorem dX5_plan_60 : decode cX5_plan 60 = .ok (.iload_n 3, 1) := by decide +kernel
theorem dX5_plan_61 : decode cX5_plan 61 = .ok (.ifCond .ge 13, 3) := by decide +kernel
theorem dX5_plan_64 : decode cX5_plan 64 = .ok (.aload_n 0, 1) := by decide +kernel
theorem dX5_plan_65 : decode cX5_plan 65 = .ok (.getfield 36, 3) := by decide +kernel
theorem dX5_plan_68 : decode cX5_plan 68 = .ok (.getfield 120, 3) := by decide +kernel
theorem dX5_plan_71 : decode cX5_plan 71 = .ok (.goto 12, 3) := by decide +kernel
theorem dX5_plan_74 : decode cX5_plan 74 = .ok (.aload_n 0, 1) := by decide +kernel
theorem dX5_plan_75 : decode cX5_plan 75 = .ok (.getfield 36, 3) := by decide +kernel
theorem dX5_plan_78 : decode cX5_plan 78 = .ok (.getfield 123, 3) := by decide +kernel
theorem dX5_plan_81 : decode cX5_plan 81 = .ok (.iload_n 3, 1) := by decide +kernel
theorem dX5_plan_82 : decode cX5_plan 82 = .ok (.iaload, 1) := by decide +kernel
theorem dX5_plan_83 : decode cX5_plan 83 = .ok (.ireturn, 1) := by decide +kernel
set_option maxRecDepth 20000 in
theorem ggX5_await_X1_knows : GoodIn wsX5_await wsX1_knows := goodIn_r _ [5, 6, 45, 46, 47, 48, 49, 50, 51, 52, 53] (by decide +kernel) (by decide +kernel)
set_option maxRecDepth 20000 in
theorem gX5_await_X1_knows_n66 : GoodIn wsX5_await (wsX1_knows) := ggX5_await_X1_knows
set_option maxRecDepth 20000 in
theorem ggX5_await_X5_isPlace : GoodIn wsX5_await wsX5_isPlace := goodIn_r _ [10] (by decide +kernel) (by decide +kernel)
set_option maxRecDepth 20000 in
theorem gX5_await_X5_isPlace : GoodIn wsX5_await (va_wsS RX5 98 yX5_isPlace wsX5_isPlace) := goodIn_app (goodIn_of _ (by decide +kernel)) ggX5_await_X5_isPlace
set_option maxRecDepth 20000 in
theorem ggX5_await_X5_refuse : GoodIn wsX5_await wsX5_refuse := goodIn_r _ [14, 15, 33, 34, 35, 36, 37, 38, 39, 40, 41] (by decide +kernel) (by decide +kernel)
set_option maxRecDepth 20000 in
theorem gX5_await_X5_refuse : GoodIn wsX5_await (wsV RX5 47 RX5 yX5_refuse wsX5_refuse) := goodIn_app (goodIn_of _ (by decide +kernel)) ggX5_await_X5_refuse
set_option maxRecDepth 20000 in
theorem ggX5_await_X4_daysUntil : GoodIn wsX5_await wsX4_daysUntil := goodIn_r _ [19, 20, 21, 22, 3, 23, 24, 25, 26, 27, 2, 4, 5, 6, 28, 29, 30, 31, 32, 42, 43, 44, 45, 46, 47, 48, 49, 50, 51, 52, 53] (by decide +kernel) (by decide +kernel)
set_option maxRecDepth 20000 in
theorem gX5_await_X4_daysUntil_n126 : GoodIn wsX5_await (wsX4_daysUntil) := ggX5_await_X4_daysUntil
theorem dX5_await_0 : decode cX5_await 0 = .ok (.aload_n 0, 1) := by decide +kernel
theorem dX5_await_1 : decode cX5_await 1 = .ok (.getfield 19, 3) := by decide +kernel
theorem dX5_await_4 : decode cX5_await 4 = .ok (.getfield 63, 3) := by decide +kernel
theorem dX5_await_7 : decode cX5_await 7 = .ok (.iload_n 1, 1) := by decide +kernel
theorem dX5_await_8 : decode cX5_await 8 = .ok (.invokevirtual 66, 3) := by decide +kernel
theorem dX5_await_11 : decode cX5_await 11 = .ok (.ifCond .eq 10, 3) := by decide +kernel
theorem dX5_await_14 : decode cX5_await 14 = .ok (.iload_n 2, 1) := by decide +kernel
theorem dX5_await_15 : decode cX5_await 15 = .ok (.invokestatic 98, 3) := by decide +kernel
theorem dX5_await_18 : decode cX5_await 18 = .ok (.ifCond .ne 9, 3) := by decide +kernel
theorem dX5_await_21 : decode cX5_await 21 = .ok (.aload_n 0, 1) := by decide +kernel
theorem dX5_await_22 : decode cX5_await 22 = .ok (.iconst (-1), 1) := by decide +kernel
theorem dX5_await_23 : decode cX5_await 23 = .ok (.invokevirtual 47, 3) := by decide +kernel
theorem dX5_await_26 : decode cX5_await 26 = .ok (.ireturn, 1) := by decide +kernel
theorem dX5_await_27 : decode cX5_await 27 = .ok (.aload_n 0, 1) := by decide +kernel
theorem dX5_await_28 : decode cX5_await 28 = .ok (.getfield 19, 3) := by decide +kernel
theorem dX5_await_31 : decode cX5_await 31 = .ok (.iload_n 1, 1) := by decide +kernel
theorem dX5_await_32 : decode cX5_await 32 = .ok (.iload_n 2, 1) := by decide +kernel
theorem dX5_await_33 : decode cX5_await 33 = .ok (.invokevirtual 126, 3) := by decide +kernel
theorem dX5_await_36 : decode cX5_await 36 = .ok (.ireturn, 1) := by decide +kernel
set_option maxRecDepth 20000 in
theorem ggX5_chase_X1_knows : GoodIn wsX5_chase wsX1_knows := goodIn_r _ [5, 6, 42, 43, 44, 45, 46, 47, 48, 49, 50] (by decide +kernel) (by decide +kernel)
set_option maxRecDepth 20000 in
theorem gX5_chase_X1_knows_n66 : GoodIn wsX5_chase (wsX1_knows) := ggX5_chase_X1_knows
set_option maxRecDepth 20000 in
theorem ggX5_chase_X5_refuse : GoodIn wsX5_chase wsX5_refuse := goodIn_r _ [11, 12, 30, 31, 32, 33, 34, 35, 36, 37, 38] (by decide +kernel) (by decide +kernel)
set_option maxRecDepth 20000 in
theorem gX5_chase_X5_refuse : GoodIn wsX5_chase (wsV RX5 47 RX5 yX5_refuse wsX5_refuse) := goodIn_app (goodIn_of _ (by decide +kernel)) ggX5_chase_X5_refuse
set_option maxRecDepth 20000 in
theorem ggX5_chase_X4_daysUntil : GoodIn wsX5_chase wsX4_daysUntil := goodIn_r _ [16, 17, 18, 19, 3, 20, 21, 22, 23, 24, 2, 4, 5, 6, 25, 26, 27, 28, 29, 39, 40, 41, 42, 43, 44, 45, 46, 47, 48, 49, 50] (by decide +kernel) (by decide +kernel)
set_option maxRecDepth 20000 in
theorem gX5_chase_X4_daysUntil_n126 : GoodIn wsX5_chase (wsX4_daysUntil) := ggX5_chase_X4_daysUntil
theorem dX5_chase_0 : decode cX5_chase 0 = .ok (.aload_n 0, 1) := by decide +kernel
theorem dX5_chase_1 : decode cX5_chase 1 = .ok (.getfield 19, 3) := by decide +kernel
theorem dX5_chase_4 : decode cX5_chase 4 = .ok (.getfield 63, 3) := by decide +kernel
theorem dX5_chase_7 : decode cX5_chase 7 = .ok (.iload_n 1, 1) := by decide +kernel
theorem dX5_chase_8 : decode cX5_chase 8 = .ok (.invokevirtual 66, 3) := by decide +kernel
theorem dX5_chase_11 : decode cX5_chase 11 = .ok (.ifCond .ne 9, 3) := by decide +kernel
theorem dX5_chase_14 : decode cX5_chase 14 = .ok (.aload_n 0, 1) := by decide +kernel
theorem dX5_chase_15 : decode cX5_chase 15 = .ok (.iconst (-1), 1) := by decide +kernel
theorem dX5_chase_16 : decode cX5_chase 16 = .ok (.invokevirtual 47, 3) := by decide +kernel
theorem dX5_chase_19 : decode cX5_chase 19 = .ok (.ireturn, 1) := by decide +kernel
theorem dX5_chase_20 : decode cX5_chase 20 = .ok (.aload_n 0, 1) := by decide +kernel
theorem dX5_chase_21 : decode cX5_chase 21 = .ok (.getfield 19, 3) := by decide +kernel
theorem dX5_chase_24 : decode cX5_chase 24 = .ok (.iload_n 1, 1) := by decide +kernel
theorem dX5_chase_25 : decode cX5_chase 25 = .ok (.iconst (-1), 1) := by decide +kernel
theorem dX5_chase_26 : decode cX5_chase 26 = .ok (.invokevirtual 126, 3) := by decide +kernel
theorem dX5_chase_29 : decode cX5_chase 29 = .ok (.ireturn, 1) := by decide +kernel
set_option maxRecDepth 20000 in
theorem ggX5_ever_X4_everWorth : GoodIn wsX5_ever wsX4_everWorth := goodIn_r _ [5, 6, 7, 8, 9, 3, 10, 11, 12, 13, 14, 15, 16, 17, 18, 19, 20, 21, 22, 23, 24, 25, 26, 27, 28, 29, 30, 31, 32, 33, 34, 35, 36, 37, 38, 39, 40, 41, 42, 43, 44, 45, 46, 47, 48, 49, 50, 51, 52, 53, 54, 55, 56, 57, 58, 59, 69, 70, 71, 72, 73, 74, 75, 76, 77, 78, 79, 80] (by decide +kernel) (by decide +kernel)
set_option maxRecDepth 20000 in
theorem gX5_ever_X4_everWorth_n129 : GoodIn wsX5_ever (wsX4_everWorth) := ggX5_ever_X4_everWorth
theorem dX5_ever_0 : decode cX5_ever 0 = .ok (.aload_n 0, 1) := by decide +kernel
theorem dX5_ever_1 : decode cX5_ever 1 = .ok (.getfield 19, 3) := by decide +kernel
theorem dX5_ever_4 : decode cX5_ever 4 = .ok (.invokevirtual 129, 3) := by decide +kernel
theorem dX5_ever_7 : decode cX5_ever 7 = .ok (.ireturn, 1) := by decide +kernel
set_option maxRecDepth 20000 in
theorem ggX5_all_X1_worthOfAllNew : GoodIn wsX5_all wsX1_worthOfAllNew := goodIn_r _ [6, 7, 8, 9, 4, 10, 11, 12, 13, 14, 15, 16, 17, 18, 19, 20, 21, 22, 23, 24, 25, 26, 27, 28, 29, 30, 31, 32, 33, 34, 35, 36, 37, 38, 39, 40, 41, 42, 43, 44, 45, 105, 106, 107, 108, 109, 110, 111, 112, 113] (by decide +kernel) (by decide +kernel)
set_option maxRecDepth 20000 in
theorem gX5_all_X1_worthOfAllNew_n132 : GoodIn wsX5_all (wsX1_worthOfAllNew) := ggX5_all_X1_worthOfAllNew
set_option maxRecDepth 20000 in
theorem ggX5_all_X3_search : GoodIn wsX5_all wsX3_search := goodIn_r _ [49, 50, 51, 52, 53, 54, 55, 56, 57, 58, 4, 59, 60, 11, 61, 62, 63, 64, 65, 66, 17, 18, 19, 20, 67, 68, 69, 70, 71, 13, 14, 15, 16, 8, 9, 10, 12, 21, 22, 23, 24, 25, 26, 27, 28, 29, 30, 31, 32, 33, 35, 36, 37, 38, 39, 40, 41, 42, 43, 44, 45, 72, 73, 47, 74, 75, 76, 77, 78, 79, 80, 81, 82, 83, 84, 85, 86, 87, 100, 101, 102, 103, 104, 97, 98, 99, 105, 106, 107, 108, 109, 110, 111, 112, 113] (by decide +kernel) (by decide +kernel)
set_option maxRecDepth 20000 in
theorem gX5_all_X3_search_n116 : GoodIn wsX5_all (wsX3_search) := ggX5_all_X3_search
theorem dX5_all_0 : decode cX5_all 0 = .ok (.aload_n 0, 1) := by decide +kernel
theorem dX5_all_1 : decode cX5_all 1 = .ok (.getfield 19, 3) := by decide +kernel
theorem dX5_all_4 : decode cX5_all 4 = .ok (.getfield 63, 3) := by decide +kernel
theorem dX5_all_7 : decode cX5_all 7 = .ok (.invokevirtual 132, 3) := by decide +kernel
theorem dX5_all_10 : decode cX5_all 10 = .ok (.istore_n 1, 1) := by decide +kernel
theorem dX5_all_11 : decode cX5_all 11 = .ok (.iload_n 1, 1) := by decide +kernel
theorem dX5_all_12 : decode cX5_all 12 = .ok (.ifCond .ne 5, 3) := by decide +kernel
theorem dX5_all_15 : decode cX5_all 15 = .ok (.iconst 0, 1) := by decide +kernel
theorem dX5_all_16 : decode cX5_all 16 = .ok (.ireturn, 1) := by decide +kernel
theorem dX5_all_17 : decode cX5_all 17 = .ok (.iconst 1, 1) := by decide +kernel
theorem dX5_all_18 : decode cX5_all 18 = .ok (.istore_n 2, 1) := by decide +kernel
theorem dX5_all_19 : decode cX5_all 19 = .ok (.iload_n 2, 1) := by decide +kernel
theorem dX5_all_20 : decode cX5_all 20 = .ok (.iconst 5, 1) := by decide +kernel
theorem dX5_all_21 : decode cX5_all 21 = .ok (.if_icmp .gt 36, 3) := by decide +kernel
theorem dX5_all_24 : decode cX5_all 24 = .ok (.aload_n 0, 1) := by decide +kernel
theorem dX5_all_25 : decode cX5_all 25 = .ok (.getfield 36, 3) := by decide +kernel
theorem dX5_all_28 : decode cX5_all 28 = .ok (.aload_n 0, 1) := by decide +kernel
theorem dX5_all_29 : decode cX5_all 29 = .ok (.getfield 19, 3) := by decide +kernel
theorem dX5_all_32 : decode cX5_all 32 = .ok (.iload_n 2, 1) := by decide +kernel
theorem dX5_all_33 : decode cX5_all 33 = .ok (.bipush 20, 2) := by decide +kernel
theorem dX5_all_35 : decode cX5_all 35 = .ok (.invokevirtual 116, 3) := by decide +kernel
theorem dX5_all_38 : decode cX5_all 38 = .ok (.aload_n 0, 1) := by decide +kernel
theorem dX5_all_39 : decode cX5_all 39 = .ok (.getfield 36, 3) := by decide +kernel
theorem dX5_all_42 : decode cX5_all 42 = .ok (.getfield 120, 3) := by decide +kernel
theorem dX5_all_45 : decode cX5_all 45 = .ok (.iload_n 1, 1) := by decide +kernel
theorem dX5_all_46 : decode cX5_all 46 = .ok (.if_icmp .ne 5, 3) := by decide +kernel
theorem dX5_all_49 : decode cX5_all 49 = .ok (.iload_n 2, 1) := by decide +kernel
theorem dX5_all_50 : decode cX5_all 50 = .ok (.ireturn, 1) := by decide +kernel
theorem dX5_all_51 : decode cX5_all 51 = .ok (.iinc 2 1, 3) := by decide +kernel
theorem dX5_all_54 : decode cX5_all 54 = .ok (.goto (-35), 3) := by decide +kernel
theorem dX5_all_57 : decode cX5_all 57 = .ok (.bipush (-9), 2) := by decide +kernel
theorem dX5_all_59 : decode cX5_all 59 = .ok (.ireturn, 1) := by decide +kernel
set_option maxRecDepth 20000 in
theorem ggX5_reading_X5_isPlace : GoodIn wsX5_reading wsX5_isPlace := goodIn_r _ [5] (by decide +kernel) (by decide +kernel)
set_option maxRecDepth 20000 in
theorem gX5_reading_X5_isPlace : GoodIn wsX5_reading (va_wsS RX5 98 yX5_isPlace wsX5_isPlace) := goodIn_app (goodIn_of _ (by decide +kernel)) ggX5_reading_X5_isPlace
set_option maxRecDepth 20000 in
theorem ggX5_reading_X5_refuse : GoodIn wsX5_reading wsX5_refuse := goodIn_r _ [9, 10, 20, 21, 22, 23, 24, 25, 26, 27, 28] (by decide +kernel) (by decide +kernel)
set_option maxRecDepth 20000 in
theorem gX5_reading_X5_refuse : GoodIn wsX5_reading (wsV RX5 47 RX5 yX5_refuse wsX5_refuse) := goodIn_app (goodIn_of _ (by decide +kernel)) ggX5_reading_X5_refuse
set_option maxRecDepth 20000 in
theorem ggX5_reading_X0_add : GoodIn wsX5_reading wsX0_add := goodIn_r _ [14, 15, 16, 17, 18, 19, 32, 33, 34, 35, 36] (by decide +kernel) (by decide +kernel)
set_option maxRecDepth 20000 in
theorem gX5_reading_X0_add_n139 : GoodIn wsX5_reading (wsX0_add) := ggX5_reading_X0_add
theorem dX5_reading_0 : decode cX5_reading 0 = .ok (.iload_n 2, 1) := by decide +kernel
theorem dX5_reading_1 : decode cX5_reading 1 = .ok (.invokestatic 98, 3) := by decide +kernel
theorem dX5_reading_4 : decode cX5_reading 4 = .ok (.ifCond .eq 14, 3) := by decide +kernel
theorem dX5_reading_7 : decode cX5_reading 7 = .ok (.iload 4, 2) := by decide +kernel
theorem dX5_reading_9 : decode cX5_reading 9 = .ok (.ifCond .lt 9, 3) := by decide +kernel
theorem dX5_reading_12 : decode cX5_reading 12 = .ok (.iload 4, 2) := by decide +kernel
theorem dX5_reading_14 : decode cX5_reading 14 = .ok (.iconst 4, 1) := by decide +kernel
theorem dX5_reading_15 : decode cX5_reading 15 = .ok (.if_icmp .lt 9, 3) := by decide +kernel
theorem dX5_reading_18 : decode cX5_reading 18 = .ok (.aload_n 0, 1) := by decide +kernel
theorem dX5_reading_19 : decode cX5_reading 19 = .ok (.iconst (-1), 1) := by decide +kernel
theorem dX5_reading_20 : decode cX5_reading 20 = .ok (.invokevirtual 47, 3) := by decide +kernel
theorem dX5_reading_23 : decode cX5_reading 23 = .ok (.ireturn, 1) := by decide +kernel
theorem dX5_reading_24 : decode cX5_reading 24 = .ok (.iload_n 1, 1) := by decide +kernel
theorem dX5_reading_25 : decode cX5_reading 25 = .ok (.ifCond .lt 9, 3) := by decide +kernel
theorem dX5_reading_28 : decode cX5_reading 28 = .ok (.iload_n 3, 1) := by decide +kernel
theorem dX5_reading_29 : decode cX5_reading 29 = .ok (.bipush 10, 2) := by decide +kernel
theorem dX5_reading_31 : decode cX5_reading 31 = .ok (.if_icmp .ge 10, 3) := by decide +kernel
theorem dX5_reading_34 : decode cX5_reading 34 = .ok (.aload_n 0, 1) := by decide +kernel
theorem dX5_reading_35 : decode cX5_reading 35 = .ok (.bipush (-4), 2) := by decide +kernel
theorem dX5_reading_37 : decode cX5_reading 37 = .ok (.invokevirtual 47, 3) := by decide +kernel
theorem dX5_reading_40 : decode cX5_reading 40 = .ok (.ireturn, 1) := by decide +kernel
theorem dX5_reading_41 : decode cX5_reading 41 = .ok (.iload_n 1, 1) := by decide +kernel
theorem dX5_reading_42 : decode cX5_reading 42 = .ok (.sipush 1100, 3) := by decide +kernel
theorem dX5_reading_45 : decode cX5_reading 45 = .ok (.if_icmp .gt 27, 3) := by decide +kernel
theorem dX5_reading_48 : decode cX5_reading 48 = .ok (.iload_n 3, 1) := by decide +kernel
theorem dX5_reading_49 : decode cX5_reading 49 = .ok (.bipush 99, 2) := by decide +kernel
theorem dX5_reading_51 : decode cX5_reading 51 = .ok (.if_icmp .gt 21, 3) := by decide +kernel
theorem dX5_reading_54 : decode cX5_reading 54 = .ok (.aload_n 0, 1) := by decide +kernel
theorem dX5_reading_55 : decode cX5_reading 55 = .ok (.getfield 19, 3) := by decide +kernel
theorem dX5_reading_58 : decode cX5_reading 58 = .ok (.getfield 135, 3) := by decide +kernel
theorem dX5_reading_61 : decode cX5_reading 61 = .ok (.iload_n 1, 1) := by decide +kernel
theorem dX5_reading_62 : decode cX5_reading 62 = .ok (.iload_n 2, 1) := by decide +kernel
theorem dX5_reading_63 : decode cX5_reading 63 = .ok (.iload_n 3, 1) := by decide +kernel
theorem dX5_reading_64 : decode cX5_reading 64 = .ok (.iload 4, 2) := by decide +kernel
theorem dX5_reading_66 : decode cX5_reading 66 = .ok (.invokevirtual 139, 3) := by decide +kernel
theorem dX5_reading_69 : decode cX5_reading 69 = .ok (.ifCond .ne 10, 3) := by decide +kernel
theorem dX5_reading_72 : decode cX5_reading 72 = .ok (.aload_n 0, 1) := by decide +kernel
theorem dX5_reading_73 : decode cX5_reading 73 = .ok (.bipush (-6), 2) := by decide +kernel
theorem dX5_reading_75 : decode cX5_reading 75 = .ok (.invokevirtual 47, 3) := by decide +kernel
theorem dX5_reading_78 : decode cX5_reading 78 = .ok (.ireturn, 1) := by decide +kernel
theorem dX5_reading_79 : decode cX5_reading 79 = .ok (.aload_n 0, 1) := by decide +kernel
theorem dX5_reading_80 : decode cX5_reading 80 = .ok (.getfield 19, 3) := by decide +kernel
theorem dX5_reading_83 : decode cX5_reading 83 = .ok (.getfield 135, 3) := by decide +kernel
theorem dX5_reading_86 : decode cX5_reading 86 = .ok (.getfield 144, 3) := by decide +kernel
theorem dX5_reading_89 : decode cX5_reading 89 = .ok (.ireturn, 1) := by decide +kernel
set_option maxRecDepth 20000 in
theorem ggX5_forget_X5_refuse : GoodIn wsX5_forget wsX5_refuse := goodIn_r _ [6, 7, 8, 9, 10, 11, 12, 13, 14, 15, 16] (by decide +kernel) (by decide +kernel)
set_option maxRecDepth 20000 in
theorem gX5_forget_X5_refuse : GoodIn wsX5_forget (wsV RX5 47 RX5 yX5_refuse wsX5_refuse) := goodIn_app (goodIn_of _ (by decide +kernel)) ggX5_forget_X5_refuse
theorem dX5_forget_0 : decode cX5_forget 0 = .ok (.aload_n 0, 1) := by decide +kernel
theorem dX5_forget_1 : decode cX5_forget 1 = .ok (.getfield 19, 3) := by decide +kernel
theorem dX5_forget_4 : decode cX5_forget 4 = .ok (.getfield 135, 3) := by decide +kernel
theorem dX5_forget_7 : decode cX5_forget 7 = .ok (.getfield 144, 3) := by decide +kernel
theorem dX5_forget_10 : decode cX5_forget 10 = .ok (.ifCond .ne 10, 3) := by decide +kernel
theorem dX5_forget_13 : decode cX5_forget 13 = .ok (.aload_n 0, 1) := by decide +kernel
theorem dX5_forget_14 : decode cX5_forget 14 = .ok (.bipush (-3), 2) := by decide +kernel
theorem dX5_forget_16 : decode cX5_forget 16 = .ok (.invokevirtual 47, 3) := by decide +kernel
theorem dX5_forget_19 : decode cX5_forget 19 = .ok (.ireturn, 1) := by decide +kernel
theorem dX5_forget_20 : decode cX5_forget 20 = .ok (.aload_n 0, 1) := by decide +kernel
theorem dX5_forget_21 : decode cX5_forget 21 = .ok (.getfield 19, 3) := by decide +kernel
theorem dX5_forget_24 : decode cX5_forget 24 = .ok (.getfield 135, 3) := by decide +kernel
theorem dX5_forget_27 : decode cX5_forget 27 = .ok (.dup, 1) := by decide +kernel
theorem dX5_forget_28 : decode cX5_forget 28 = .ok (.getfield 144, 3) := by decide +kernel
theorem dX5_forget_31 : decode cX5_forget 31 = .ok (.iconst 1, 1) := by decide +kernel
theorem dX5_forget_32 : decode cX5_forget 32 = .ok (.isub, 1) := by decide +kernel
theorem dX5_forget_33 : decode cX5_forget 33 = .ok (.putfield 144, 3) := by decide +kernel
theorem dX5_forget_36 : decode cX5_forget 36 = .ok (.aload_n 0, 1) := by decide +kernel
theorem dX5_forget_37 : decode cX5_forget 37 = .ok (.getfield 19, 3) := by decide +kernel
theorem dX5_forget_40 : decode cX5_forget 40 = .ok (.getfield 135, 3) := by decide +kernel
theorem dX5_forget_43 : decode cX5_forget 43 = .ok (.getfield 144, 3) := by decide +kernel
theorem dX5_forget_46 : decode cX5_forget 46 = .ok (.ireturn, 1) := by decide +kernel
set_option maxRecDepth 20000 in
theorem ggX5_fitting_X5_refuse : GoodIn wsX5_fitting wsX5_refuse := goodIn_r _ [6, 7, 53, 54, 55, 56, 57, 58, 59, 60, 61] (by decide +kernel) (by decide +kernel)
set_option maxRecDepth 20000 in
theorem gX5_fitting_X5_refuse : GoodIn wsX5_fitting (wsV RX5 47 RX5 yX5_refuse wsX5_refuse) := goodIn_app (goodIn_of _ (by decide +kernel)) ggX5_fitting_X5_refuse
set_option maxRecDepth 20000 in
theorem ggX5_fitting_X4_fittingOnes : GoodIn wsX5_fitting wsX4_fittingOnes := goodIn_r _ [11, 12, 13, 14, 15, 16, 17, 18, 19, 20, 21, 22, 23, 24, 25, 26, 27, 28, 29, 30, 31, 32, 33, 34, 35, 36, 37, 38, 39, 40, 41, 42, 43, 44, 45, 46, 47, 48, 9, 49, 50, 51, 52, 62, 63, 64, 65, 66, 67, 68, 69, 70, 71, 72, 73, 74, 75, 76, 77, 78] (by decide +kernel) (by decide +kernel)
set_option maxRecDepth 20000 in
theorem gX5_fitting_X4_fittingOnes_n145 : GoodIn wsX5_fitting (wsX4_fittingOnes) := ggX5_fitting_X4_fittingOnes
theorem dX5_fitting_0 : decode cX5_fitting 0 = .ok (.iload_n 1, 1) := by decide +kernel
theorem dX5_fitting_1 : decode cX5_fitting 1 = .ok (.ifCond .lt 17, 3) := by decide +kernel
theorem dX5_fitting_4 : decode cX5_fitting 4 = .ok (.iload_n 1, 1) := by decide +kernel
theorem dX5_fitting_5 : decode cX5_fitting 5 = .ok (.aload_n 0, 1) := by decide +kernel
theorem dX5_fitting_6 : decode cX5_fitting 6 = .ok (.getfield 19, 3) := by decide +kernel
theorem dX5_fitting_9 : decode cX5_fitting 9 = .ok (.getfield 135, 3) := by decide +kernel
theorem dX5_fitting_12 : decode cX5_fitting 12 = .ok (.getfield 144, 3) := by decide +kernel
theorem dX5_fitting_15 : decode cX5_fitting 15 = .ok (.if_icmp .lt 9, 3) := by decide +kernel
theorem dX5_fitting_18 : decode cX5_fitting 18 = .ok (.aload_n 0, 1) := by decide +kernel
theorem dX5_fitting_19 : decode cX5_fitting 19 = .ok (.iconst (-1), 1) := by decide +kernel
theorem dX5_fitting_20 : decode cX5_fitting 20 = .ok (.invokevirtual 47, 3) := by decide +kernel
theorem dX5_fitting_23 : decode cX5_fitting 23 = .ok (.ireturn, 1) := by decide +kernel
theorem dX5_fitting_24 : decode cX5_fitting 24 = .ok (.iload_n 2, 1) := by decide +kernel
theorem dX5_fitting_25 : decode cX5_fitting 25 = .ok (.ifCond .lt 8, 3) := by decide +kernel
theorem dX5_fitting_28 : decode cX5_fitting 28 = .ok (.iload_n 2, 1) := by decide +kernel
theorem dX5_fitting_29 : decode cX5_fitting 29 = .ok (.iconst 1, 1) := by decide +kernel
theorem dX5_fitting_30 : decode cX5_fitting 30 = .ok (.if_icmp .le 10, 3) := by decide +kernel
theorem dX5_fitting_33 : decode cX5_fitting 33 = .ok (.aload_n 0, 1) := by decide +kernel
theorem dX5_fitting_34 : decode cX5_fitting 34 = .ok (.bipush (-2), 2) := by decide +kernel
theorem dX5_fitting_36 : decode cX5_fitting 36 = .ok (.invokevirtual 47, 3) := by decide +kernel
theorem dX5_fitting_39 : decode cX5_fitting 39 = .ok (.ireturn, 1) := by decide +kernel
theorem dX5_fitting_40 : decode cX5_fitting 40 = .ok (.aload_n 0, 1) := by decide +kernel
theorem dX5_fitting_41 : decode cX5_fitting 41 = .ok (.getfield 19, 3) := by decide +kernel
theorem dX5_fitting_44 : decode cX5_fitting 44 = .ok (.iload_n 1, 1) := by decide +kernel
theorem dX5_fitting_45 : decode cX5_fitting 45 = .ok (.iload_n 2, 1) := by decide +kernel
theorem dX5_fitting_46 : decode cX5_fitting 46 = .ok (.iconst 1, 1) := by decide +kernel
theorem dX5_fitting_47 : decode cX5_fitting 47 = .ok (.if_icmp .ne 7, 3) := by decide +kernel
theorem dX5_fitting_50 : decode cX5_fitting 50 = .ok (.iconst 1, 1) := by decide +kernel
theorem dX5_fitting_51 : decode cX5_fitting 51 = .ok (.goto 4, 3) := by decide +kernel
theorem dX5_fitting_54 : decode cX5_fitting 54 = .ok (.iconst 0, 1) := by decide +kernel
theorem dX5_fitting_55 : decode cX5_fitting 55 = .ok (.invokevirtual 145, 3) := by decide +kernel
theorem dX5_fitting_58 : decode cX5_fitting 58 = .ok (.ireturn, 1) := by decide +kernel
set_option maxRecDepth 20000 in
theorem ggX5_madeUp_X4_madeUpOnes : GoodIn wsX5_madeUp wsX4_madeUpOnes := goodIn_r _ [5, 6, 7, 8, 9, 3, 10, 11, 12, 13, 14, 15, 16, 17, 18, 19, 20, 21, 22, 23, 24, 25, 26, 27, 28, 29, 30, 31, 32, 33, 34, 35, 36, 37, 38, 39, 40, 41, 42, 43, 44, 45, 46, 47, 48, 49, 50, 60, 61, 62, 63, 64, 65, 66, 67, 68, 69, 70, 71, 72, 73, 74, 75, 76] (by decide +kernel) (by decide +kernel)
set_option maxRecDepth 20000 in
theorem gX5_madeUp_X4_madeUpOnes_n149 : GoodIn wsX5_madeUp (wsX4_madeUpOnes) := ggX5_madeUp_X4_madeUpOnes
theorem dX5_madeUp_0 : decode cX5_madeUp 0 = .ok (.aload_n 0, 1) := by decide +kernel
theorem dX5_madeUp_1 : decode cX5_madeUp 1 = .ok (.getfield 19, 3) := by decide +kernel
theorem dX5_madeUp_4 : decode cX5_madeUp 4 = .ok (.invokevirtual 149, 3) := by decide +kernel
theorem dX5_madeUp_7 : decode cX5_madeUp 7 = .ok (.ireturn, 1) := by decide +kernel
set_option maxRecDepth 20000 in
theorem ggX5_liars_X4_madeUpOnes : GoodIn wsX5_liars wsX4_madeUpOnes := goodIn_r _ [5, 6, 7, 8, 9, 3, 10, 11, 12, 13, 14, 15, 16, 17, 18, 19, 20, 21, 22, 23, 24, 25, 26, 27, 28, 29, 30, 31, 32, 33, 34, 35, 36, 37, 38, 39, 40, 41, 42, 43, 44, 45, 46, 47, 48, 49, 50, 72, 73, 74, 75, 76, 77, 78, 79, 80, 81, 82, 83, 84, 85, 86, 87, 88] (by decide +kernel) (by decide +kernel)
set_option maxRecDepth 20000 in
theorem gX5_liars_X4_madeUpOnes_n149 : GoodIn wsX5_liars (wsX4_madeUpOnes) := ggX5_liars_X4_madeUpOnes
set_option maxRecDepth 20000 in
theorem ggX5_liars_X0_readBy : GoodIn wsX5_liars wsX0_readBy := goodIn_r _ [53, 16, 54, 55, 12, 14, 13, 15, 75, 76, 77, 78, 79] (by decide +kernel) (by decide +kernel)
set_option maxRecDepth 20000 in
theorem gX5_liars_X0_readBy_n152 : GoodIn wsX5_liars (wsX0_readBy) := ggX5_liars_X0_readBy
set_option maxRecDepth 20000 in
theorem ggX5_liars_J6_bitCount_0f7a4 : GoodIn wsX5_liars wsJ6_bitCount_0f7a4 := goodIn_r _ [59, 60, 61, 62] (by decide +kernel) (by decide +kernel)
set_option maxRecDepth 20000 in
theorem gX5_liars_J6_bitCount_0f7a4 : GoodIn wsX5_liars (va_wsS RX5 155 yJ6_bitCount_0f7a4 wsJ6_bitCount_0f7a4) := goodIn_app (goodIn_of _ (by decide +kernel)) ggX5_liars_J6_bitCount_0f7a4
theorem dX5_liars_0 : decode cX5_liars 0 = .ok (.aload_n 0, 1) := by decide +kernel
theorem dX5_liars_1 : decode cX5_liars 1 = .ok (.getfield 19, 3) := by decide +kernel
theorem dX5_liars_4 : decode cX5_liars 4 = .ok (.invokevirtual 149, 3) := by decide +kernel
theorem dX5_liars_7 : decode cX5_liars 7 = .ok (.istore_n 1, 1) := by decide +kernel
theorem dX5_liars_8 : decode cX5_liars 8 = .ok (.iconst 1, 1) := by decide +kernel
theorem dX5_liars_9 : decode cX5_liars 9 = .ok (.istore_n 2, 1) := by decide +kernel
theorem dX5_liars_10 : decode cX5_liars 10 = .ok (.iconst 0, 1) := by decide +kernel
theorem dX5_liars_11 : decode cX5_liars 11 = .ok (.istore_n 3, 1) := by decide +kernel
theorem dX5_liars_12 : decode cX5_liars 12 = .ok (.iconst 0, 1) := by decide +kernel
theorem dX5_liars_13 : decode cX5_liars 13 = .ok (.istore 4, 2) := by decide +kernel
theorem dX5_liars_15 : decode cX5_liars 15 = .ok (.iload 4, 2) := by decide +kernel
theorem dX5_liars_17 : decode cX5_liars 17 = .ok (.iconst 4, 1) := by decide +kernel
theorem dX5_liars_18 : decode cX5_liars 18 = .ok (.if_icmp .ge 52, 3) := by decide +kernel
theorem dX5_liars_21 : decode cX5_liars 21 = .ok (.iload_n 1, 1) := by decide +kernel
theorem dX5_liars_22 : decode cX5_liars 22 = .ok (.aload_n 0, 1) := by decide +kernel
theorem dX5_liars_23 : decode cX5_liars 23 = .ok (.getfield 19, 3) := by decide +kernel
theorem dX5_liars_26 : decode cX5_liars 26 = .ok (.getfield 135, 3) := by decide +kernel
theorem dX5_liars_29 : decode cX5_liars 29 = .ok (.iload 4, 2) := by decide +kernel
theorem dX5_liars_31 : decode cX5_liars 31 = .ok (.invokevirtual 152, 3) := by decide +kernel
theorem dX5_liars_34 : decode cX5_liars 34 = .ok (.iand, 1) := by decide +kernel
theorem dX5_liars_35 : decode cX5_liars 35 = .ok (.invokestatic 155, 3) := by decide +kernel
theorem dX5_liars_38 : decode cX5_liars 38 = .ok (.istore 5, 2) := by decide +kernel
theorem dX5_liars_40 : decode cX5_liars 40 = .ok (.iload 5, 2) := by decide +kernel
theorem dX5_liars_42 : decode cX5_liars 42 = .ok (.iload_n 2, 1) := by decide +kernel
theorem dX5_liars_43 : decode cX5_liars 43 = .ok (.if_icmp .le 8, 3) := by decide +kernel
theorem dX5_liars_46 : decode cX5_liars 46 = .ok (.iload 5, 2) := by decide +kernel
theorem dX5_liars_48 : decode cX5_liars 48 = .ok (.istore_n 2, 1) := by decide +kernel
theorem dX5_liars_49 : decode cX5_liars 49 = .ok (.iconst 0, 1) := by decide +kernel
theorem dX5_liars_50 : decode cX5_liars 50 = .ok (.istore_n 3, 1) := by decide +kernel
theorem dX5_liars_51 : decode cX5_liars 51 = .ok (.iload 5, 2) := by decide +kernel
theorem dX5_liars_53 : decode cX5_liars 53 = .ok (.iload_n 2, 1) := by decide +kernel
theorem dX5_liars_54 : decode cX5_liars 54 = .ok (.if_icmp .ne 10, 3) := by decide +kernel
theorem dX5_liars_57 : decode cX5_liars 57 = .ok (.iload_n 3, 1) := by decide +kernel
theorem dX5_liars_58 : decode cX5_liars 58 = .ok (.iconst 1, 1) := by decide +kernel
theorem dX5_liars_59 : decode cX5_liars 59 = .ok (.iload 4, 2) := by decide +kernel
theorem dX5_liars_61 : decode cX5_liars 61 = .ok (.ishl, 1) := by decide +kernel
theorem dX5_liars_62 : decode cX5_liars 62 = .ok (.ior, 1) := by decide +kernel
theorem dX5_liars_63 : decode cX5_liars 63 = .ok (.istore_n 3, 1) := by decide +kernel
theorem dX5_liars_64 : decode cX5_liars 64 = .ok (.iinc 4 1, 3) := by decide +kernel
theorem dX5_liars_67 : decode cX5_liars 67 = .ok (.goto (-52), 3) := by decide +kernel
theorem dX5_liars_70 : decode cX5_liars 70 = .ok (.iload_n 3, 1) := by decide +kernel
theorem dX5_liars_71 : decode cX5_liars 71 = .ok (.ireturn, 1) := by decide +kernel
set_option maxRecDepth 20000 in
theorem ggX5_clash_X5_refuse : GoodIn wsX5_clash wsX5_refuse := goodIn_r _ [6, 7, 20, 21, 22, 23, 24, 25, 26, 27, 28] (by decide +kernel) (by decide +kernel)
set_option maxRecDepth 20000 in
theorem gX5_clash_X5_refuse : GoodIn wsX5_clash (wsV RX5 47 RX5 yX5_refuse wsX5_refuse) := goodIn_app (goodIn_of _ (by decide +kernel)) ggX5_clash_X5_refuse
set_option maxRecDepth 20000 in
theorem ggX5_clash_X0_cannotBothBe : GoodIn wsX5_clash wsX0_cannotBothBe := goodIn_r _ [11, 12, 13, 14, 15, 16, 17, 9, 18, 19, 32, 33, 34, 35, 36] (by decide +kernel) (by decide +kernel)
set_option maxRecDepth 20000 in
theorem gX5_clash_X0_cannotBothBe_n160 : GoodIn wsX5_clash (wsX0_cannotBothBe) := ggX5_clash_X0_cannotBothBe
theorem dX5_clash_0 : decode cX5_clash 0 = .ok (.iload_n 1, 1) := by decide +kernel
theorem dX5_clash_1 : decode cX5_clash 1 = .ok (.ifCond .lt 8, 3) := by decide +kernel
theorem dX5_clash_4 : decode cX5_clash 4 = .ok (.iload_n 1, 1) := by decide +kernel
theorem dX5_clash_5 : decode cX5_clash 5 = .ok (.iconst 1, 1) := by decide +kernel
theorem dX5_clash_6 : decode cX5_clash 6 = .ok (.if_icmp .le 10, 3) := by decide +kernel
theorem dX5_clash_9 : decode cX5_clash 9 = .ok (.aload_n 0, 1) := by decide +kernel
theorem dX5_clash_10 : decode cX5_clash 10 = .ok (.bipush (-2), 2) := by decide +kernel
theorem dX5_clash_12 : decode cX5_clash 12 = .ok (.invokevirtual 47, 3) := by decide +kernel
theorem dX5_clash_15 : decode cX5_clash 15 = .ok (.ireturn, 1) := by decide +kernel
theorem dX5_clash_16 : decode cX5_clash 16 = .ok (.iconst 0, 1) := by decide +kernel
theorem dX5_clash_17 : decode cX5_clash 17 = .ok (.istore_n 2, 1) := by decide +kernel
theorem dX5_clash_18 : decode cX5_clash 18 = .ok (.iconst 0, 1) := by decide +kernel
theorem dX5_clash_19 : decode cX5_clash 19 = .ok (.istore_n 3, 1) := by decide +kernel
theorem dX5_clash_20 : decode cX5_clash 20 = .ok (.iload_n 3, 1) := by decide +kernel
theorem dX5_clash_21 : decode cX5_clash 21 = .ok (.aload_n 0, 1) := by decide +kernel
theorem dX5_clash_22 : decode cX5_clash 22 = .ok (.getfield 19, 3) := by decide +kernel
theorem dX5_clash_25 : decode cX5_clash 25 = .ok (.getfield 135, 3) := by decide +kernel
theorem dX5_clash_28 : decode cX5_clash 28 = .ok (.getfield 144, 3) := by decide +kernel
theorem dX5_clash_31 : decode cX5_clash 31 = .ok (.if_icmp .ge 67, 3) := by decide +kernel
theorem dX5_clash_34 : decode cX5_clash 34 = .ok (.iload_n 3, 1) := by decide +kernel
theorem dX5_clash_35 : decode cX5_clash 35 = .ok (.iconst 1, 1) := by decide +kernel
theorem dX5_clash_36 : decode cX5_clash 36 = .ok (.iadd, 1) := by decide +kernel
theorem dX5_clash_37 : decode cX5_clash 37 = .ok (.istore 4, 2) := by decide +kernel
theorem dX5_clash_39 : decode cX5_clash 39 = .ok (.iload 4, 2) := by decide +kernel
theorem dX5_clash_41 : decode cX5_clash 41 = .ok (.aload_n 0, 1) := by decide +kernel
theorem dX5_clash_42 : decode cX5_clash 42 = .ok (.getfield 19, 3) := by decide +kernel
theorem dX5_clash_45 : decode cX5_clash 45 = .ok (.getfield 135, 3) := by decide +kernel
theorem dX5_clash_48 : decode cX5_clash 48 = .ok (.getfield 144, 3) := by decide +kernel
theorem dX5_clash_51 : decode cX5_clash 51 = .ok (.if_icmp .ge 41, 3) := by decide +kernel
theorem dX5_clash_54 : decode cX5_clash 54 = .ok (.aload_n 0, 1) := by decide +kernel
theorem dX5_clash_55 : decode cX5_clash 55 = .ok (.getfield 19, 3) := by decide +kernel
theorem dX5_clash_58 : decode cX5_clash 58 = .ok (.getfield 135, 3) := by decide +kernel
theorem dX5_clash_61 : decode cX5_clash 61 = .ok (.iload_n 3, 1) := by decide +kernel
theorem dX5_clash_62 : decode cX5_clash 62 = .ok (.iload 4, 2) := by decide +kernel
theorem dX5_clash_64 : decode cX5_clash 64 = .ok (.invokevirtual 160, 3) := by decide +kernel
theorem dX5_clash_67 : decode cX5_clash 67 = .ok (.ifCond .eq 19, 3) := by decide +kernel
theorem dX5_clash_70 : decode cX5_clash 70 = .ok (.iload_n 1, 1) := by decide +kernel
theorem dX5_clash_71 : decode cX5_clash 71 = .ok (.iconst 1, 1) := by decide +kernel
theorem dX5_clash_72 : decode cX5_clash 72 = .ok (.if_icmp .ne 11, 3) := by decide +kernel
theorem dX5_clash_75 : decode cX5_clash 75 = .ok (.bipush 12, 2) := by decide +kernel
theorem dX5_clash_77 : decode cX5_clash 77 = .ok (.iload_n 3, 1) := by decide +kernel
theorem dX5_clash_78 : decode cX5_clash 78 = .ok (.imul, 1) := by decide +kernel
theorem dX5_clash_79 : decode cX5_clash 79 = .ok (.iload 4, 2) := by decide +kernel
theorem dX5_clash_81 : decode cX5_clash 81 = .ok (.iadd, 1) := by decide +kernel
theorem dX5_clash_82 : decode cX5_clash 82 = .ok (.ireturn, 1) := by decide +kernel
theorem dX5_clash_83 : decode cX5_clash 83 = .ok (.iinc 2 1, 3) := by decide +kernel
theorem dX5_clash_86 : decode cX5_clash 86 = .ok (.iinc 4 1, 3) := by decide +kernel
theorem dX5_clash_89 : decode cX5_clash 89 = .ok (.goto (-50), 3) := by decide +kernel
theorem dX5_clash_92 : decode cX5_clash 92 = .ok (.iinc 3 1, 3) := by decide +kernel
theorem dX5_clash_95 : decode cX5_clash 95 = .ok (.goto (-75), 3) := by decide +kernel
theorem dX5_clash_98 : decode cX5_clash 98 = .ok (.iload_n 1, 1) := by decide +kernel
theorem dX5_clash_99 : decode cX5_clash 99 = .ok (.iconst 1, 1) := by decide +kernel
theorem dX5_clash_100 : decode cX5_clash 100 = .ok (.if_icmp .ne 8, 3) := by decide +kernel
theorem dX5_clash_103 : decode cX5_clash 103 = .ok (.bipush (-9), 2) := by decide +kernel
theorem dX5_clash_105 : decode cX5_clash 105 = .ok (.goto 4, 3) := by decide +kernel
theorem dX5_clash_108 : decode cX5_clash 108 = .ok (.iload_n 2, 1) := by decide +kernel
theorem dX5_clash_109 : decode cX5_clash 109 = .ok (.ireturn, 1) := by decide +kernel
set_option maxRecDepth 20000 in
theorem ggX5_sure_X4_fittingOnes : GoodIn wsX5_sure wsX4_fittingOnes := goodIn_r _ [5, 6, 7, 8, 9, 10, 11, 12, 13, 14, 15, 16, 17, 18, 19, 20, 21, 22, 23, 24, 25, 26, 27, 28, 29, 30, 31, 32, 33, 34, 35, 36, 37, 38, 39, 40, 41, 42, 3, 43, 44, 45, 46, 63, 64, 65, 66, 67, 68, 69, 70, 71, 72, 73, 74, 75, 76, 77, 78, 79] (by decide +kernel) (by decide +kernel)
set_option maxRecDepth 20000 in
theorem gX5_sure_X4_fittingOnes_n145 : GoodIn wsX5_sure (wsX4_fittingOnes) := ggX5_sure_X4_fittingOnes
set_option maxRecDepth 20000 in
theorem ggX5_sure_J6_bitCount_0f7a4 : GoodIn wsX5_sure wsJ6_bitCount_0f7a4 := goodIn_r _ [50, 51, 52, 53] (by decide +kernel) (by decide +kernel)
set_option maxRecDepth 20000 in
theorem gX5_sure_J6_bitCount_0f7a4 : GoodIn wsX5_sure (va_wsS RX5 155 yJ6_bitCount_0f7a4 wsJ6_bitCount_0f7a4) := goodIn_app (goodIn_of _ (by decide +kernel)) ggX5_sure_J6_bitCount_0f7a4
theorem dX5_sure_0 : decode cX5_sure 0 = .ok (.iconst 0, 1) := by decide +kernel
theorem dX5_sure_1 : decode cX5_sure 1 = .ok (.istore_n 1, 1) := by decide +kernel
theorem dX5_sure_2 : decode cX5_sure 2 = .ok (.iconst 0, 1) := by decide +kernel
theorem dX5_sure_3 : decode cX5_sure 3 = .ok (.istore_n 2, 1) := by decide +kernel
theorem dX5_sure_4 : decode cX5_sure 4 = .ok (.iload_n 2, 1) := by decide +kernel
theorem dX5_sure_5 : decode cX5_sure 5 = .ok (.aload_n 0, 1) := by decide +kernel
theorem dX5_sure_6 : decode cX5_sure 6 = .ok (.getfield 19, 3) := by decide +kernel
theorem dX5_sure_9 : decode cX5_sure 9 = .ok (.getfield 135, 3) := by decide +kernel
theorem dX5_sure_12 : decode cX5_sure 12 = .ok (.getfield 144, 3) := by decide +kernel
theorem dX5_sure_15 : decode cX5_sure 15 = .ok (.if_icmp .ge 31, 3) := by decide +kernel
theorem dX5_sure_18 : decode cX5_sure 18 = .ok (.aload_n 0, 1) := by decide +kernel
theorem dX5_sure_19 : decode cX5_sure 19 = .ok (.getfield 19, 3) := by decide +kernel
theorem dX5_sure_22 : decode cX5_sure 22 = .ok (.iload_n 2, 1) := by decide +kernel
theorem dX5_sure_23 : decode cX5_sure 23 = .ok (.iconst 0, 1) := by decide +kernel
theorem dX5_sure_24 : decode cX5_sure 24 = .ok (.invokevirtual 145, 3) := by decide +kernel
theorem dX5_sure_27 : decode cX5_sure 27 = .ok (.istore_n 3, 1) := by decide +kernel
theorem dX5_sure_28 : decode cX5_sure 28 = .ok (.iload_n 3, 1) := by decide +kernel
theorem dX5_sure_29 : decode cX5_sure 29 = .ok (.invokestatic 155, 3) := by decide +kernel
theorem dX5_sure_32 : decode cX5_sure 32 = .ok (.iconst 1, 1) := by decide +kernel
theorem dX5_sure_33 : decode cX5_sure 33 = .ok (.if_icmp .ne 7, 3) := by decide +kernel
theorem dX5_sure_36 : decode cX5_sure 36 = .ok (.iload_n 1, 1) := by decide +kernel
theorem dX5_sure_37 : decode cX5_sure 37 = .ok (.iload_n 3, 1) := by decide +kernel
theorem dX5_sure_38 : decode cX5_sure 38 = .ok (.ior, 1) := by decide +kernel
theorem dX5_sure_39 : decode cX5_sure 39 = .ok (.istore_n 1, 1) := by decide +kernel
theorem dX5_sure_40 : decode cX5_sure 40 = .ok (.iinc 2 1, 3) := by decide +kernel
theorem dX5_sure_43 : decode cX5_sure 43 = .ok (.goto (-39), 3) := by decide +kernel
theorem dX5_sure_46 : decode cX5_sure 46 = .ok (.iload_n 1, 1) := by decide +kernel
theorem dX5_sure_47 : decode cX5_sure 47 = .ok (.ireturn, 1) := by decide +kernel
set_option maxRecDepth 20000 in
theorem ggX5_pairs_X5_refuse : GoodIn wsX5_pairs wsX5_refuse := goodIn_r _ [6, 7, 30, 31, 32, 33, 34, 35, 36, 37, 38] (by decide +kernel) (by decide +kernel)
set_option maxRecDepth 20000 in
theorem gX5_pairs_X5_refuse : GoodIn wsX5_pairs (wsV RX5 47 RX5 yX5_refuse wsX5_refuse) := goodIn_app (goodIn_of _ (by decide +kernel)) ggX5_pairs_X5_refuse
set_option maxRecDepth 20000 in
theorem ggX5_pairs_X4_goTogether : GoodIn wsX5_pairs wsX4_goTogether := goodIn_r _ [11, 12, 13, 14, 15, 16, 17, 18, 19, 20, 21, 22, 23, 24, 25, 26, 27, 28, 29, 39, 40, 41, 42, 43, 44, 45, 46, 47, 48, 49, 50] (by decide +kernel) (by decide +kernel)
set_option maxRecDepth 20000 in
theorem gX5_pairs_X4_goTogether_n164 : GoodIn wsX5_pairs (wsX4_goTogether) := ggX5_pairs_X4_goTogether
theorem dX5_pairs_0 : decode cX5_pairs 0 = .ok (.iload_n 1, 1) := by decide +kernel
theorem dX5_pairs_1 : decode cX5_pairs 1 = .ok (.iconst 1, 1) := by decide +kernel
theorem dX5_pairs_2 : decode cX5_pairs 2 = .ok (.if_icmp .ge 10, 3) := by decide +kernel
theorem dX5_pairs_5 : decode cX5_pairs 5 = .ok (.aload_n 0, 1) := by decide +kernel
theorem dX5_pairs_6 : decode cX5_pairs 6 = .ok (.bipush (-4), 2) := by decide +kernel
theorem dX5_pairs_8 : decode cX5_pairs 8 = .ok (.invokevirtual 47, 3) := by decide +kernel
theorem dX5_pairs_11 : decode cX5_pairs 11 = .ok (.ireturn, 1) := by decide +kernel
theorem dX5_pairs_12 : decode cX5_pairs 12 = .ok (.iload_n 1, 1) := by decide +kernel
theorem dX5_pairs_13 : decode cX5_pairs 13 = .ok (.bipush 60, 2) := by decide +kernel
theorem dX5_pairs_15 : decode cX5_pairs 15 = .ok (.if_icmp .le 10, 3) := by decide +kernel
theorem dX5_pairs_18 : decode cX5_pairs 18 = .ok (.aload_n 0, 1) := by decide +kernel
theorem dX5_pairs_19 : decode cX5_pairs 19 = .ok (.bipush (-6), 2) := by decide +kernel
theorem dX5_pairs_21 : decode cX5_pairs 21 = .ok (.invokevirtual 47, 3) := by decide +kernel
theorem dX5_pairs_24 : decode cX5_pairs 24 = .ok (.ireturn, 1) := by decide +kernel
theorem dX5_pairs_25 : decode cX5_pairs 25 = .ok (.iload_n 2, 1) := by decide +kernel
theorem dX5_pairs_26 : decode cX5_pairs 26 = .ok (.ifCond .lt 8, 3) := by decide +kernel
theorem dX5_pairs_29 : decode cX5_pairs 29 = .ok (.iload_n 2, 1) := by decide +kernel
theorem dX5_pairs_30 : decode cX5_pairs 30 = .ok (.iconst 1, 1) := by decide +kernel
theorem dX5_pairs_31 : decode cX5_pairs 31 = .ok (.if_icmp .le 10, 3) := by decide +kernel
theorem dX5_pairs_34 : decode cX5_pairs 34 = .ok (.aload_n 0, 1) := by decide +kernel
theorem dX5_pairs_35 : decode cX5_pairs 35 = .ok (.bipush (-2), 2) := by decide +kernel
theorem dX5_pairs_37 : decode cX5_pairs 37 = .ok (.invokevirtual 47, 3) := by decide +kernel
theorem dX5_pairs_40 : decode cX5_pairs 40 = .ok (.ireturn, 1) := by decide +kernel
theorem dX5_pairs_41 : decode cX5_pairs 41 = .ok (.iconst 0, 1) := by decide +kernel
theorem dX5_pairs_42 : decode cX5_pairs 42 = .ok (.istore_n 3, 1) := by decide +kernel
theorem dX5_pairs_43 : decode cX5_pairs 43 = .ok (.iconst 0, 1) := by decide +kernel
theorem dX5_pairs_44 : decode cX5_pairs 44 = .ok (.istore 4, 2) := by decide +kernel
theorem dX5_pairs_46 : decode cX5_pairs 46 = .ok (.iload 4, 2) := by decide +kernel
theorem dX5_pairs_48 : decode cX5_pairs 48 = .ok (.aload_n 0, 1) := by decide +kernel
theorem dX5_pairs_49 : decode cX5_pairs 49 = .ok (.getfield 19, 3) := by decide +kernel
theorem dX5_pairs_52 : decode cX5_pairs 52 = .ok (.getfield 63, 3) := by decide +kernel
theorem dX5_pairs_55 : decode cX5_pairs 55 = .ok (.getfield 163, 3) := by decide +kernel
theorem dX5_pairs_58 : decode cX5_pairs 58 = .ok (.if_icmp .ge 68, 3) := by decide +kernel
theorem dX5_pairs_61 : decode cX5_pairs 61 = .ok (.iload 4, 2) := by decide +kernel
theorem dX5_pairs_63 : decode cX5_pairs 63 = .ok (.iconst 1, 1) := by decide +kernel
theorem dX5_pairs_64 : decode cX5_pairs 64 = .ok (.iadd, 1) := by decide +kernel
theorem dX5_pairs_65 : decode cX5_pairs 65 = .ok (.istore 5, 2) := by decide +kernel
theorem dX5_pairs_67 : decode cX5_pairs 67 = .ok (.iload 5, 2) := by decide +kernel
theorem dX5_pairs_69 : decode cX5_pairs 69 = .ok (.aload_n 0, 1) := by decide +kernel
theorem dX5_pairs_70 : decode cX5_pairs 70 = .ok (.getfield 19, 3) := by decide +kernel
theorem dX5_pairs_73 : decode cX5_pairs 73 = .ok (.getfield 63, 3) := by decide +kernel
theorem dX5_pairs_76 : decode cX5_pairs 76 = .ok (.getfield 163, 3) := by decide +kernel
theorem dX5_pairs_79 : decode cX5_pairs 79 = .ok (.if_icmp .ge 41, 3) := by decide +kernel
theorem dX5_pairs_82 : decode cX5_pairs 82 = .ok (.aload_n 0, 1) := by decide +kernel
theorem dX5_pairs_83 : decode cX5_pairs 83 = .ok (.getfield 19, 3) := by decide +kernel
theorem dX5_pairs_86 : decode cX5_pairs 86 = .ok (.iload 4, 2) := by decide +kernel
theorem dX5_pairs_88 : decode cX5_pairs 88 = .ok (.iload 5, 2) := by decide +kernel
theorem dX5_pairs_90 : decode cX5_pairs 90 = .ok (.iload_n 1, 1) := by decide +kernel
theorem dX5_pairs_91 : decode cX5_pairs 91 = .ok (.invokevirtual 164, 3) := by decide +kernel
theorem dX5_pairs_94 : decode cX5_pairs 94 = .ok (.ifCond .eq 20, 3) := by decide +kernel
theorem dX5_pairs_97 : decode cX5_pairs 97 = .ok (.iload_n 2, 1) := by decide +kernel
theorem dX5_pairs_98 : decode cX5_pairs 98 = .ok (.iconst 1, 1) := by decide +kernel
theorem dX5_pairs_99 : decode cX5_pairs 99 = .ok (.if_icmp .ne 12, 3) := by decide +kernel
theorem dX5_pairs_102 : decode cX5_pairs 102 = .ok (.bipush 10, 2) := by decide +kernel
theorem dX5_pairs_104 : decode cX5_pairs 104 = .ok (.iload 4, 2) := by decide +kernel
theorem dX5_pairs_106 : decode cX5_pairs 106 = .ok (.imul, 1) := by decide +kernel
theorem dX5_pairs_107 : decode cX5_pairs 107 = .ok (.iload 5, 2) := by decide +kernel
theorem dX5_pairs_109 : decode cX5_pairs 109 = .ok (.iadd, 1) := by decide +kernel
theorem dX5_pairs_110 : decode cX5_pairs 110 = .ok (.ireturn, 1) := by decide +kernel
theorem dX5_pairs_111 : decode cX5_pairs 111 = .ok (.iinc 3 1, 3) := by decide +kernel
theorem dX5_pairs_114 : decode cX5_pairs 114 = .ok (.iinc 5 1, 3) := by decide +kernel
theorem dX5_pairs_117 : decode cX5_pairs 117 = .ok (.goto (-50), 3) := by decide +kernel
theorem dX5_pairs_120 : decode cX5_pairs 120 = .ok (.iinc 4 1, 3) := by decide +kernel
theorem dX5_pairs_123 : decode cX5_pairs 123 = .ok (.goto (-77), 3) := by decide +kernel
theorem dX5_pairs_126 : decode cX5_pairs 126 = .ok (.iload_n 2, 1) := by decide +kernel
theorem dX5_pairs_127 : decode cX5_pairs 127 = .ok (.iconst 1, 1) := by decide +kernel
theorem dX5_pairs_128 : decode cX5_pairs 128 = .ok (.if_icmp .ne 8, 3) := by decide +kernel
theorem dX5_pairs_131 : decode cX5_pairs 131 = .ok (.bipush (-9), 2) := by decide +kernel
theorem dX5_pairs_133 : decode cX5_pairs 133 = .ok (.goto 4, 3) := by decide +kernel
theorem dX5_pairs_136 : decode cX5_pairs 136 = .ok (.iload_n 3, 1) := by decide +kernel
theorem dX5_pairs_137 : decode cX5_pairs 137 = .ok (.ireturn, 1) := by decide +kernel
set_option maxRecDepth 20000 in
theorem ggX5_many_X0_unlikeNumbers : GoodIn wsX5_many wsX0_unlikeNumbers := goodIn_r _ [5, 6, 7, 8, 9, 3, 10, 11, 12, 13, 14, 15, 16, 17, 18, 19, 39, 40, 41, 42, 43] (by decide +kernel) (by decide +kernel)
set_option maxRecDepth 20000 in
theorem gX5_many_X0_unlikeNumbers_n168 : GoodIn wsX5_many (wsX0_unlikeNumbers) := ggX5_many_X0_unlikeNumbers
set_option maxRecDepth 20000 in
theorem ggX5_many_X0_greatestNumber : GoodIn wsX5_many wsX0_greatestNumber := goodIn_r _ [22, 6, 23, 24, 25, 26, 11, 12, 13, 3, 14, 15, 16, 17, 18, 19, 39, 40, 41, 42, 43] (by decide +kernel) (by decide +kernel)
set_option maxRecDepth 20000 in
theorem gX5_many_X0_greatestNumber_n171 : GoodIn wsX5_many (wsX0_greatestNumber) := ggX5_many_X0_greatestNumber
theorem dX5_many_0 : decode cX5_many 0 = .ok (.aload_n 0, 1) := by decide +kernel
theorem dX5_many_1 : decode cX5_many 1 = .ok (.getfield 19, 3) := by decide +kernel
theorem dX5_many_4 : decode cX5_many 4 = .ok (.getfield 135, 3) := by decide +kernel
theorem dX5_many_7 : decode cX5_many 7 = .ok (.invokevirtual 168, 3) := by decide +kernel
theorem dX5_many_10 : decode cX5_many 10 = .ok (.istore_n 1, 1) := by decide +kernel
theorem dX5_many_11 : decode cX5_many 11 = .ok (.iload_n 1, 1) := by decide +kernel
theorem dX5_many_12 : decode cX5_many 12 = .ok (.ifCond .ne 5, 3) := by decide +kernel
theorem dX5_many_15 : decode cX5_many 15 = .ok (.iconst 0, 1) := by decide +kernel
theorem dX5_many_16 : decode cX5_many 16 = .ok (.ireturn, 1) := by decide +kernel
theorem dX5_many_17 : decode cX5_many 17 = .ok (.aload_n 0, 1) := by decide +kernel
theorem dX5_many_18 : decode cX5_many 18 = .ok (.getfield 19, 3) := by decide +kernel
theorem dX5_many_21 : decode cX5_many 21 = .ok (.getfield 135, 3) := by decide +kernel
theorem dX5_many_24 : decode cX5_many 24 = .ok (.invokevirtual 171, 3) := by decide +kernel
theorem dX5_many_27 : decode cX5_many 27 = .ok (.bipush 9, 2) := by decide +kernel
theorem dX5_many_29 : decode cX5_many 29 = .ok (.isub, 1) := by decide +kernel
theorem dX5_many_30 : decode cX5_many 30 = .ok (.iload_n 1, 1) := by decide +kernel
theorem dX5_many_31 : decode cX5_many 31 = .ok (.iconst 1, 1) := by decide +kernel
theorem dX5_many_32 : decode cX5_many 32 = .ok (.iadd, 1) := by decide +kernel
theorem dX5_many_33 : decode cX5_many 33 = .ok (.imul, 1) := by decide +kernel
theorem dX5_many_34 : decode cX5_many 34 = .ok (.iload_n 1, 1) := by decide +kernel
theorem dX5_many_35 : decode cX5_many 35 = .ok (.idiv, 1) := by decide +kernel
theorem dX5_many_36 : decode cX5_many 36 = .ok (.iconst 1, 1) := by decide +kernel
theorem dX5_many_37 : decode cX5_many 37 = .ok (.isub, 1) := by decide +kernel
theorem dX5_many_38 : decode cX5_many 38 = .ok (.ireturn, 1) := by decide +kernel
set_option maxRecDepth 20000 in
theorem ggX5_more_X1_worthBeyondFriend : GoodIn wsX5_more wsX1_worthBeyondFriend := goodIn_r _ [5, 6, 7, 8, 9, 10, 11, 3, 12, 13, 14, 15, 16, 17, 18, 19, 20, 21, 22, 23, 24, 25, 26, 27, 28, 29, 30, 31, 32, 33, 34, 35, 36, 37, 38, 39, 40, 41, 54, 55, 56, 57, 58, 59, 60, 61, 62] (by decide +kernel) (by decide +kernel)
set_option maxRecDepth 20000 in
theorem gX5_more_X1_worthBeyondFriend_n174 : GoodIn wsX5_more (wsX1_worthBeyondFriend) := ggX5_more_X1_worthBeyondFriend
theorem dX5_more_0 : decode cX5_more 0 = .ok (.aload_n 0, 1) := by decide +kernel
theorem dX5_more_1 : decode cX5_more 1 = .ok (.getfield 19, 3) := by decide +kernel
theorem dX5_more_4 : decode cX5_more 4 = .ok (.getfield 63, 3) := by decide +kernel
theorem dX5_more_7 : decode cX5_more 7 = .ok (.invokevirtual 174, 3) := by decide +kernel
theorem dX5_more_10 : decode cX5_more 10 = .ok (.ireturn, 1) := by decide +kernel
set_option maxRecDepth 20000 in
theorem ggX5_seeds_X5_refuse : GoodIn wsX5_seeds wsX5_refuse := goodIn_r _ [6, 7, 73, 74, 75, 76, 77, 78, 79, 80, 81] (by decide +kernel) (by decide +kernel)
set_option maxRecDepth 20000 in
theorem gX5_seeds_X5_refuse : GoodIn wsX5_seeds (wsV RX5 47 RX5 yX5_refuse wsX5_refuse) := goodIn_app (goodIn_of _ (by decide +kernel)) ggX5_seeds_X5_refuse
set_option maxRecDepth 20000 in
theorem ggX5_seeds_X4_drawnWorth : GoodIn wsX5_seeds wsX4_drawnWorth := goodIn_r _ [11, 12, 13, 14, 15, 16, 17, 18, 19, 9, 20, 21, 22, 23, 24, 25, 26, 27, 28, 29, 30, 31, 32, 33, 34, 35, 36, 37, 38, 39, 40, 41, 42, 43, 44, 45, 46, 47, 48, 49, 50, 51, 52, 53, 54, 55, 56, 57, 58, 59, 60, 61, 62, 63, 64, 65, 66, 67, 68, 69, 70, 71, 72, 82, 83, 84, 85, 86, 87, 88, 89, 90, 91, 92, 93] (by decide +kernel) (by decide +kernel)
set_option maxRecDepth 20000 in
theorem gX5_seeds_X4_drawnWorth_n177 : GoodIn wsX5_seeds (wsX4_drawnWorth) := ggX5_seeds_X4_drawnWorth
theorem dX5_seeds_0 : decode cX5_seeds 0 = .ok (.iload_n 1, 1) := by decide +kernel
theorem dX5_seeds_1 : decode cX5_seeds 1 = .ok (.iconst 1, 1) := by decide +kernel
theorem dX5_seeds_2 : decode cX5_seeds 2 = .ok (.if_icmp .ge 10, 3) := by decide +kernel
theorem dX5_seeds_5 : decode cX5_seeds 5 = .ok (.aload_n 0, 1) := by decide +kernel
theorem dX5_seeds_6 : decode cX5_seeds 6 = .ok (.bipush (-4), 2) := by decide +kernel
theorem dX5_seeds_8 : decode cX5_seeds 8 = .ok (.invokevirtual 47, 3) := by decide +kernel
theorem dX5_seeds_11 : decode cX5_seeds 11 = .ok (.ireturn, 1) := by decide +kernel
theorem dX5_seeds_12 : decode cX5_seeds 12 = .ok (.iload_n 1, 1) := by decide +kernel
theorem dX5_seeds_13 : decode cX5_seeds 13 = .ok (.bipush 30, 2) := by decide +kernel
theorem dX5_seeds_15 : decode cX5_seeds 15 = .ok (.if_icmp .le 10, 3) := by decide +kernel
theorem dX5_seeds_18 : decode cX5_seeds 18 = .ok (.aload_n 0, 1) := by decide +kernel
theorem dX5_seeds_19 : decode cX5_seeds 19 = .ok (.bipush (-6), 2) := by decide +kernel
theorem dX5_seeds_21 : decode cX5_seeds 21 = .ok (.invokevirtual 47, 3) := by decide +kernel
theorem dX5_seeds_24 : decode cX5_seeds 24 = .ok (.ireturn, 1) := by decide +kernel
theorem dX5_seeds_25 : decode cX5_seeds 25 = .ok (.aload_n 0, 1) := by decide +kernel
theorem dX5_seeds_26 : decode cX5_seeds 26 = .ok (.getfield 19, 3) := by decide +kernel
theorem dX5_seeds_29 : decode cX5_seeds 29 = .ok (.iload_n 1, 1) := by decide +kernel
theorem dX5_seeds_30 : decode cX5_seeds 30 = .ok (.iload_n 2, 1) := by decide +kernel
theorem dX5_seeds_31 : decode cX5_seeds 31 = .ok (.invokevirtual 177, 3) := by decide +kernel
theorem dX5_seeds_34 : decode cX5_seeds 34 = .ok (.ireturn, 1) := by decide +kernel
set_option maxRecDepth 20000 in
theorem ggX5_row_X5_refuse : GoodIn wsX5_row wsX5_refuse := goodIn_r _ [7, 8, 9, 10, 11, 12, 13, 14, 15, 16, 17] (by decide +kernel) (by decide +kernel)
set_option maxRecDepth 20000 in
theorem gX5_row_X5_refuse : GoodIn wsX5_row (wsV RX5 47 RX5 yX5_refuse wsX5_refuse) := goodIn_app (goodIn_of _ (by decide +kernel)) ggX5_row_X5_refuse
theorem dX5_row_0 : decode cX5_row 0 = .ok (.iload_n 1, 1) := by decide +kernel
theorem dX5_row_1 : decode cX5_row 1 = .ok (.ifCond .ge 10, 3) := by decide +kernel
theorem dX5_row_4 : decode cX5_row 4 = .ok (.aload_n 0, 1) := by decide +kernel
theorem dX5_row_5 : decode cX5_row 5 = .ok (.bipush (-4), 2) := by decide +kernel
theorem dX5_row_7 : decode cX5_row 7 = .ok (.invokevirtual 47, 3) := by decide +kernel
theorem dX5_row_10 : decode cX5_row 10 = .ok (.ireturn, 1) := by decide +kernel
theorem dX5_row_11 : decode cX5_row 11 = .ok (.iload_n 1, 1) := by decide +kernel
theorem dX5_row_12 : decode cX5_row 12 = .ok (.bipush 9, 2) := by decide +kernel
theorem dX5_row_14 : decode cX5_row 14 = .ok (.if_icmp .gt 12, 3) := by decide +kernel
theorem dX5_row_17 : decode cX5_row 17 = .ok (.aload_n 0, 1) := by decide +kernel
theorem dX5_row_18 : decode cX5_row 18 = .ok (.getfield 180, 3) := by decide +kernel
theorem dX5_row_21 : decode cX5_row 21 = .ok (.bipush 14, 2) := by decide +kernel
theorem dX5_row_23 : decode cX5_row 23 = .ok (.if_icmp .lt 10, 3) := by decide +kernel
theorem dX5_row_26 : decode cX5_row 26 = .ok (.aload_n 0, 1) := by decide +kernel
theorem dX5_row_27 : decode cX5_row 27 = .ok (.bipush (-6), 2) := by decide +kernel
theorem dX5_row_29 : decode cX5_row 29 = .ok (.invokevirtual 47, 3) := by decide +kernel
theorem dX5_row_32 : decode cX5_row 32 = .ok (.ireturn, 1) := by decide +kernel
theorem dX5_row_33 : decode cX5_row 33 = .ok (.aload_n 0, 1) := by decide +kernel
theorem dX5_row_34 : decode cX5_row 34 = .ok (.getfield 40, 3) := by decide +kernel
theorem dX5_row_37 : decode cX5_row 37 = .ok (.aload_n 0, 1) := by decide +kernel
theorem dX5_row_38 : decode cX5_row 38 = .ok (.getfield 180, 3) := by decide +kernel
theorem dX5_row_41 : decode cX5_row 41 = .ok (.iload_n 1, 1) := by decide +kernel
theorem dX5_row_42 : decode cX5_row 42 = .ok (.iastore, 1) := by decide +kernel
theorem dX5_row_43 : decode cX5_row 43 = .ok (.aload_n 0, 1) := by decide +kernel
theorem dX5_row_44 : decode cX5_row 44 = .ok (.dup, 1) := by decide +kernel
theorem dX5_row_45 : decode cX5_row 45 = .ok (.getfield 180, 3) := by decide +kernel
theorem dX5_row_48 : decode cX5_row 48 = .ok (.iconst 1, 1) := by decide +kernel
theorem dX5_row_49 : decode cX5_row 49 = .ok (.iadd, 1) := by decide +kernel
theorem dX5_row_50 : decode cX5_row 50 = .ok (.putfield 180, 3) := by decide +kernel
theorem dX5_row_53 : decode cX5_row 53 = .ok (.aload_n 0, 1) := by decide +kernel
theorem dX5_row_54 : decode cX5_row 54 = .ok (.getfield 180, 3) := by decide +kernel
theorem dX5_row_57 : decode cX5_row 57 = .ok (.ireturn, 1) := by decide +kernel
set_option maxRecDepth 20000 in
theorem ggX5_judge_X1_knows : GoodIn wsX5_judge wsX1_knows := goodIn_r _ [7, 8, 38, 39, 40, 41, 42, 43, 44, 45, 46] (by decide +kernel) (by decide +kernel)
set_option maxRecDepth 20000 in
theorem gX5_judge_X1_knows_n66 : GoodIn wsX5_judge (wsX1_knows) := ggX5_judge_X1_knows
set_option maxRecDepth 20000 in
theorem ggX5_judge_X5_refuse : GoodIn wsX5_judge wsX5_refuse := goodIn_r _ [13, 14, 26, 27, 28, 29, 30, 31, 32, 33, 34] (by decide +kernel) (by decide +kernel)
set_option maxRecDepth 20000 in
theorem gX5_judge_X5_refuse : GoodIn wsX5_judge (wsV RX5 47 RX5 yX5_refuse wsX5_refuse) := goodIn_app (goodIn_of _ (by decide +kernel)) ggX5_judge_X5_refuse
set_option maxRecDepth 20000 in
theorem ggX5_judge_X1_placeOn : GoodIn wsX5_judge wsX1_placeOn := goodIn_r _ [17, 18, 19, 20, 4, 6, 5, 7, 8, 21, 22, 23, 24, 25, 38, 39, 40, 41, 42, 43, 44, 45, 46] (by decide +kernel) (by decide +kernel)
set_option maxRecDepth 20000 in
theorem gX5_judge_X1_placeOn_n95 : GoodIn wsX5_judge (wsX1_placeOn) := ggX5_judge_X1_placeOn
theorem dX5_judge_0 : decode cX5_judge 0 = .ok (.aload_n 0, 1) := by decide +kernel
theorem dX5_judge_1 : decode cX5_judge 1 = .ok (.getfield 19, 3) := by decide +kernel
theorem dX5_judge_4 : decode cX5_judge 4 = .ok (.getfield 63, 3) := by decide +kernel
theorem dX5_judge_7 : decode cX5_judge 7 = .ok (.iload_n 1, 1) := by decide +kernel
theorem dX5_judge_8 : decode cX5_judge 8 = .ok (.invokevirtual 66, 3) := by decide +kernel
theorem dX5_judge_11 : decode cX5_judge 11 = .ok (.ifCond .ne 9, 3) := by decide +kernel
theorem dX5_judge_14 : decode cX5_judge 14 = .ok (.aload_n 0, 1) := by decide +kernel
theorem dX5_judge_15 : decode cX5_judge 15 = .ok (.iconst (-1), 1) := by decide +kernel
theorem dX5_judge_16 : decode cX5_judge 16 = .ok (.invokevirtual 47, 3) := by decide +kernel
theorem dX5_judge_19 : decode cX5_judge 19 = .ok (.ireturn, 1) := by decide +kernel
theorem dX5_judge_20 : decode cX5_judge 20 = .ok (.aload_n 0, 1) := by decide +kernel
theorem dX5_judge_21 : decode cX5_judge 21 = .ok (.getfield 180, 3) := by decide +kernel
theorem dX5_judge_24 : decode cX5_judge 24 = .ok (.istore_n 2, 1) := by decide +kernel
theorem dX5_judge_25 : decode cX5_judge 25 = .ok (.aload_n 0, 1) := by decide +kernel
theorem dX5_judge_26 : decode cX5_judge 26 = .ok (.iconst 0, 1) := by decide +kernel
theorem dX5_judge_27 : decode cX5_judge 27 = .ok (.putfield 180, 3) := by decide +kernel
theorem dX5_judge_30 : decode cX5_judge 30 = .ok (.iconst 0, 1) := by decide +kernel
theorem dX5_judge_31 : decode cX5_judge 31 = .ok (.istore_n 3, 1) := by decide +kernel
theorem dX5_judge_32 : decode cX5_judge 32 = .ok (.iload_n 3, 1) := by decide +kernel
theorem dX5_judge_33 : decode cX5_judge 33 = .ok (.iload_n 2, 1) := by decide +kernel
theorem dX5_judge_34 : decode cX5_judge 34 = .ok (.if_icmp .ge 46, 3) := by decide +kernel
theorem dX5_judge_37 : decode cX5_judge 37 = .ok (.iload_n 3, 1) := by decide +kernel
theorem dX5_judge_38 : decode cX5_judge 38 = .ok (.bipush 14, 2) := by decide +kernel
theorem dX5_judge_40 : decode cX5_judge 40 = .ok (.if_icmp .ge 40, 3) := by decide +kernel
theorem dX5_judge_43 : decode cX5_judge 43 = .ok (.aload_n 0, 1) := by decide +kernel
theorem dX5_judge_44 : decode cX5_judge 44 = .ok (.getfield 40, 3) := by decide +kernel
theorem dX5_judge_47 : decode cX5_judge 47 = .ok (.iload_n 3, 1) := by decide +kernel
theorem dX5_judge_48 : decode cX5_judge 48 = .ok (.iaload, 1) := by decide +kernel
theorem dX5_judge_49 : decode cX5_judge 49 = .ok (.aload_n 0, 1) := by decide +kernel
theorem dX5_judge_50 : decode cX5_judge 50 = .ok (.getfield 19, 3) := by decide +kernel
theorem dX5_judge_53 : decode cX5_judge 53 = .ok (.getfield 63, 3) := by decide +kernel
theorem dX5_judge_56 : decode cX5_judge 56 = .ok (.iload_n 1, 1) := by decide +kernel
theorem dX5_judge_57 : decode cX5_judge 57 = .ok (.aload_n 0, 1) := by decide +kernel
theorem dX5_judge_58 : decode cX5_judge 58 = .ok (.getfield 19, 3) := by decide +kernel
theorem dX5_judge_61 : decode cX5_judge 61 = .ok (.getfield 104, 3) := by decide +kernel
theorem dX5_judge_64 : decode cX5_judge 64 = .ok (.iload_n 3, 1) := by decide +kernel
theorem dX5_judge_65 : decode cX5_judge 65 = .ok (.iadd, 1) := by decide +kernel
theorem dX5_judge_66 : decode cX5_judge 66 = .ok (.invokevirtual 95, 3) := by decide +kernel
theorem dX5_judge_69 : decode cX5_judge 69 = .ok (.if_icmp .eq 5, 3) := by decide +kernel
theorem dX5_judge_72 : decode cX5_judge 72 = .ok (.iload_n 3, 1) := by decide +kernel
theorem dX5_judge_73 : decode cX5_judge 73 = .ok (.ireturn, 1) := by decide +kernel
theorem dX5_judge_74 : decode cX5_judge 74 = .ok (.iinc 3 1, 3) := by decide +kernel
theorem dX5_judge_77 : decode cX5_judge 77 = .ok (.goto (-45), 3) := by decide +kernel
theorem dX5_judge_80 : decode cX5_judge 80 = .ok (.bipush (-9), 2) := by decide +kernel
theorem dX5_judge_82 : decode cX5_judge 82 = .ok (.ireturn, 1) := by decide +kernel
set_option maxRecDepth 20000 in
theorem ggX5_image_X4_copyFrom : GoodIn wsX5_image wsX4_copyFrom := goodIn_r _ [7, 8, 9, 10, 11, 12, 13, 14, 15, 16, 17, 18, 19, 20, 21, 22, 23, 24, 25, 26, 27, 28, 29, 30, 31, 32, 33, 34, 35, 36, 37, 47, 48, 49, 50, 51, 52, 53, 54, 55, 56, 57, 58, 59, 60, 61, 62, 63] (by decide +kernel) (by decide +kernel)
set_option maxRecDepth 20000 in
theorem gX5_image_X4_copyFrom_n183 : GoodIn wsX5_image (wsX4_copyFrom) := ggX5_image_X4_copyFrom
theorem dX5_image_0 : decode cX5_image 0 = .ok (.aload_n 0, 1) := by decide +kernel
theorem dX5_image_1 : decode cX5_image 1 = .ok (.getfield 23, 3) := by decide +kernel
theorem dX5_image_4 : decode cX5_image 4 = .ok (.aload_n 0, 1) := by decide +kernel
theorem dX5_image_5 : decode cX5_image 5 = .ok (.getfield 19, 3) := by decide +kernel
theorem dX5_image_8 : decode cX5_image 8 = .ok (.invokevirtual 183, 3) := by decide +kernel
theorem dX5_image_11 : decode cX5_image 11 = .ok (.aload_n 0, 1) := by decide +kernel
theorem dX5_image_12 : decode cX5_image 12 = .ok (.iconst 1, 1) := by decide +kernel
theorem dX5_image_13 : decode cX5_image 13 = .ok (.putfield 187, 3) := by decide +kernel
theorem dX5_image_16 : decode cX5_image 16 = .ok (.aload_n 0, 1) := by decide +kernel
theorem dX5_image_17 : decode cX5_image 17 = .ok (.getfield 19, 3) := by decide +kernel
theorem dX5_image_20 : decode cX5_image 20 = .ok (.getfield 104, 3) := by decide +kernel
theorem dX5_image_23 : decode cX5_image 23 = .ok (.ireturn, 1) := by decide +kernel
set_option maxRecDepth 20000 in
theorem ggX5_on_X5_refuse : GoodIn wsX5_on wsX5_refuse := goodIn_r _ [8, 9, 44, 45, 46, 47, 48, 49, 50, 51, 52] (by decide +kernel) (by decide +kernel)
set_option maxRecDepth 20000 in
theorem gX5_on_X5_refuse : GoodIn wsX5_on (wsV RX5 47 RX5 yX5_refuse wsX5_refuse) := goodIn_app (goodIn_of _ (by decide +kernel)) ggX5_on_X5_refuse
set_option maxRecDepth 20000 in
theorem ggX5_on_X4_copyFrom : GoodIn wsX5_on wsX4_copyFrom := goodIn_r _ [13, 14, 15, 16, 17, 18, 19, 20, 21, 22, 23, 24, 25, 26, 27, 28, 29, 30, 31, 32, 33, 34, 35, 36, 37, 38, 39, 40, 41, 42, 43, 53, 54, 55, 56, 57, 58, 59, 60, 61, 62, 63, 64, 65, 66, 67, 68, 69] (by decide +kernel) (by decide +kernel)
set_option maxRecDepth 20000 in
theorem gX5_on_X4_copyFrom_n183 : GoodIn wsX5_on (wsX4_copyFrom) := ggX5_on_X4_copyFrom
theorem dX5_on_0 : decode cX5_on 0 = .ok (.aload_n 0, 1) := by decide +kernel
theorem dX5_on_1 : decode cX5_on 1 = .ok (.getfield 187, 3) := by decide +kernel
theorem dX5_on_4 : decode cX5_on 4 = .ok (.ifCond .ne 10, 3) := by decide +kernel
theorem dX5_on_7 : decode cX5_on 7 = .ok (.aload_n 0, 1) := by decide +kernel
theorem dX5_on_8 : decode cX5_on 8 = .ok (.bipush (-3), 2) := by decide +kernel
theorem dX5_on_10 : decode cX5_on 10 = .ok (.invokevirtual 47, 3) := by decide +kernel
theorem dX5_on_13 : decode cX5_on 13 = .ok (.ireturn, 1) := by decide +kernel
theorem dX5_on_14 : decode cX5_on 14 = .ok (.aload_n 0, 1) := by decide +kernel
theorem dX5_on_15 : decode cX5_on 15 = .ok (.getfield 19, 3) := by decide +kernel
theorem dX5_on_18 : decode cX5_on 18 = .ok (.aload_n 0, 1) := by decide +kernel
theorem dX5_on_19 : decode cX5_on 19 = .ok (.getfield 23, 3) := by decide +kernel
theorem dX5_on_22 : decode cX5_on 22 = .ok (.invokevirtual 183, 3) := by decide +kernel
theorem dX5_on_25 : decode cX5_on 25 = .ok (.aload_n 0, 1) := by decide +kernel
theorem dX5_on_26 : decode cX5_on 26 = .ok (.getfield 19, 3) := by decide +kernel
theorem dX5_on_29 : decode cX5_on 29 = .ok (.getfield 104, 3) := by decide +kernel
theorem dX5_on_32 : decode cX5_on 32 = .ok (.ireturn, 1) := by decide +kernel
set_option maxRecDepth 20000 in
theorem ggX5_count_J6_bitCount_0f7a4 : GoodIn wsX5_count wsJ6_bitCount_0f7a4 := goodIn_r _ [8, 9, 10, 11] (by decide +kernel) (by decide +kernel)
set_option maxRecDepth 20000 in
theorem gX5_count_J6_bitCount_0f7a4 : GoodIn wsX5_count (va_wsS RX5 155 yJ6_bitCount_0f7a4 wsJ6_bitCount_0f7a4) := goodIn_app (goodIn_of _ (by decide +kernel)) ggX5_count_J6_bitCount_0f7a4
set_option maxRecDepth 20000 in
theorem ggX5_count_X1_worthOfAllNew : GoodIn wsX5_count wsX1_worthOfAllNew := goodIn_r _ [15, 16, 17, 18, 13, 19, 20, 21, 22, 23, 24, 25, 26, 27, 28, 29, 30, 31, 32, 33, 34, 35, 36, 37, 38, 39, 40, 41, 42, 43, 44, 45, 46, 47, 48, 6, 7, 8, 9, 10, 11, 61, 62, 63, 64, 65, 66, 67, 68, 69] (by decide +kernel) (by decide +kernel)
set_option maxRecDepth 20000 in
theorem gX5_count_X1_worthOfAllNew_n132 : GoodIn wsX5_count (wsX1_worthOfAllNew) := ggX5_count_X1_worthOfAllNew
theorem dX5_count_0 : decode cX5_count 0 = .ok (.iload_n 1, 1) := by decide +kernel
theorem dX5_count_1 : decode cX5_count 1 = .ok (.tableswitch 129 0 7 #[47, 58, 66, 80, 91, 102, 107, 115], 47) := by decide +kernel
theorem dX5_count_48 : decode cX5_count 48 = .ok (.aload_n 0, 1) := by decide +kernel
theorem dX5_count_49 : decode cX5_count 49 = .ok (.getfield 19, 3) := by decide +kernel
theorem dX5_count_52 : decode cX5_count 52 = .ok (.getfield 63, 3) := by decide +kernel
theorem dX5_count_55 : decode cX5_count 55 = .ok (.getfield 163, 3) := by decide +kernel
theorem dX5_count_58 : decode cX5_count 58 = .ok (.ireturn, 1) := by decide +kernel
theorem dX5_count_59 : decode cX5_count 59 = .ok (.aload_n 0, 1) := by decide +kernel
theorem dX5_count_60 : decode cX5_count 60 = .ok (.getfield 19, 3) := by decide +kernel
theorem dX5_count_63 : decode cX5_count 63 = .ok (.getfield 104, 3) := by decide +kernel
theorem dX5_count_66 : decode cX5_count 66 = .ok (.ireturn, 1) := by decide +kernel
theorem dX5_count_67 : decode cX5_count 67 = .ok (.aload_n 0, 1) := by decide +kernel
theorem dX5_count_68 : decode cX5_count 68 = .ok (.getfield 19, 3) := by decide +kernel
theorem dX5_count_71 : decode cX5_count 71 = .ok (.getfield 63, 3) := by decide +kernel
theorem dX5_count_74 : decode cX5_count 74 = .ok (.getfield 81, 3) := by decide +kernel
theorem dX5_count_77 : decode cX5_count 77 = .ok (.invokestatic 155, 3) := by decide +kernel
theorem dX5_count_80 : decode cX5_count 80 = .ok (.ireturn, 1) := by decide +kernel
theorem dX5_count_81 : decode cX5_count 81 = .ok (.aload_n 0, 1) := by decide +kernel
theorem dX5_count_82 : decode cX5_count 82 = .ok (.getfield 19, 3) := by decide +kernel
theorem dX5_count_85 : decode cX5_count 85 = .ok (.getfield 63, 3) := by decide +kernel
theorem dX5_count_88 : decode cX5_count 88 = .ok (.invokevirtual 132, 3) := by decide +kernel
theorem dX5_count_91 : decode cX5_count 91 = .ok (.ireturn, 1) := by decide +kernel
theorem dX5_count_92 : decode cX5_count 92 = .ok (.aload_n 0, 1) := by decide +kernel
theorem dX5_count_93 : decode cX5_count 93 = .ok (.getfield 19, 3) := by decide +kernel
theorem dX5_count_96 : decode cX5_count 96 = .ok (.getfield 135, 3) := by decide +kernel
theorem dX5_count_99 : decode cX5_count 99 = .ok (.getfield 144, 3) := by decide +kernel
theorem dX5_count_102 : decode cX5_count 102 = .ok (.ireturn, 1) := by decide +kernel
theorem dX5_count_103 : decode cX5_count 103 = .ok (.aload_n 0, 1) := by decide +kernel
theorem dX5_count_104 : decode cX5_count 104 = .ok (.getfield 180, 3) := by decide +kernel
theorem dX5_count_107 : decode cX5_count 107 = .ok (.ireturn, 1) := by decide +kernel
theorem dX5_count_108 : decode cX5_count 108 = .ok (.aload_n 0, 1) := by decide +kernel
theorem dX5_count_109 : decode cX5_count 109 = .ok (.getfield 10, 3) := by decide +kernel
theorem dX5_count_112 : decode cX5_count 112 = .ok (.getfield 55, 3) := by decide +kernel
theorem dX5_count_115 : decode cX5_count 115 = .ok (.ireturn, 1) := by decide +kernel
theorem dX5_count_116 : decode cX5_count 116 = .ok (.aload_n 0, 1) := by decide +kernel
theorem dX5_count_117 : decode cX5_count 117 = .ok (.getfield 19, 3) := by decide +kernel
theorem dX5_count_120 : decode cX5_count 120 = .ok (.getfield 63, 3) := by decide +kernel
theorem dX5_count_123 : decode cX5_count 123 = .ok (.getfield 84, 3) := by decide +kernel
theorem dX5_count_126 : decode cX5_count 126 = .ok (.invokestatic 155, 3) := by decide +kernel
theorem dX5_count_129 : decode cX5_count 129 = .ok (.ireturn, 1) := by decide +kernel
theorem dX5_count_130 : decode cX5_count 130 = .ok (.iload_n 1, 1) := by decide +kernel
theorem dX5_count_131 : decode cX5_count 131 = .ok (.bipush 10, 2) := by decide +kernel
theorem dX5_count_133 : decode cX5_count 133 = .ok (.if_icmp .le 21, 3) := by decide +kernel
theorem dX5_count_136 : decode cX5_count 136 = .ok (.iload_n 1, 1) := by decide +kernel
theorem dX5_count_137 : decode cX5_count 137 = .ok (.bipush 16, 2) := by decide +kernel
theorem dX5_count_139 : decode cX5_count 139 = .ok (.if_icmp .gt 15, 3) := by decide +kernel
theorem dX5_count_142 : decode cX5_count 142 = .ok (.aload_n 0, 1) := by decide +kernel
theorem dX5_count_143 : decode cX5_count 143 = .ok (.getfield 44, 3) := by decide +kernel
theorem dX5_count_146 : decode cX5_count 146 = .ok (.iload_n 1, 1) := by decide +kernel
theorem dX5_count_147 : decode cX5_count 147 = .ok (.bipush 11, 2) := by decide +kernel
theorem dX5_count_149 : decode cX5_count 149 = .ok (.isub, 1) := by decide +kernel
theorem dX5_count_150 : decode cX5_count 150 = .ok (.iaload, 1) := by decide +kernel
theorem dX5_count_151 : decode cX5_count 151 = .ok (.goto 5, 3) := by decide +kernel
theorem dX5_count_154 : decode cX5_count 154 = .ok (.bipush (-9), 2) := by decide +kernel
theorem dX5_count_156 : decode cX5_count 156 = .ok (.ireturn, 1) := by decide +kernel
theorem dX5_refuse_0 : decode cX5_refuse 0 = .ok (.iload_n 1, 1) := by decide +kernel
theorem dX5_refuse_1 : decode cX5_refuse 1 = .ok (.ifCond .ge 22, 3) := by decide +kernel
theorem dX5_refuse_4 : decode cX5_refuse 4 = .ok (.iload_n 1, 1) := by decide +kernel
theorem dX5_refuse_5 : decode cX5_refuse 5 = .ok (.bipush (-6), 2) := by decide +kernel
theorem dX5_refuse_7 : decode cX5_refuse 7 = .ok (.if_icmp .lt 16, 3) := by decide +kernel
theorem dX5_refuse_10 : decode cX5_refuse 10 = .ok (.aload_n 0, 1) := by decide +kernel
theorem dX5_refuse_11 : decode cX5_refuse 11 = .ok (.getfield 44, 3) := by decide +kernel
theorem dX5_refuse_14 : decode cX5_refuse 14 = .ok (.iload_n 1, 1) := by decide +kernel
theorem dX5_refuse_15 : decode cX5_refuse 15 = .ok (.ineg, 1) := by decide +kernel
theorem dX5_refuse_16 : decode cX5_refuse 16 = .ok (.iconst 1, 1) := by decide +kernel
theorem dX5_refuse_17 : decode cX5_refuse 17 = .ok (.isub, 1) := by decide +kernel
theorem dX5_refuse_18 : decode cX5_refuse 18 = .ok (.dup2, 1) := by decide +kernel
theorem dX5_refuse_19 : decode cX5_refuse 19 = .ok (.iaload, 1) := by decide +kernel
theorem dX5_refuse_20 : decode cX5_refuse 20 = .ok (.iconst 1, 1) := by decide +kernel
theorem dX5_refuse_21 : decode cX5_refuse 21 = .ok (.iadd, 1) := by decide +kernel
theorem dX5_refuse_22 : decode cX5_refuse 22 = .ok (.iastore, 1) := by decide +kernel
theorem dX5_refuse_23 : decode cX5_refuse 23 = .ok (.iload_n 1, 1) := by decide +kernel
theorem dX5_refuse_24 : decode cX5_refuse 24 = .ok (.ireturn, 1) := by decide +kernel
theorem dX5_isPlace_0 : decode cX5_isPlace 0 = .ok (.iload_n 0, 1) := by decide +kernel
theorem dX5_isPlace_1 : decode cX5_isPlace 1 = .ok (.ifCond .lt 12, 3) := by decide +kernel
theorem dX5_isPlace_4 : decode cX5_isPlace 4 = .ok (.iload_n 0, 1) := by decide +kernel
theorem dX5_isPlace_5 : decode cX5_isPlace 5 = .ok (.iconst 5, 1) := by decide +kernel
theorem dX5_isPlace_6 : decode cX5_isPlace 6 = .ok (.if_icmp .ge 7, 3) := by decide +kernel
theorem dX5_isPlace_9 : decode cX5_isPlace 9 = .ok (.iconst 1, 1) := by decide +kernel
theorem dX5_isPlace_10 : decode cX5_isPlace 10 = .ok (.goto 4, 3) := by decide +kernel
theorem dX5_isPlace_13 : decode cX5_isPlace 13 = .ok (.iconst 0, 1) := by decide +kernel
theorem dX5_isPlace_14 : decode cX5_isPlace 14 = .ok (.ireturn, 1) := by decide +kernel
set_option maxRecDepth 20000 in
theorem ggX5_landTold_X2_stuckPlace : GoodIn wsX5_landTold wsX2_stuckPlace := goodIn_r _ [7, 8, 9, 10, 11, 5, 12, 13, 14, 15, 16, 17, 18, 19, 20, 21, 22, 23, 24, 25, 26, 27, 28, 29, 30, 31, 32, 33, 34, 35, 36, 37, 38, 39, 40, 41, 42, 43, 44, 45, 46, 47, 48, 49, 50, 51, 52, 53, 54, 55, 56, 57, 58, 59, 60, 61, 62, 63, 64, 65, 66, 67, 68, 69, 70, 71, 72, 73, 74, 75, 76, 77, 78, 79, 80, 81, 82, 83, 84, 85, 86, 87, 88, 89, 90, 91, 92, 93, 94, 95, 96, 97, 98, 99, 100, 101, 102, 103, 104, 105, 106, 107, 108, 109, 110, 111, 112, 113, 114, 115, 116, 117, 118, 119, 120, 121, 122, 123, 124, 125, 126, 127, 128, 129, 130, 131, 132, 133, 134, 135, 136, 137, 138, 139, 140, 141, 142, 205, 206] (by decide +kernel) (by decide +kernel)
set_option maxRecDepth 20000 in
theorem gX5_landTold_X2_stuckPlace_n191 : GoodIn wsX5_landTold (wsX2_stuckPlace) := ggX5_landTold_X2_stuckPlace
set_option maxRecDepth 20000 in
theorem ggX5_landTold_X1_copyFrom : GoodIn wsX5_landTold wsX1_copyFrom := goodIn_r _ [146, 147, 148, 149, 150, 151, 152, 153, 154, 155, 156, 157, 158, 159, 207, 208, 209, 210, 211, 212, 213, 214, 215] (by decide +kernel) (by decide +kernel)
set_option maxRecDepth 20000 in
theorem gX5_landTold_X1_copyFrom_n194 : GoodIn wsX5_landTold (wsX1_copyFrom) := ggX5_landTold_X1_copyFrom
set_option maxRecDepth 20000 in
theorem ggX5_landTold_X2_sign : GoodIn wsX5_landTold wsX2_sign := goodIn_r _ [12, 8, 13, 205, 206] (by decide +kernel) (by decide +kernel)
set_option maxRecDepth 20000 in
theorem gX5_landTold_X2_sign_n197 : GoodIn wsX5_landTold (wsX2_sign) := ggX5_landTold_X2_sign
set_option maxRecDepth 20000 in
theorem ggX5_landTold_X1_takes : GoodIn wsX5_landTold wsX1_takes := goodIn_r _ [162, 158, 159, 163, 5, 164, 165, 74, 75, 76, 77, 9, 10, 11, 12, 8, 13, 166, 167, 168, 144, 169, 156, 170, 171, 172, 173, 147, 174, 175, 176, 177, 178, 179, 180, 181, 155, 152, 153, 154, 157, 182, 183, 184, 79, 80, 81, 82, 83, 84, 20, 85, 86, 87, 88, 89, 22, 37, 38, 39, 40, 31, 32, 90, 24, 25, 26, 27, 28, 29, 30, 91, 92, 43, 93, 94, 95, 96, 97, 98, 99, 100, 101, 102, 103, 104, 105, 106, 107, 108, 55, 109, 110, 111, 112, 113, 114, 115, 116, 117, 118, 60, 61, 62, 119, 120, 121, 48, 122, 123, 51, 124, 125, 126, 127, 64, 65, 66, 67, 68, 69, 128, 129, 130, 131, 132, 133, 134, 135, 136, 137, 138, 139, 140, 141, 142, 185, 186, 187, 188, 189, 190, 191, 192, 207, 208, 209, 210, 211, 212, 213, 214, 215, 205, 206] (by decide +kernel) (by decide +kernel)
set_option maxRecDepth 20000 in
theorem gX5_landTold_X1_takes_n200 : GoodIn wsX5_landTold (wsX1_takes) := ggX5_landTold_X1_takes
theorem dX5_landTold_0 : decode cX5_landTold 0 = .ok (.aload_n 0, 1) := by decide +kernel
theorem dX5_landTold_1 : decode cX5_landTold 1 = .ok (.getfield 10, 3) := by decide +kernel
theorem dX5_landTold_4 : decode cX5_landTold 4 = .ok (.invokevirtual 191, 3) := by decide +kernel
theorem dX5_landTold_7 : decode cX5_landTold 7 = .ok (.istore_n 1, 1) := by decide +kernel
theorem dX5_landTold_8 : decode cX5_landTold 8 = .ok (.iload_n 1, 1) := by decide +kernel
theorem dX5_landTold_9 : decode cX5_landTold 9 = .ok (.ifCond .lt 9, 3) := by decide +kernel
theorem dX5_landTold_12 : decode cX5_landTold 12 = .ok (.sipush (-1000), 3) := by decide +kernel
theorem dX5_landTold_15 : decode cX5_landTold 15 = .ok (.iload_n 1, 1) := by decide +kernel
theorem dX5_landTold_16 : decode cX5_landTold 16 = .ok (.isub, 1) := by decide +kernel
theorem dX5_landTold_17 : decode cX5_landTold 17 = .ok (.ireturn, 1) := by decide +kernel
theorem dX5_landTold_18 : decode cX5_landTold 18 = .ok (.aload_n 0, 1) := by decide +kernel
theorem dX5_landTold_19 : decode cX5_landTold 19 = .ok (.getfield 29, 3) := by decide +kernel
theorem dX5_landTold_22 : decode cX5_landTold 22 = .ok (.aload_n 0, 1) := by decide +kernel
theorem dX5_landTold_23 : decode cX5_landTold 23 = .ok (.getfield 19, 3) := by decide +kernel
theorem dX5_landTold_26 : decode cX5_landTold 26 = .ok (.getfield 63, 3) := by decide +kernel
theorem dX5_landTold_29 : decode cX5_landTold 29 = .ok (.invokevirtual 194, 3) := by decide +kernel
theorem dX5_landTold_32 : decode cX5_landTold 32 = .ok (.iconst 0, 1) := by decide +kernel
theorem dX5_landTold_33 : decode cX5_landTold 33 = .ok (.istore_n 2, 1) := by decide +kernel
theorem dX5_landTold_34 : decode cX5_landTold 34 = .ok (.iconst 0, 1) := by decide +kernel
theorem dX5_landTold_35 : decode cX5_landTold 35 = .ok (.istore_n 3, 1) := by decide +kernel
theorem dX5_landTold_36 : decode cX5_landTold 36 = .ok (.iconst 0, 1) := by decide +kernel
theorem dX5_landTold_37 : decode cX5_landTold 37 = .ok (.istore 4, 2) := by decide +kernel
theorem dX5_landTold_39 : decode cX5_landTold 39 = .ok (.iload 4, 2) := by decide +kernel
theorem dX5_landTold_41 : decode cX5_landTold 41 = .ok (.aload_n 0, 1) := by decide +kernel
theorem dX5_landTold_42 : decode cX5_landTold 42 = .ok (.getfield 10, 3) := by decide +kernel
theorem dX5_landTold_45 : decode cX5_landTold 45 = .ok (.getfield 55, 3) := by decide +kernel
theorem dX5_landTold_48 : decode cX5_landTold 48 = .ok (.if_icmp .ge 52, 3) := by decide +kernel
theorem dX5_landTold_51 : decode cX5_landTold 51 = .ok (.aload_n 0, 1) := by decide +kernel
theorem dX5_landTold_52 : decode cX5_landTold 52 = .ok (.getfield 10, 3) := by decide +kernel
theorem dX5_landTold_55 : decode cX5_landTold 55 = .ok (.iload 4, 2) := by decide +kernel
theorem dX5_landTold_57 : decode cX5_landTold 57 = .ok (.invokevirtual 197, 3) := by decide +kernel
theorem dX5_landTold_60 : decode cX5_landTold 60 = .ok (.bipush 59, 2) := by decide +kernel
theorem dX5_landTold_62 : decode cX5_landTold 62 = .ok (.if_icmp .ne 32, 3) := by decide +kernel
theorem dX5_landTold_65 : decode cX5_landTold 65 = .ok (.aload_n 0, 1) := by decide +kernel
theorem dX5_landTold_66 : decode cX5_landTold 66 = .ok (.getfield 29, 3) := by decide +kernel
theorem dX5_landTold_69 : decode cX5_landTold 69 = .ok (.aload_n 0, 1) := by decide +kernel
theorem dX5_landTold_70 : decode cX5_landTold 70 = .ok (.getfield 10, 3) := by decide +kernel
theorem dX5_landTold_73 : decode cX5_landTold 73 = .ok (.iload_n 3, 1) := by decide +kernel
theorem dX5_landTold_74 : decode cX5_landTold 74 = .ok (.invokevirtual 200, 3) := by decide +kernel
theorem dX5_landTold_77 : decode cX5_landTold 77 = .ok (.ifCond .ne 9, 3) := by decide +kernel
theorem dX5_landTold_80 : decode cX5_landTold 80 = .ok (.sipush (-2000), 3) := by decide +kernel
theorem dX5_landTold_83 : decode cX5_landTold 83 = .ok (.iload_n 3, 1) := by decide +kernel
theorem dX5_landTold_84 : decode cX5_landTold 84 = .ok (.isub, 1) := by decide +kernel
theorem dX5_landTold_85 : decode cX5_landTold 85 = .ok (.ireturn, 1) := by decide +kernel
theorem dX5_landTold_86 : decode cX5_landTold 86 = .ok (.iinc 2 1, 3) := by decide +kernel
theorem dX5_landTold_89 : decode cX5_landTold 89 = .ok (.iload 4, 2) := by decide +kernel
theorem dX5_landTold_91 : decode cX5_landTold 91 = .ok (.iconst 1, 1) := by decide +kernel
theorem dX5_landTold_92 : decode cX5_landTold 92 = .ok (.iadd, 1) := by decide +kernel
theorem dX5_landTold_93 : decode cX5_landTold 93 = .ok (.istore_n 3, 1) := by decide +kernel
theorem dX5_landTold_94 : decode cX5_landTold 94 = .ok (.iinc 4 1, 3) := by decide +kernel
theorem dX5_landTold_97 : decode cX5_landTold 97 = .ok (.goto (-58), 3) := by decide +kernel
theorem dX5_landTold_100 : decode cX5_landTold 100 = .ok (.aload_n 0, 1) := by decide +kernel
theorem dX5_landTold_101 : decode cX5_landTold 101 = .ok (.getfield 19, 3) := by decide +kernel
theorem dX5_landTold_104 : decode cX5_landTold 104 = .ok (.getfield 63, 3) := by decide +kernel
theorem dX5_landTold_107 : decode cX5_landTold 107 = .ok (.aload_n 0, 1) := by decide +kernel
theorem dX5_landTold_108 : decode cX5_landTold 108 = .ok (.getfield 29, 3) := by decide +kernel
theorem dX5_landTold_111 : decode cX5_landTold 111 = .ok (.invokevirtual 194, 3) := by decide +kernel
theorem dX5_landTold_114 : decode cX5_landTold 114 = .ok (.iload_n 2, 1) := by decide +kernel
theorem dX5_landTold_115 : decode cX5_landTold 115 = .ok (.ireturn, 1) := by decide +kernel
