theorem dX6_init_0 : decode cX6_init 0 = .ok (.aload_n 0, 1) := by decide +kernel
theorem dX6_init_1 : decode cX6_init 1 = .ok (.invokespecial 1, 3) := by decide +kernel
theorem dX6_init_4 : decode cX6_init 4 = .ok (.aload_n 0, 1) := by decide +kernel
theorem dX6_init_5 : decode cX6_init 5 = .ok (.bipush 7, 2) := by decide +kernel
theorem dX6_init_7 : decode cX6_init 7 = .ok (.newarray .int, 2) := by decide +kernel
theorem dX6_init_9 : decode cX6_init 9 = .ok (.putfield 7, 3) := by decide +kernel
theorem dX6_init_12 : decode cX6_init 12 = .ok (.aload_n 0, 1) := by decide +kernel
theorem dX6_init_13 : decode cX6_init 13 = .ok (.sipush 130, 3) := by decide +kernel
theorem dX6_init_16 : decode cX6_init 16 = .ok (.newarray .int, 2) := by decide +kernel
theorem dX6_init_18 : decode cX6_init 18 = .ok (.putfield 13, 3) := by decide +kernel
theorem dX6_init_21 : decode cX6_init 21 = .ok (.aload_n 0, 1) := by decide +kernel
theorem dX6_init_22 : decode cX6_init 22 = .ok (.sipush 130, 3) := by decide +kernel
theorem dX6_init_25 : decode cX6_init 25 = .ok (.newarray .int, 2) := by decide +kernel
theorem dX6_init_27 : decode cX6_init 27 = .ok (.putfield 16, 3) := by decide +kernel
theorem dX6_init_30 : decode cX6_init 30 = .ok (.aload_n 0, 1) := by decide +kernel
theorem dX6_init_31 : decode cX6_init 31 = .ok (.sipush 130, 3) := by decide +kernel
theorem dX6_init_34 : decode cX6_init 34 = .ok (.newarray .int, 2) := by decide +kernel
theorem dX6_init_36 : decode cX6_init 36 = .ok (.putfield 19, 3) := by decide +kernel
theorem dX6_init_39 : decode cX6_init 39 = .ok (.aload_n 0, 1) := by decide +kernel
theorem dX6_init_40 : decode cX6_init 40 = .ok (.bipush 64, 2) := by decide +kernel
theorem dX6_init_42 : decode cX6_init 42 = .ok (.newarray .int, 2) := by decide +kernel
theorem dX6_init_44 : decode cX6_init 44 = .ok (.putfield 22, 3) := by decide +kernel
theorem dX6_init_47 : decode cX6_init 47 = .ok (.aload_n 0, 1) := by decide +kernel
theorem dX6_init_48 : decode cX6_init 48 = .ok (.bipush 10, 2) := by decide +kernel
theorem dX6_init_50 : decode cX6_init 50 = .ok (.newarray .int, 2) := by decide +kernel
theorem dX6_init_52 : decode cX6_init 52 = .ok (.putfield 25, 3) := by decide +kernel
theorem dX6_init_55 : decode cX6_init 55 = .ok (.aload_n 0, 1) := by decide +kernel
theorem dX6_init_56 : decode cX6_init 56 = .ok (.iconst 5, 1) := by decide +kernel
theorem dX6_init_57 : decode cX6_init 57 = .ok (.newarray .int, 2) := by decide +kernel
theorem dX6_init_59 : decode cX6_init 59 = .ok (.putfield 28, 3) := by decide +kernel
theorem dX6_init_62 : decode cX6_init 62 = .ok (.aload_n 0, 1) := by decide +kernel
theorem dX6_init_63 : decode cX6_init 63 = .ok (.iconst 5, 1) := by decide +kernel
theorem dX6_init_64 : decode cX6_init 64 = .ok (.newarray .int, 2) := by decide +kernel
theorem dX6_init_66 : decode cX6_init 66 = .ok (.putfield 31, 3) := by decide +kernel
theorem dX6_init_69 : decode cX6_init 69 = .ok (.aload_n 0, 1) := by decide +kernel
theorem dX6_init_70 : decode cX6_init 70 = .ok (.bipush 14, 2) := by decide +kernel
theorem dX6_init_72 : decode cX6_init 72 = .ok (.newarray .int, 2) := by decide +kernel
theorem dX6_init_74 : decode cX6_init 74 = .ok (.putfield 34, 3) := by decide +kernel
theorem dX6_init_77 : decode cX6_init 77 = .ok (.return_, 1) := by decide +kernel
theorem dX6_refuse_0 : decode cX6_refuse 0 = .ok (.aload_n 0, 1) := by decide +kernel
theorem dX6_refuse_1 : decode cX6_refuse 1 = .ok (.getfield 7, 3) := by decide +kernel
theorem dX6_refuse_4 : decode cX6_refuse 4 = .ok (.iload_n 1, 1) := by decide +kernel
theorem dX6_refuse_5 : decode cX6_refuse 5 = .ok (.ineg, 1) := by decide +kernel
theorem dX6_refuse_6 : decode cX6_refuse 6 = .ok (.dup2, 1) := by decide +kernel
theorem dX6_refuse_7 : decode cX6_refuse 7 = .ok (.iaload, 1) := by decide +kernel
theorem dX6_refuse_8 : decode cX6_refuse 8 = .ok (.iconst 1, 1) := by decide +kernel
theorem dX6_refuse_9 : decode cX6_refuse 9 = .ok (.iadd, 1) := by decide +kernel
theorem dX6_refuse_10 : decode cX6_refuse 10 = .ok (.iastore, 1) := by decide +kernel
theorem dX6_refuse_11 : decode cX6_refuse 11 = .ok (.iload_n 1, 1) := by decide +kernel
theorem dX6_refuse_12 : decode cX6_refuse 12 = .ok (.ireturn, 1) := by decide +kernel
theorem dX6_isIn_0 : decode cX6_isIn 0 = .ok (.iload_n 0, 1) := by decide +kernel
theorem dX6_isIn_1 : decode cX6_isIn 1 = .ok (.ifCond .lt 12, 3) := by decide +kernel
theorem dX6_isIn_4 : decode cX6_isIn 4 = .ok (.iload_n 0, 1) := by decide +kernel
theorem dX6_isIn_5 : decode cX6_isIn 5 = .ok (.iload_n 1, 1) := by decide +kernel
theorem dX6_isIn_6 : decode cX6_isIn 6 = .ok (.if_icmp .ge 7, 3) := by decide +kernel
theorem dX6_isIn_9 : decode cX6_isIn 9 = .ok (.iconst 1, 1) := by decide +kernel
theorem dX6_isIn_10 : decode cX6_isIn 10 = .ok (.goto 4, 3) := by decide +kernel
theorem dX6_isIn_13 : decode cX6_isIn 13 = .ok (.iconst 0, 1) := by decide +kernel
theorem dX6_isIn_14 : decode cX6_isIn 14 = .ok (.ireturn, 1) := by decide +kernel
theorem dX6_within_0 : decode cX6_within 0 = .ok (.iload_n 0, 1) := by decide +kernel
theorem dX6_within_1 : decode cX6_within 1 = .ok (.iload_n 1, 1) := by decide +kernel
theorem dX6_within_2 : decode cX6_within 2 = .ok (.if_icmp .ge 8, 3) := by decide +kernel
theorem dX6_within_5 : decode cX6_within 5 = .ok (.bipush (-4), 2) := by decide +kernel
theorem dX6_within_7 : decode cX6_within 7 = .ok (.goto 14, 3) := by decide +kernel
theorem dX6_within_10 : decode cX6_within 10 = .ok (.iload_n 0, 1) := by decide +kernel
theorem dX6_within_11 : decode cX6_within 11 = .ok (.iload_n 2, 1) := by decide +kernel
theorem dX6_within_12 : decode cX6_within 12 = .ok (.if_icmp .le 8, 3) := by decide +kernel
theorem dX6_within_15 : decode cX6_within 15 = .ok (.bipush (-6), 2) := by decide +kernel
theorem dX6_within_17 : decode cX6_within 17 = .ok (.goto 4, 3) := by decide +kernel
theorem dX6_within_20 : decode cX6_within 20 = .ok (.iconst 0, 1) := by decide +kernel
theorem dX6_within_21 : decode cX6_within 21 = .ok (.ireturn, 1) := by decide +kernel
theorem dX6_amount_0 : decode cX6_amount 0 = .ok (.iload_n 0, 1) := by decide +kernel
theorem dX6_amount_1 : decode cX6_amount 1 = .ok (.ifCond .ge 8, 3) := by decide +kernel
theorem dX6_amount_4 : decode cX6_amount 4 = .ok (.iload_n 0, 1) := by decide +kernel
theorem dX6_amount_5 : decode cX6_amount 5 = .ok (.ineg, 1) := by decide +kernel
theorem dX6_amount_6 : decode cX6_amount 6 = .ok (.goto 4, 3) := by decide +kernel
theorem dX6_amount_9 : decode cX6_amount 9 = .ok (.iload_n 0, 1) := by decide +kernel
theorem dX6_amount_10 : decode cX6_amount 10 = .ok (.ireturn, 1) := by decide +kernel
theorem dX6_copies_0 : decode cX6_copies 0 = .ok (.iconst 0, 1) := by decide +kernel
theorem dX6_copies_1 : decode cX6_copies 1 = .ok (.istore_n 2, 1) := by decide +kernel
theorem dX6_copies_2 : decode cX6_copies 2 = .ok (.iload_n 2, 1) := by decide +kernel
theorem dX6_copies_3 : decode cX6_copies 3 = .ok (.sipush 130, 3) := by decide +kernel
theorem dX6_copies_6 : decode cX6_copies 6 = .ok (.if_icmp .ge 15, 3) := by decide +kernel
theorem dX6_copies_9 : decode cX6_copies 9 = .ok (.aload_n 1, 1) := by decide +kernel
theorem dX6_copies_10 : decode cX6_copies 10 = .ok (.iload_n 2, 1) := by decide +kernel
theorem dX6_copies_11 : decode cX6_copies 11 = .ok (.aload_n 0, 1) := by decide +kernel
theorem dX6_copies_12 : decode cX6_copies 12 = .ok (.iload_n 2, 1) := by decide +kernel
theorem dX6_copies_13 : decode cX6_copies 13 = .ok (.iaload, 1) := by decide +kernel
theorem dX6_copies_14 : decode cX6_copies 14 = .ok (.iastore, 1) := by decide +kernel
theorem dX6_copies_15 : decode cX6_copies 15 = .ok (.iinc 2 1, 3) := by decide +kernel
theorem dX6_copies_18 : decode cX6_copies 18 = .ok (.goto (-16), 3) := by decide +kernel
theorem dX6_copies_21 : decode cX6_copies 21 = .ok (.return_, 1) := by decide +kernel
theorem dX6_bits_0 : decode cX6_bits 0 = .ok (.iconst 0, 1) := by decide +kernel
theorem dX6_bits_1 : decode cX6_bits 1 = .ok (.istore_n 1, 1) := by decide +kernel
theorem dX6_bits_2 : decode cX6_bits 2 = .ok (.iload_n 0, 1) := by decide +kernel
theorem dX6_bits_3 : decode cX6_bits 3 = .ok (.istore_n 2, 1) := by decide +kernel
theorem dX6_bits_4 : decode cX6_bits 4 = .ok (.iload_n 2, 1) := by decide +kernel
theorem dX6_bits_5 : decode cX6_bits 5 = .ok (.ifCond .le 16, 3) := by decide +kernel
theorem dX6_bits_8 : decode cX6_bits 8 = .ok (.iload_n 1, 1) := by decide +kernel
theorem dX6_bits_9 : decode cX6_bits 9 = .ok (.iload_n 2, 1) := by decide +kernel
theorem dX6_bits_10 : decode cX6_bits 10 = .ok (.iconst 1, 1) := by decide +kernel
theorem dX6_bits_11 : decode cX6_bits 11 = .ok (.iand, 1) := by decide +kernel
theorem dX6_bits_12 : decode cX6_bits 12 = .ok (.iadd, 1) := by decide +kernel
theorem dX6_bits_13 : decode cX6_bits 13 = .ok (.istore_n 1, 1) := by decide +kernel
theorem dX6_bits_14 : decode cX6_bits 14 = .ok (.iload_n 2, 1) := by decide +kernel
theorem dX6_bits_15 : decode cX6_bits 15 = .ok (.iconst 1, 1) := by decide +kernel
theorem dX6_bits_16 : decode cX6_bits 16 = .ok (.ishr, 1) := by decide +kernel
theorem dX6_bits_17 : decode cX6_bits 17 = .ok (.istore_n 2, 1) := by decide +kernel
theorem dX6_bits_18 : decode cX6_bits 18 = .ok (.goto (-14), 3) := by decide +kernel
theorem dX6_bits_21 : decode cX6_bits 21 = .ok (.iload_n 1, 1) := by decide +kernel
theorem dX6_bits_22 : decode cX6_bits 22 = .ok (.ireturn, 1) := by decide +kernel
set_option maxRecDepth 20000 in
theorem ggX6_isEngine_X6_isIn : GoodIn wsX6_isEngine wsX6_isIn := goodIn_r _ [5] (by decide +kernel) (by decide +kernel)
set_option maxRecDepth 20000 in
theorem gX6_isEngine_X6_isIn : GoodIn wsX6_isEngine (va_wsS RX6 37 yX6_isIn wsX6_isIn) := goodIn_app (goodIn_of _ (by decide +kernel)) ggX6_isEngine_X6_isIn
theorem dX6_isEngine_0 : decode cX6_isEngine 0 = .ok (.iload_n 1, 1) := by decide +kernel
theorem dX6_isEngine_1 : decode cX6_isEngine 1 = .ok (.aload_n 0, 1) := by decide +kernel
theorem dX6_isEngine_2 : decode cX6_isEngine 2 = .ok (.getfield 13, 3) := by decide +kernel
theorem dX6_isEngine_5 : decode cX6_isEngine 5 = .ok (.iconst 0, 1) := by decide +kernel
theorem dX6_isEngine_6 : decode cX6_isEngine 6 = .ok (.iaload, 1) := by decide +kernel
theorem dX6_isEngine_7 : decode cX6_isEngine 7 = .ok (.invokestatic 37, 3) := by decide +kernel
theorem dX6_isEngine_10 : decode cX6_isEngine 10 = .ok (.ireturn, 1) := by decide +kernel
theorem dX6_get_0 : decode cX6_get 0 = .ok (.aload_n 0, 1) := by decide +kernel
theorem dX6_get_1 : decode cX6_get 1 = .ok (.getfield 13, 3) := by decide +kernel
theorem dX6_get_4 : decode cX6_get 4 = .ok (.iconst 5, 1) := by decide +kernel
theorem dX6_get_5 : decode cX6_get 5 = .ok (.bipush 11, 2) := by decide +kernel
theorem dX6_get_7 : decode cX6_get 7 = .ok (.iload_n 1, 1) := by decide +kernel
theorem dX6_get_8 : decode cX6_get 8 = .ok (.imul, 1) := by decide +kernel
theorem dX6_get_9 : decode cX6_get 9 = .ok (.iadd, 1) := by decide +kernel
theorem dX6_get_10 : decode cX6_get 10 = .ok (.iload_n 2, 1) := by decide +kernel
theorem dX6_get_11 : decode cX6_get 11 = .ok (.iadd, 1) := by decide +kernel
theorem dX6_get_12 : decode cX6_get 12 = .ok (.iaload, 1) := by decide +kernel
theorem dX6_get_13 : decode cX6_get 13 = .ok (.ireturn, 1) := by decide +kernel
set_option maxRecDepth 20000 in
theorem ggX6_letter_X6_within : GoodIn wsX6_letter wsX6_within := goodIn_r _ [6] (by decide +kernel) (by decide +kernel)
set_option maxRecDepth 20000 in
theorem gX6_letter_X6_within : GoodIn wsX6_letter (va_wsS RX6 41 yX6_within wsX6_within) := goodIn_app (goodIn_of _ (by decide +kernel)) ggX6_letter_X6_within
set_option maxRecDepth 20000 in
theorem ggX6_letter_X6_refuse : GoodIn wsX6_letter wsX6_refuse := goodIn_r _ [10, 11, 12, 13, 14, 15, 16, 17, 18, 19, 20, 21, 22, 23, 24, 25] (by decide +kernel) (by decide +kernel)
set_option maxRecDepth 20000 in
theorem gX6_letter_X6_refuse : GoodIn wsX6_letter (wsV RX6 49 RX6 yX6_refuse wsX6_refuse) := goodIn_app (goodIn_of _ (by decide +kernel)) ggX6_letter_X6_refuse
theorem dX6_letter_0 : decode cX6_letter 0 = .ok (.iload_n 1, 1) := by decide +kernel
theorem dX6_letter_1 : decode cX6_letter 1 = .ok (.iconst 0, 1) := by decide +kernel
theorem dX6_letter_2 : decode cX6_letter 2 = .ok (.sipush 255, 3) := by decide +kernel
theorem dX6_letter_5 : decode cX6_letter 5 = .ok (.invokestatic 41, 3) := by decide +kernel
theorem dX6_letter_8 : decode cX6_letter 8 = .ok (.istore_n 2, 1) := by decide +kernel
theorem dX6_letter_9 : decode cX6_letter 9 = .ok (.iload_n 2, 1) := by decide +kernel
theorem dX6_letter_10 : decode cX6_letter 10 = .ok (.ifCond .ne 15, 3) := by decide +kernel
theorem dX6_letter_13 : decode cX6_letter 13 = .ok (.aload_n 0, 1) := by decide +kernel
theorem dX6_letter_14 : decode cX6_letter 14 = .ok (.getfield 45, 3) := by decide +kernel
theorem dX6_letter_17 : decode cX6_letter 17 = .ok (.bipush 64, 2) := by decide +kernel
theorem dX6_letter_19 : decode cX6_letter 19 = .ok (.if_icmp .ne 6, 3) := by decide +kernel
theorem dX6_letter_22 : decode cX6_letter 22 = .ok (.bipush (-6), 2) := by decide +kernel
theorem dX6_letter_24 : decode cX6_letter 24 = .ok (.istore_n 2, 1) := by decide +kernel
theorem dX6_letter_25 : decode cX6_letter 25 = .ok (.iload_n 2, 1) := by decide +kernel
theorem dX6_letter_26 : decode cX6_letter 26 = .ok (.ifCond .eq 9, 3) := by decide +kernel
theorem dX6_letter_29 : decode cX6_letter 29 = .ok (.aload_n 0, 1) := by decide +kernel
theorem dX6_letter_30 : decode cX6_letter 30 = .ok (.iload_n 2, 1) := by decide +kernel
theorem dX6_letter_31 : decode cX6_letter 31 = .ok (.invokevirtual 49, 3) := by decide +kernel
theorem dX6_letter_34 : decode cX6_letter 34 = .ok (.ireturn, 1) := by decide +kernel
theorem dX6_letter_35 : decode cX6_letter 35 = .ok (.aload_n 0, 1) := by decide +kernel
theorem dX6_letter_36 : decode cX6_letter 36 = .ok (.getfield 22, 3) := by decide +kernel
theorem dX6_letter_39 : decode cX6_letter 39 = .ok (.aload_n 0, 1) := by decide +kernel
theorem dX6_letter_40 : decode cX6_letter 40 = .ok (.getfield 45, 3) := by decide +kernel
theorem dX6_letter_43 : decode cX6_letter 43 = .ok (.iload_n 1, 1) := by decide +kernel
theorem dX6_letter_44 : decode cX6_letter 44 = .ok (.iastore, 1) := by decide +kernel
theorem dX6_letter_45 : decode cX6_letter 45 = .ok (.aload_n 0, 1) := by decide +kernel
theorem dX6_letter_46 : decode cX6_letter 46 = .ok (.dup, 1) := by decide +kernel
theorem dX6_letter_47 : decode cX6_letter 47 = .ok (.getfield 45, 3) := by decide +kernel
theorem dX6_letter_50 : decode cX6_letter 50 = .ok (.iconst 1, 1) := by decide +kernel
theorem dX6_letter_51 : decode cX6_letter 51 = .ok (.iadd, 1) := by decide +kernel
theorem dX6_letter_52 : decode cX6_letter 52 = .ok (.putfield 45, 3) := by decide +kernel
theorem dX6_letter_55 : decode cX6_letter 55 = .ok (.aload_n 0, 1) := by decide +kernel
theorem dX6_letter_56 : decode cX6_letter 56 = .ok (.getfield 45, 3) := by decide +kernel
theorem dX6_letter_59 : decode cX6_letter 59 = .ok (.ireturn, 1) := by decide +kernel
theorem dX6_sign_0 : decode cX6_sign 0 = .ok (.aload_n 0, 1) := by decide +kernel
theorem dX6_sign_1 : decode cX6_sign 1 = .ok (.getfield 53, 3) := by decide +kernel
theorem dX6_sign_4 : decode cX6_sign 4 = .ok (.aload_n 0, 1) := by decide +kernel
theorem dX6_sign_5 : decode cX6_sign 5 = .ok (.getfield 45, 3) := by decide +kernel
theorem dX6_sign_8 : decode cX6_sign 8 = .ok (.if_icmp .ge 15, 3) := by decide +kernel
theorem dX6_sign_11 : decode cX6_sign 11 = .ok (.aload_n 0, 1) := by decide +kernel
theorem dX6_sign_12 : decode cX6_sign 12 = .ok (.getfield 22, 3) := by decide +kernel
theorem dX6_sign_15 : decode cX6_sign 15 = .ok (.aload_n 0, 1) := by decide +kernel
theorem dX6_sign_16 : decode cX6_sign 16 = .ok (.getfield 53, 3) := by decide +kernel
theorem dX6_sign_19 : decode cX6_sign 19 = .ok (.iaload, 1) := by decide +kernel
theorem dX6_sign_20 : decode cX6_sign 20 = .ok (.goto 4, 3) := by decide +kernel
theorem dX6_sign_23 : decode cX6_sign 23 = .ok (.iconst (-1), 1) := by decide +kernel
theorem dX6_sign_24 : decode cX6_sign 24 = .ok (.ireturn, 1) := by decide +kernel
set_option maxRecDepth 20000 in
theorem ggX6_readsDigits_X6_sign : GoodIn wsX6_readsDigits wsX6_sign := goodIn_r _ [7, 2, 8, 9, 13, 14, 15, 16, 17, 18, 19, 20, 21, 22, 23, 24, 25, 26] (by decide +kernel) (by decide +kernel)
set_option maxRecDepth 20000 in
theorem gX6_readsDigits_X6_sign : GoodIn wsX6_readsDigits (wsV RX6 56 RX6 yX6_sign wsX6_sign) := goodIn_app (goodIn_of _ (by decide +kernel)) ggX6_readsDigits_X6_sign
set_option maxRecDepth 20000 in
theorem ggX6_readsDigits_X6_isIn : GoodIn wsX6_readsDigits wsX6_isIn := goodIn_r _ [12] (by decide +kernel) (by decide +kernel)
set_option maxRecDepth 20000 in
theorem gX6_readsDigits_X6_isIn : GoodIn wsX6_readsDigits (va_wsS RX6 37 yX6_isIn wsX6_isIn) := goodIn_app (goodIn_of _ (by decide +kernel)) ggX6_readsDigits_X6_isIn
theorem dX6_readsDigits_0 : decode cX6_readsDigits 0 = .ok (.aload_n 0, 1) := by decide +kernel
theorem dX6_readsDigits_1 : decode cX6_readsDigits 1 = .ok (.getfield 25, 3) := by decide +kernel
theorem dX6_readsDigits_4 : decode cX6_readsDigits 4 = .ok (.iload_n 1, 1) := by decide +kernel
theorem dX6_readsDigits_5 : decode cX6_readsDigits 5 = .ok (.iconst 0, 1) := by decide +kernel
theorem dX6_readsDigits_6 : decode cX6_readsDigits 6 = .ok (.iastore, 1) := by decide +kernel
theorem dX6_readsDigits_7 : decode cX6_readsDigits 7 = .ok (.iconst 0, 1) := by decide +kernel
theorem dX6_readsDigits_8 : decode cX6_readsDigits 8 = .ok (.istore_n 3, 1) := by decide +kernel
theorem dX6_readsDigits_9 : decode cX6_readsDigits 9 = .ok (.iload_n 3, 1) := by decide +kernel
theorem dX6_readsDigits_10 : decode cX6_readsDigits 10 = .ok (.iload_n 2, 1) := by decide +kernel
theorem dX6_readsDigits_11 : decode cX6_readsDigits 11 = .ok (.if_icmp .ge 59, 3) := by decide +kernel
theorem dX6_readsDigits_14 : decode cX6_readsDigits 14 = .ok (.aload_n 0, 1) := by decide +kernel
theorem dX6_readsDigits_15 : decode cX6_readsDigits 15 = .ok (.invokevirtual 56, 3) := by decide +kernel
theorem dX6_readsDigits_18 : decode cX6_readsDigits 18 = .ok (.bipush 48, 2) := by decide +kernel
theorem dX6_readsDigits_20 : decode cX6_readsDigits 20 = .ok (.isub, 1) := by decide +kernel
theorem dX6_readsDigits_21 : decode cX6_readsDigits 21 = .ok (.bipush 10, 2) := by decide +kernel
theorem dX6_readsDigits_23 : decode cX6_readsDigits 23 = .ok (.invokestatic 37, 3) := by decide +kernel
theorem dX6_readsDigits_26 : decode cX6_readsDigits 26 = .ok (.ifCond .ne 5, 3) := by decide +kernel
theorem dX6_readsDigits_29 : decode cX6_readsDigits 29 = .ok (.iconst 0, 1) := by decide +kernel
theorem dX6_readsDigits_30 : decode cX6_readsDigits 30 = .ok (.ireturn, 1) := by decide +kernel
theorem dX6_readsDigits_31 : decode cX6_readsDigits 31 = .ok (.aload_n 0, 1) := by decide +kernel
theorem dX6_readsDigits_32 : decode cX6_readsDigits 32 = .ok (.getfield 25, 3) := by decide +kernel
theorem dX6_readsDigits_35 : decode cX6_readsDigits 35 = .ok (.iload_n 1, 1) := by decide +kernel
theorem dX6_readsDigits_36 : decode cX6_readsDigits 36 = .ok (.bipush 10, 2) := by decide +kernel
theorem dX6_readsDigits_38 : decode cX6_readsDigits 38 = .ok (.aload_n 0, 1) := by decide +kernel
theorem dX6_readsDigits_39 : decode cX6_readsDigits 39 = .ok (.getfield 25, 3) := by decide +kernel
theorem dX6_readsDigits_42 : decode cX6_readsDigits 42 = .ok (.iload_n 1, 1) := by decide +kernel
theorem dX6_readsDigits_43 : decode cX6_readsDigits 43 = .ok (.iaload, 1) := by decide +kernel
theorem dX6_readsDigits_44 : decode cX6_readsDigits 44 = .ok (.imul, 1) := by decide +kernel
theorem dX6_readsDigits_45 : decode cX6_readsDigits 45 = .ok (.aload_n 0, 1) := by decide +kernel
theorem dX6_readsDigits_46 : decode cX6_readsDigits 46 = .ok (.invokevirtual 56, 3) := by decide +kernel
theorem dX6_readsDigits_49 : decode cX6_readsDigits 49 = .ok (.iadd, 1) := by decide +kernel
theorem dX6_readsDigits_50 : decode cX6_readsDigits 50 = .ok (.bipush 48, 2) := by decide +kernel
theorem dX6_readsDigits_52 : decode cX6_readsDigits 52 = .ok (.isub, 1) := by decide +kernel
theorem dX6_readsDigits_53 : decode cX6_readsDigits 53 = .ok (.iastore, 1) := by decide +kernel
theorem dX6_readsDigits_54 : decode cX6_readsDigits 54 = .ok (.aload_n 0, 1) := by decide +kernel
theorem dX6_readsDigits_55 : decode cX6_readsDigits 55 = .ok (.dup, 1) := by decide +kernel
theorem dX6_readsDigits_56 : decode cX6_readsDigits 56 = .ok (.getfield 53, 3) := by decide +kernel
theorem dX6_readsDigits_59 : decode cX6_readsDigits 59 = .ok (.iconst 1, 1) := by decide +kernel
theorem dX6_readsDigits_60 : decode cX6_readsDigits 60 = .ok (.iadd, 1) := by decide +kernel
theorem dX6_readsDigits_61 : decode cX6_readsDigits 61 = .ok (.putfield 53, 3) := by decide +kernel
theorem dX6_readsDigits_64 : decode cX6_readsDigits 64 = .ok (.iinc 3 1, 3) := by decide +kernel
theorem dX6_readsDigits_67 : decode cX6_readsDigits 67 = .ok (.goto (-58), 3) := by decide +kernel
theorem dX6_readsDigits_70 : decode cX6_readsDigits 70 = .ok (.iconst 1, 1) := by decide +kernel
theorem dX6_readsDigits_71 : decode cX6_readsDigits 71 = .ok (.ireturn, 1) := by decide +kernel
theorem dX6_kindOf_0 : decode cX6_kindOf 0 = .ok (.iload_n 0, 1) := by decide +kernel
theorem dX6_kindOf_1 : decode cX6_kindOf 1 = .ok (.tableswitch 126 97 120 #[113, 126, 111, 126, 126, 126, 126, 126, 126, 126, 117, 126, 126, 123, 126, 126, 126, 126, 121, 126, 126, 126, 115, 119], 111) := by decide +kernel
theorem dX6_kindOf_112 : decode cX6_kindOf 112 = .ok (.iconst 0, 1) := by decide +kernel
theorem dX6_kindOf_113 : decode cX6_kindOf 113 = .ok (.ireturn, 1) := by decide +kernel
theorem dX6_kindOf_114 : decode cX6_kindOf 114 = .ok (.iconst 1, 1) := by decide +kernel
theorem dX6_kindOf_115 : decode cX6_kindOf 115 = .ok (.ireturn, 1) := by decide +kernel
theorem dX6_kindOf_116 : decode cX6_kindOf 116 = .ok (.iconst 2, 1) := by decide +kernel
theorem dX6_kindOf_117 : decode cX6_kindOf 117 = .ok (.ireturn, 1) := by decide +kernel
theorem dX6_kindOf_118 : decode cX6_kindOf 118 = .ok (.iconst 3, 1) := by decide +kernel
theorem dX6_kindOf_119 : decode cX6_kindOf 119 = .ok (.ireturn, 1) := by decide +kernel
theorem dX6_kindOf_120 : decode cX6_kindOf 120 = .ok (.iconst 4, 1) := by decide +kernel
theorem dX6_kindOf_121 : decode cX6_kindOf 121 = .ok (.ireturn, 1) := by decide +kernel
theorem dX6_kindOf_122 : decode cX6_kindOf 122 = .ok (.iconst 5, 1) := by decide +kernel
theorem dX6_kindOf_123 : decode cX6_kindOf 123 = .ok (.ireturn, 1) := by decide +kernel
theorem dX6_kindOf_124 : decode cX6_kindOf 124 = .ok (.bipush 6, 2) := by decide +kernel
theorem dX6_kindOf_126 : decode cX6_kindOf 126 = .ok (.ireturn, 1) := by decide +kernel
theorem dX6_kindOf_127 : decode cX6_kindOf 127 = .ok (.bipush (-9), 2) := by decide +kernel
theorem dX6_kindOf_129 : decode cX6_kindOf 129 = .ok (.ireturn, 1) := by decide +kernel
set_option maxRecDepth 20000 in
theorem ggX6_readsKind_X6_sign : GoodIn wsX6_readsKind wsX6_sign := goodIn_r _ [7, 2, 8, 9, 13, 14, 15, 16, 17, 18, 19, 20, 21, 22, 23, 24, 25, 26] (by decide +kernel) (by decide +kernel)
set_option maxRecDepth 20000 in
theorem gX6_readsKind_X6_sign : GoodIn wsX6_readsKind (wsV RX6 56 RX6 yX6_sign wsX6_sign) := goodIn_app (goodIn_of _ (by decide +kernel)) ggX6_readsKind_X6_sign
set_option maxRecDepth 20000 in
theorem ggX6_readsKind_X6_kindOf : GoodIn wsX6_readsKind wsX6_kindOf := goodIn_r _ [12] (by decide +kernel) (by decide +kernel)
set_option maxRecDepth 20000 in
theorem gX6_readsKind_X6_kindOf : GoodIn wsX6_readsKind (va_wsS RX6 60 yX6_kindOf wsX6_kindOf) := goodIn_app (goodIn_of _ (by decide +kernel)) ggX6_readsKind_X6_kindOf
theorem dX6_readsKind_0 : decode cX6_readsKind 0 = .ok (.aload_n 0, 1) := by decide +kernel
theorem dX6_readsKind_1 : decode cX6_readsKind 1 = .ok (.getfield 25, 3) := by decide +kernel
theorem dX6_readsKind_4 : decode cX6_readsKind 4 = .ok (.iconst 1, 1) := by decide +kernel
theorem dX6_readsKind_5 : decode cX6_readsKind 5 = .ok (.aload_n 0, 1) := by decide +kernel
theorem dX6_readsKind_6 : decode cX6_readsKind 6 = .ok (.invokevirtual 56, 3) := by decide +kernel
theorem dX6_readsKind_9 : decode cX6_readsKind 9 = .ok (.invokestatic 60, 3) := by decide +kernel
theorem dX6_readsKind_12 : decode cX6_readsKind 12 = .ok (.iastore, 1) := by decide +kernel
theorem dX6_readsKind_13 : decode cX6_readsKind 13 = .ok (.aload_n 0, 1) := by decide +kernel
theorem dX6_readsKind_14 : decode cX6_readsKind 14 = .ok (.getfield 25, 3) := by decide +kernel
theorem dX6_readsKind_17 : decode cX6_readsKind 17 = .ok (.iconst 1, 1) := by decide +kernel
theorem dX6_readsKind_18 : decode cX6_readsKind 18 = .ok (.iaload, 1) := by decide +kernel
theorem dX6_readsKind_19 : decode cX6_readsKind 19 = .ok (.ifCond .ge 5, 3) := by decide +kernel
theorem dX6_readsKind_22 : decode cX6_readsKind 22 = .ok (.iconst 0, 1) := by decide +kernel
theorem dX6_readsKind_23 : decode cX6_readsKind 23 = .ok (.ireturn, 1) := by decide +kernel
theorem dX6_readsKind_24 : decode cX6_readsKind 24 = .ok (.aload_n 0, 1) := by decide +kernel
theorem dX6_readsKind_25 : decode cX6_readsKind 25 = .ok (.dup, 1) := by decide +kernel
theorem dX6_readsKind_26 : decode cX6_readsKind 26 = .ok (.getfield 53, 3) := by decide +kernel
theorem dX6_readsKind_29 : decode cX6_readsKind 29 = .ok (.iconst 1, 1) := by decide +kernel
theorem dX6_readsKind_30 : decode cX6_readsKind 30 = .ok (.iadd, 1) := by decide +kernel
theorem dX6_readsKind_31 : decode cX6_readsKind 31 = .ok (.putfield 53, 3) := by decide +kernel
theorem dX6_readsKind_34 : decode cX6_readsKind 34 = .ok (.iconst 1, 1) := by decide +kernel
theorem dX6_readsKind_35 : decode cX6_readsKind 35 = .ok (.ireturn, 1) := by decide +kernel
set_option maxRecDepth 20000 in
theorem ggX6_readsEngine_X6_readsDigits : GoodIn wsX6_readsEngine wsX6_readsDigits := goodIn_r _ [5, 6, 7, 8, 9, 10, 4, 11, 12, 13, 14, 15, 16, 24, 25, 26, 27, 28, 29, 30, 31, 32, 33, 34, 35, 36, 37] (by decide +kernel) (by decide +kernel)
set_option maxRecDepth 20000 in
theorem gX6_readsEngine_X6_readsDigits : GoodIn wsX6_readsEngine (wsV RX6 63 RX6 yX6_readsDigits wsX6_readsDigits) := goodIn_app (goodIn_of _ (by decide +kernel)) ggX6_readsEngine_X6_readsDigits
set_option maxRecDepth 20000 in
theorem ggX6_readsEngine_X6_readsKind : GoodIn wsX6_readsEngine wsX6_readsKind := goodIn_r _ [20, 6, 7, 8, 9, 10, 4, 11, 12, 13, 21, 22, 23, 24, 25, 26, 27, 28, 29, 30, 31, 32, 33, 34, 35, 36, 37] (by decide +kernel) (by decide +kernel)
set_option maxRecDepth 20000 in
theorem gX6_readsEngine_X6_readsKind : GoodIn wsX6_readsEngine (wsV RX6 66 RX6 yX6_readsKind wsX6_readsKind) := goodIn_app (goodIn_of _ (by decide +kernel)) ggX6_readsEngine_X6_readsKind
theorem dX6_readsEngine_0 : decode cX6_readsEngine 0 = .ok (.aload_n 0, 1) := by decide +kernel
theorem dX6_readsEngine_1 : decode cX6_readsEngine 1 = .ok (.iconst 0, 1) := by decide +kernel
theorem dX6_readsEngine_2 : decode cX6_readsEngine 2 = .ok (.iconst 2, 1) := by decide +kernel
theorem dX6_readsEngine_3 : decode cX6_readsEngine 3 = .ok (.invokevirtual 63, 3) := by decide +kernel
theorem dX6_readsEngine_6 : decode cX6_readsEngine 6 = .ok (.ifCond .eq 19, 3) := by decide +kernel
theorem dX6_readsEngine_9 : decode cX6_readsEngine 9 = .ok (.aload_n 0, 1) := by decide +kernel
theorem dX6_readsEngine_10 : decode cX6_readsEngine 10 = .ok (.invokevirtual 66, 3) := by decide +kernel
theorem dX6_readsEngine_13 : decode cX6_readsEngine 13 = .ok (.ifCond .eq 12, 3) := by decide +kernel
theorem dX6_readsEngine_16 : decode cX6_readsEngine 16 = .ok (.aload_n 0, 1) := by decide +kernel
theorem dX6_readsEngine_17 : decode cX6_readsEngine 17 = .ok (.iconst 2, 1) := by decide +kernel
theorem dX6_readsEngine_18 : decode cX6_readsEngine 18 = .ok (.iconst 1, 1) := by decide +kernel
theorem dX6_readsEngine_19 : decode cX6_readsEngine 19 = .ok (.invokevirtual 63, 3) := by decide +kernel
theorem dX6_readsEngine_22 : decode cX6_readsEngine 22 = .ok (.ifCond .ne 5, 3) := by decide +kernel
theorem dX6_readsEngine_25 : decode cX6_readsEngine 25 = .ok (.iconst 0, 1) := by decide +kernel
theorem dX6_readsEngine_26 : decode cX6_readsEngine 26 = .ok (.ireturn, 1) := by decide +kernel
theorem dX6_readsEngine_27 : decode cX6_readsEngine 27 = .ok (.iconst 0, 1) := by decide +kernel
theorem dX6_readsEngine_28 : decode cX6_readsEngine 28 = .ok (.istore_n 1, 1) := by decide +kernel
theorem dX6_readsEngine_29 : decode cX6_readsEngine 29 = .ok (.iload_n 1, 1) := by decide +kernel
theorem dX6_readsEngine_30 : decode cX6_readsEngine 30 = .ok (.bipush 7, 2) := by decide +kernel
theorem dX6_readsEngine_32 : decode cX6_readsEngine 32 = .ok (.if_icmp .ge 22, 3) := by decide +kernel
theorem dX6_readsEngine_35 : decode cX6_readsEngine 35 = .ok (.aload_n 0, 1) := by decide +kernel
theorem dX6_readsEngine_36 : decode cX6_readsEngine 36 = .ok (.iconst 3, 1) := by decide +kernel
theorem dX6_readsEngine_37 : decode cX6_readsEngine 37 = .ok (.iload_n 1, 1) := by decide +kernel
theorem dX6_readsEngine_38 : decode cX6_readsEngine 38 = .ok (.iadd, 1) := by decide +kernel
theorem dX6_readsEngine_39 : decode cX6_readsEngine 39 = .ok (.iconst 1, 1) := by decide +kernel
theorem dX6_readsEngine_40 : decode cX6_readsEngine 40 = .ok (.invokevirtual 63, 3) := by decide +kernel
theorem dX6_readsEngine_43 : decode cX6_readsEngine 43 = .ok (.ifCond .ne 5, 3) := by decide +kernel
theorem dX6_readsEngine_46 : decode cX6_readsEngine 46 = .ok (.iconst 0, 1) := by decide +kernel
theorem dX6_readsEngine_47 : decode cX6_readsEngine 47 = .ok (.ireturn, 1) := by decide +kernel
theorem dX6_readsEngine_48 : decode cX6_readsEngine 48 = .ok (.iinc 1 1, 3) := by decide +kernel
theorem dX6_readsEngine_51 : decode cX6_readsEngine 51 = .ok (.goto (-22), 3) := by decide +kernel
theorem dX6_readsEngine_54 : decode cX6_readsEngine 54 = .ok (.iconst 1, 1) := by decide +kernel
theorem dX6_readsEngine_55 : decode cX6_readsEngine 55 = .ok (.ireturn, 1) := by decide +kernel
set_option maxRecDepth 20000 in
theorem ggX6_readsStatement_X6_sign : GoodIn wsX6_readsStatement wsX6_sign := goodIn_r _ [6, 1, 7, 8, 28, 29, 30, 31, 32, 33, 34, 35, 36, 37, 38, 39, 40, 41] (by decide +kernel) (by decide +kernel)
set_option maxRecDepth 20000 in
theorem gX6_readsStatement_X6_sign : GoodIn wsX6_readsStatement (wsV RX6 56 RX6 yX6_sign wsX6_sign) := goodIn_app (goodIn_of _ (by decide +kernel)) ggX6_readsStatement_X6_sign
set_option maxRecDepth 20000 in
theorem ggX6_readsStatement_X6_readsEngine : GoodIn wsX6_readsStatement wsX6_readsEngine := goodIn_r _ [12, 13, 14, 15, 5, 16, 17, 1, 2, 3, 4, 6, 7, 8, 18, 19, 20, 21, 22, 23, 24, 25, 26, 27, 28, 29, 30, 31, 32, 33, 34, 35, 36, 37, 38, 39, 40, 41] (by decide +kernel) (by decide +kernel)
set_option maxRecDepth 20000 in
theorem gX6_readsStatement_X6_readsEngine : GoodIn wsX6_readsStatement (wsV RX6 70 RX6 yX6_readsEngine wsX6_readsEngine) := goodIn_app (goodIn_of _ (by decide +kernel)) ggX6_readsStatement_X6_readsEngine
set_option maxRecDepth 20000 in
theorem ggX6_readsStatement_X6_readsDigits : GoodIn wsX6_readsStatement wsX6_readsDigits := goodIn_r _ [16, 17, 1, 2, 3, 4, 5, 6, 7, 8, 18, 19, 20, 28, 29, 30, 31, 32, 33, 34, 35, 36, 37, 38, 39, 40, 41] (by decide +kernel) (by decide +kernel)
set_option maxRecDepth 20000 in
theorem gX6_readsStatement_X6_readsDigits : GoodIn wsX6_readsStatement (wsV RX6 63 RX6 yX6_readsDigits wsX6_readsDigits) := goodIn_app (goodIn_of _ (by decide +kernel)) ggX6_readsStatement_X6_readsDigits
theorem dX6_readsStatement_0 : decode cX6_readsStatement 0 = .ok (.aload_n 0, 1) := by decide +kernel
theorem dX6_readsStatement_1 : decode cX6_readsStatement 1 = .ok (.invokevirtual 56, 3) := by decide +kernel
theorem dX6_readsStatement_4 : decode cX6_readsStatement 4 = .ok (.istore_n 1, 1) := by decide +kernel
theorem dX6_readsStatement_5 : decode cX6_readsStatement 5 = .ok (.iconst 0, 1) := by decide +kernel
theorem dX6_readsStatement_6 : decode cX6_readsStatement 6 = .ok (.istore_n 2, 1) := by decide +kernel
theorem dX6_readsStatement_7 : decode cX6_readsStatement 7 = .ok (.aload_n 0, 1) := by decide +kernel
theorem dX6_readsStatement_8 : decode cX6_readsStatement 8 = .ok (.dup, 1) := by decide +kernel
theorem dX6_readsStatement_9 : decode cX6_readsStatement 9 = .ok (.getfield 53, 3) := by decide +kernel
theorem dX6_readsStatement_12 : decode cX6_readsStatement 12 = .ok (.iconst 1, 1) := by decide +kernel
theorem dX6_readsStatement_13 : decode cX6_readsStatement 13 = .ok (.iadd, 1) := by decide +kernel
theorem dX6_readsStatement_14 : decode cX6_readsStatement 14 = .ok (.putfield 53, 3) := by decide +kernel
theorem dX6_readsStatement_17 : decode cX6_readsStatement 17 = .ok (.iload_n 1, 1) := by decide +kernel
theorem dX6_readsStatement_18 : decode cX6_readsStatement 18 = .ok (.lookupswitch 87 #[(101, 42), (102, 77), (106, 50), (117, 77)], 42) := by decide +kernel
theorem dX6_readsStatement_60 : decode cX6_readsStatement 60 = .ok (.aload_n 0, 1) := by decide +kernel
theorem dX6_readsStatement_61 : decode cX6_readsStatement 61 = .ok (.invokevirtual 70, 3) := by decide +kernel
theorem dX6_readsStatement_64 : decode cX6_readsStatement 64 = .ok (.istore_n 2, 1) := by decide +kernel
theorem dX6_readsStatement_65 : decode cX6_readsStatement 65 = .ok (.goto 52, 3) := by decide +kernel
theorem dX6_readsStatement_68 : decode cX6_readsStatement 68 = .ok (.aload_n 0, 1) := by decide +kernel
theorem dX6_readsStatement_69 : decode cX6_readsStatement 69 = .ok (.iconst 0, 1) := by decide +kernel
theorem dX6_readsStatement_70 : decode cX6_readsStatement 70 = .ok (.iconst 2, 1) := by decide +kernel
theorem dX6_readsStatement_71 : decode cX6_readsStatement 71 = .ok (.invokevirtual 63, 3) := by decide +kernel
theorem dX6_readsStatement_74 : decode cX6_readsStatement 74 = .ok (.ifCond .eq 16, 3) := by decide +kernel
theorem dX6_readsStatement_77 : decode cX6_readsStatement 77 = .ok (.aload_n 0, 1) := by decide +kernel
theorem dX6_readsStatement_78 : decode cX6_readsStatement 78 = .ok (.iconst 1, 1) := by decide +kernel
theorem dX6_readsStatement_79 : decode cX6_readsStatement 79 = .ok (.iconst 2, 1) := by decide +kernel
theorem dX6_readsStatement_80 : decode cX6_readsStatement 80 = .ok (.invokevirtual 63, 3) := by decide +kernel
theorem dX6_readsStatement_83 : decode cX6_readsStatement 83 = .ok (.ifCond .eq 7, 3) := by decide +kernel
theorem dX6_readsStatement_86 : decode cX6_readsStatement 86 = .ok (.iconst 1, 1) := by decide +kernel
theorem dX6_readsStatement_87 : decode cX6_readsStatement 87 = .ok (.goto 4, 3) := by decide +kernel
theorem dX6_readsStatement_90 : decode cX6_readsStatement 90 = .ok (.iconst 0, 1) := by decide +kernel
theorem dX6_readsStatement_91 : decode cX6_readsStatement 91 = .ok (.istore_n 2, 1) := by decide +kernel
theorem dX6_readsStatement_92 : decode cX6_readsStatement 92 = .ok (.goto 25, 3) := by decide +kernel
theorem dX6_readsStatement_95 : decode cX6_readsStatement 95 = .ok (.aload_n 0, 1) := by decide +kernel
theorem dX6_readsStatement_96 : decode cX6_readsStatement 96 = .ok (.iconst 0, 1) := by decide +kernel
theorem dX6_readsStatement_97 : decode cX6_readsStatement 97 = .ok (.iconst 2, 1) := by decide +kernel
theorem dX6_readsStatement_98 : decode cX6_readsStatement 98 = .ok (.invokevirtual 63, 3) := by decide +kernel
theorem dX6_readsStatement_101 : decode cX6_readsStatement 101 = .ok (.istore_n 2, 1) := by decide +kernel
theorem dX6_readsStatement_102 : decode cX6_readsStatement 102 = .ok (.goto 15, 3) := by decide +kernel
theorem dX6_readsStatement_105 : decode cX6_readsStatement 105 = .ok (.aload_n 0, 1) := by decide +kernel
theorem dX6_readsStatement_106 : decode cX6_readsStatement 106 = .ok (.dup, 1) := by decide +kernel
theorem dX6_readsStatement_107 : decode cX6_readsStatement 107 = .ok (.getfield 53, 3) := by decide +kernel
theorem dX6_readsStatement_110 : decode cX6_readsStatement 110 = .ok (.iconst 1, 1) := by decide +kernel
theorem dX6_readsStatement_111 : decode cX6_readsStatement 111 = .ok (.isub, 1) := by decide +kernel
theorem dX6_readsStatement_112 : decode cX6_readsStatement 112 = .ok (.putfield 53, 3) := by decide +kernel
theorem dX6_readsStatement_115 : decode cX6_readsStatement 115 = .ok (.iconst 0, 1) := by decide +kernel
theorem dX6_readsStatement_116 : decode cX6_readsStatement 116 = .ok (.ireturn, 1) := by decide +kernel
theorem dX6_readsStatement_117 : decode cX6_readsStatement 117 = .ok (.iload_n 2, 1) := by decide +kernel
theorem dX6_readsStatement_118 : decode cX6_readsStatement 118 = .ok (.ifCond .eq 12, 3) := by decide +kernel
theorem dX6_readsStatement_121 : decode cX6_readsStatement 121 = .ok (.aload_n 0, 1) := by decide +kernel
theorem dX6_readsStatement_122 : decode cX6_readsStatement 122 = .ok (.invokevirtual 56, 3) := by decide +kernel
theorem dX6_readsStatement_125 : decode cX6_readsStatement 125 = .ok (.bipush 59, 2) := by decide +kernel
theorem dX6_readsStatement_127 : decode cX6_readsStatement 127 = .ok (.if_icmp .eq 5, 3) := by decide +kernel
theorem dX6_readsStatement_130 : decode cX6_readsStatement 130 = .ok (.iconst 0, 1) := by decide +kernel
theorem dX6_readsStatement_131 : decode cX6_readsStatement 131 = .ok (.ireturn, 1) := by decide +kernel
theorem dX6_readsStatement_132 : decode cX6_readsStatement 132 = .ok (.aload_n 0, 1) := by decide +kernel
theorem dX6_readsStatement_133 : decode cX6_readsStatement 133 = .ok (.dup, 1) := by decide +kernel
theorem dX6_readsStatement_134 : decode cX6_readsStatement 134 = .ok (.getfield 53, 3) := by decide +kernel
theorem dX6_readsStatement_137 : decode cX6_readsStatement 137 = .ok (.iconst 1, 1) := by decide +kernel
theorem dX6_readsStatement_138 : decode cX6_readsStatement 138 = .ok (.iadd, 1) := by decide +kernel
theorem dX6_readsStatement_139 : decode cX6_readsStatement 139 = .ok (.putfield 53, 3) := by decide +kernel
theorem dX6_readsStatement_142 : decode cX6_readsStatement 142 = .ok (.iconst 1, 1) := by decide +kernel
theorem dX6_readsStatement_143 : decode cX6_readsStatement 143 = .ok (.ireturn, 1) := by decide +kernel
theorem dX6_numbered_0 : decode cX6_numbered 0 = .ok (.iconst 0, 1) := by decide +kernel
theorem dX6_numbered_1 : decode cX6_numbered 1 = .ok (.istore_n 2, 1) := by decide +kernel
theorem dX6_numbered_2 : decode cX6_numbered 2 = .ok (.iload_n 2, 1) := by decide +kernel
theorem dX6_numbered_3 : decode cX6_numbered 3 = .ok (.aload_n 0, 1) := by decide +kernel
theorem dX6_numbered_4 : decode cX6_numbered 4 = .ok (.getfield 19, 3) := by decide +kernel
theorem dX6_numbered_7 : decode cX6_numbered 7 = .ok (.iconst 0, 1) := by decide +kernel
theorem dX6_numbered_8 : decode cX6_numbered 8 = .ok (.iaload, 1) := by decide +kernel
theorem dX6_numbered_9 : decode cX6_numbered 9 = .ok (.if_icmp .ge 26, 3) := by decide +kernel
theorem dX6_numbered_12 : decode cX6_numbered 12 = .ok (.aload_n 0, 1) := by decide +kernel
theorem dX6_numbered_13 : decode cX6_numbered 13 = .ok (.getfield 19, 3) := by decide +kernel
theorem dX6_numbered_16 : decode cX6_numbered 16 = .ok (.iconst 5, 1) := by decide +kernel
theorem dX6_numbered_17 : decode cX6_numbered 17 = .ok (.bipush 11, 2) := by decide +kernel
theorem dX6_numbered_19 : decode cX6_numbered 19 = .ok (.iload_n 2, 1) := by decide +kernel
theorem dX6_numbered_20 : decode cX6_numbered 20 = .ok (.imul, 1) := by decide +kernel
theorem dX6_numbered_21 : decode cX6_numbered 21 = .ok (.iadd, 1) := by decide +kernel
theorem dX6_numbered_22 : decode cX6_numbered 22 = .ok (.iaload, 1) := by decide +kernel
theorem dX6_numbered_23 : decode cX6_numbered 23 = .ok (.iload_n 1, 1) := by decide +kernel
theorem dX6_numbered_24 : decode cX6_numbered 24 = .ok (.if_icmp .ne 5, 3) := by decide +kernel
theorem dX6_numbered_27 : decode cX6_numbered 27 = .ok (.iload_n 2, 1) := by decide +kernel
theorem dX6_numbered_28 : decode cX6_numbered 28 = .ok (.ireturn, 1) := by decide +kernel
theorem dX6_numbered_29 : decode cX6_numbered 29 = .ok (.iinc 2 1, 3) := by decide +kernel
theorem dX6_numbered_32 : decode cX6_numbered 32 = .ok (.goto (-30), 3) := by decide +kernel
theorem dX6_numbered_35 : decode cX6_numbered 35 = .ok (.bipush (-9), 2) := by decide +kernel
theorem dX6_numbered_37 : decode cX6_numbered 37 = .ok (.ireturn, 1) := by decide +kernel
set_option maxRecDepth 20000 in
theorem ggX6_comes_X6_numbered : GoodIn wsX6_comes wsX6_numbered := goodIn_r _ [7, 2, 8, 9, 10, 11, 12, 13, 14, 15, 16, 17, 18, 19, 20, 21] (by decide +kernel) (by decide +kernel)
set_option maxRecDepth 20000 in
theorem gX6_comes_X6_numbered : GoodIn wsX6_comes (wsV RX6 73 RX6 yX6_numbered wsX6_numbered) := goodIn_app (goodIn_of _ (by decide +kernel)) ggX6_comes_X6_numbered
theorem dX6_comes_0 : decode cX6_comes 0 = .ok (.iload_n 1, 1) := by decide +kernel
theorem dX6_comes_1 : decode cX6_comes 1 = .ok (.bipush 101, 2) := by decide +kernel
theorem dX6_comes_3 : decode cX6_comes 3 = .ok (.if_icmp .ne 183, 3) := by decide +kernel
theorem dX6_comes_6 : decode cX6_comes 6 = .ok (.aload_n 0, 1) := by decide +kernel
theorem dX6_comes_7 : decode cX6_comes 7 = .ok (.getfield 25, 3) := by decide +kernel
theorem dX6_comes_10 : decode cX6_comes 10 = .ok (.iconst 0, 1) := by decide +kernel
theorem dX6_comes_11 : decode cX6_comes 11 = .ok (.iaload, 1) := by decide +kernel
theorem dX6_comes_12 : decode cX6_comes 12 = .ok (.bipush 10, 2) := by decide +kernel
theorem dX6_comes_14 : decode cX6_comes 14 = .ok (.if_icmp .lt 27, 3) := by decide +kernel
theorem dX6_comes_17 : decode cX6_comes 17 = .ok (.aload_n 0, 1) := by decide +kernel
theorem dX6_comes_18 : decode cX6_comes 18 = .ok (.aload_n 0, 1) := by decide +kernel
theorem dX6_comes_19 : decode cX6_comes 19 = .ok (.getfield 25, 3) := by decide +kernel
theorem dX6_comes_22 : decode cX6_comes 22 = .ok (.iconst 0, 1) := by decide +kernel
theorem dX6_comes_23 : decode cX6_comes 23 = .ok (.iaload, 1) := by decide +kernel
theorem dX6_comes_24 : decode cX6_comes 24 = .ok (.invokevirtual 73, 3) := by decide +kernel
theorem dX6_comes_27 : decode cX6_comes 27 = .ok (.ifCond .ge 14, 3) := by decide +kernel
theorem dX6_comes_30 : decode cX6_comes 30 = .ok (.aload_n 0, 1) := by decide +kernel
theorem dX6_comes_31 : decode cX6_comes 31 = .ok (.getfield 19, 3) := by decide +kernel
theorem dX6_comes_34 : decode cX6_comes 34 = .ok (.iconst 0, 1) := by decide +kernel
theorem dX6_comes_35 : decode cX6_comes 35 = .ok (.iaload, 1) := by decide +kernel
theorem dX6_comes_36 : decode cX6_comes 36 = .ok (.bipush 7, 2) := by decide +kernel
theorem dX6_comes_38 : decode cX6_comes 38 = .ok (.if_icmp .ne 5, 3) := by decide +kernel
theorem dX6_comes_41 : decode cX6_comes 41 = .ok (.iconst 0, 1) := by decide +kernel
theorem dX6_comes_42 : decode cX6_comes 42 = .ok (.ireturn, 1) := by decide +kernel
theorem dX6_comes_43 : decode cX6_comes 43 = .ok (.iconst 3, 1) := by decide +kernel
theorem dX6_comes_44 : decode cX6_comes 44 = .ok (.istore_n 2, 1) := by decide +kernel
theorem dX6_comes_45 : decode cX6_comes 45 = .ok (.iload_n 2, 1) := by decide +kernel
theorem dX6_comes_46 : decode cX6_comes 46 = .ok (.bipush 10, 2) := by decide +kernel
theorem dX6_comes_48 : decode cX6_comes 48 = .ok (.if_icmp .ge 32, 3) := by decide +kernel
theorem dX6_comes_51 : decode cX6_comes 51 = .ok (.aload_n 0, 1) := by decide +kernel
theorem dX6_comes_52 : decode cX6_comes 52 = .ok (.getfield 25, 3) := by decide +kernel
theorem dX6_comes_55 : decode cX6_comes 55 = .ok (.iload_n 2, 1) := by decide +kernel
theorem dX6_comes_56 : decode cX6_comes 56 = .ok (.iaload, 1) := by decide +kernel
theorem dX6_comes_57 : decode cX6_comes 57 = .ok (.iconst 5, 1) := by decide +kernel
theorem dX6_comes_58 : decode cX6_comes 58 = .ok (.if_icmp .lt 16, 3) := by decide +kernel
theorem dX6_comes_61 : decode cX6_comes 61 = .ok (.aload_n 0, 1) := by decide +kernel
theorem dX6_comes_62 : decode cX6_comes 62 = .ok (.getfield 25, 3) := by decide +kernel
theorem dX6_comes_65 : decode cX6_comes 65 = .ok (.iload_n 2, 1) := by decide +kernel
theorem dX6_comes_66 : decode cX6_comes 66 = .ok (.iaload, 1) := by decide +kernel
theorem dX6_comes_67 : decode cX6_comes 67 = .ok (.bipush 9, 2) := by decide +kernel
theorem dX6_comes_69 : decode cX6_comes 69 = .ok (.if_icmp .eq 5, 3) := by decide +kernel
theorem dX6_comes_72 : decode cX6_comes 72 = .ok (.iconst 0, 1) := by decide +kernel
theorem dX6_comes_73 : decode cX6_comes 73 = .ok (.ireturn, 1) := by decide +kernel
theorem dX6_comes_74 : decode cX6_comes 74 = .ok (.iinc 2 1, 3) := by decide +kernel
theorem dX6_comes_77 : decode cX6_comes 77 = .ok (.goto (-32), 3) := by decide +kernel
theorem dX6_comes_80 : decode cX6_comes 80 = .ok (.iconst 5, 1) := by decide +kernel
theorem dX6_comes_81 : decode cX6_comes 81 = .ok (.bipush 11, 2) := by decide +kernel
theorem dX6_comes_83 : decode cX6_comes 83 = .ok (.aload_n 0, 1) := by decide +kernel
theorem dX6_comes_84 : decode cX6_comes 84 = .ok (.getfield 19, 3) := by decide +kernel
theorem dX6_comes_87 : decode cX6_comes 87 = .ok (.iconst 0, 1) := by decide +kernel
theorem dX6_comes_88 : decode cX6_comes 88 = .ok (.iaload, 1) := by decide +kernel
theorem dX6_comes_89 : decode cX6_comes 89 = .ok (.imul, 1) := by decide +kernel
theorem dX6_comes_90 : decode cX6_comes 90 = .ok (.iadd, 1) := by decide +kernel
theorem dX6_comes_91 : decode cX6_comes 91 = .ok (.istore_n 2, 1) := by decide +kernel
theorem dX6_comes_92 : decode cX6_comes 92 = .ok (.aload_n 0, 1) := by decide +kernel
theorem dX6_comes_93 : decode cX6_comes 93 = .ok (.getfield 19, 3) := by decide +kernel
theorem dX6_comes_96 : decode cX6_comes 96 = .ok (.iload_n 2, 1) := by decide +kernel
theorem dX6_comes_97 : decode cX6_comes 97 = .ok (.aload_n 0, 1) := by decide +kernel
theorem dX6_comes_98 : decode cX6_comes 98 = .ok (.getfield 25, 3) := by decide +kernel
theorem dX6_comes_101 : decode cX6_comes 101 = .ok (.iconst 0, 1) := by decide +kernel
theorem dX6_comes_102 : decode cX6_comes 102 = .ok (.iaload, 1) := by decide +kernel
theorem dX6_comes_103 : decode cX6_comes 103 = .ok (.iastore, 1) := by decide +kernel
theorem dX6_comes_104 : decode cX6_comes 104 = .ok (.aload_n 0, 1) := by decide +kernel
theorem dX6_comes_105 : decode cX6_comes 105 = .ok (.getfield 19, 3) := by decide +kernel
theorem dX6_comes_108 : decode cX6_comes 108 = .ok (.iload_n 2, 1) := by decide +kernel
theorem dX6_comes_109 : decode cX6_comes 109 = .ok (.iconst 1, 1) := by decide +kernel
theorem dX6_comes_110 : decode cX6_comes 110 = .ok (.iadd, 1) := by decide +kernel
theorem dX6_comes_111 : decode cX6_comes 111 = .ok (.aload_n 0, 1) := by decide +kernel
theorem dX6_comes_112 : decode cX6_comes 112 = .ok (.getfield 25, 3) := by decide +kernel
theorem dX6_comes_115 : decode cX6_comes 115 = .ok (.iconst 1, 1) := by decide +kernel
theorem dX6_comes_116 : decode cX6_comes 116 = .ok (.iaload, 1) := by decide +kernel
theorem dX6_comes_117 : decode cX6_comes 117 = .ok (.iastore, 1) := by decide +kernel
theorem dX6_comes_118 : decode cX6_comes 118 = .ok (.aload_n 0, 1) := by decide +kernel
theorem dX6_comes_119 : decode cX6_comes 119 = .ok (.getfield 19, 3) := by decide +kernel
theorem dX6_comes_122 : decode cX6_comes 122 = .ok (.iload_n 2, 1) := by decide +kernel
theorem dX6_comes_123 : decode cX6_comes 123 = .ok (.iconst 2, 1) := by decide +kernel
theorem dX6_comes_124 : decode cX6_comes 124 = .ok (.iadd, 1) := by decide +kernel
theorem dX6_comes_125 : decode cX6_comes 125 = .ok (.aload_n 0, 1) := by decide +kernel
theorem dX6_comes_126 : decode cX6_comes 126 = .ok (.getfield 25, 3) := by decide +kernel
theorem dX6_comes_129 : decode cX6_comes 129 = .ok (.iconst 2, 1) := by decide +kernel
theorem dX6_comes_130 : decode cX6_comes 130 = .ok (.iaload, 1) := by decide +kernel
theorem dX6_comes_131 : decode cX6_comes 131 = .ok (.iastore, 1) := by decide +kernel
theorem dX6_comes_132 : decode cX6_comes 132 = .ok (.aload_n 0, 1) := by decide +kernel
theorem dX6_comes_133 : decode cX6_comes 133 = .ok (.getfield 19, 3) := by decide +kernel
theorem dX6_comes_136 : decode cX6_comes 136 = .ok (.iload_n 2, 1) := by decide +kernel
theorem dX6_comes_137 : decode cX6_comes 137 = .ok (.iconst 3, 1) := by decide +kernel
theorem dX6_comes_138 : decode cX6_comes 138 = .ok (.iadd, 1) := by decide +kernel
theorem dX6_comes_139 : decode cX6_comes 139 = .ok (.bipush (-9), 2) := by decide +kernel
theorem dX6_comes_141 : decode cX6_comes 141 = .ok (.iastore, 1) := by decide +kernel
theorem dX6_comes_142 : decode cX6_comes 142 = .ok (.iconst 0, 1) := by decide +kernel
theorem dX6_comes_143 : decode cX6_comes 143 = .ok (.istore_n 3, 1) := by decide +kernel
theorem dX6_comes_144 : decode cX6_comes 144 = .ok (.iload_n 3, 1) := by decide +kernel
theorem dX6_comes_145 : decode cX6_comes 145 = .ok (.bipush 7, 2) := by decide +kernel
theorem dX6_comes_147 : decode cX6_comes 147 = .ok (.if_icmp .ge 27, 3) := by decide +kernel
theorem dX6_comes_150 : decode cX6_comes 150 = .ok (.aload_n 0, 1) := by decide +kernel
theorem dX6_comes_151 : decode cX6_comes 151 = .ok (.getfield 19, 3) := by decide +kernel
theorem dX6_comes_154 : decode cX6_comes 154 = .ok (.iload_n 2, 1) := by decide +kernel
theorem dX6_comes_155 : decode cX6_comes 155 = .ok (.iconst 4, 1) := by decide +kernel
theorem dX6_comes_156 : decode cX6_comes 156 = .ok (.iadd, 1) := by decide +kernel
theorem dX6_comes_157 : decode cX6_comes 157 = .ok (.iload_n 3, 1) := by decide +kernel
theorem dX6_comes_158 : decode cX6_comes 158 = .ok (.iadd, 1) := by decide +kernel
theorem dX6_comes_159 : decode cX6_comes 159 = .ok (.aload_n 0, 1) := by decide +kernel
theorem dX6_comes_160 : decode cX6_comes 160 = .ok (.getfield 25, 3) := by decide +kernel
theorem dX6_comes_163 : decode cX6_comes 163 = .ok (.iconst 3, 1) := by decide +kernel
theorem dX6_comes_164 : decode cX6_comes 164 = .ok (.iload_n 3, 1) := by decide +kernel
theorem dX6_comes_165 : decode cX6_comes 165 = .ok (.iadd, 1) := by decide +kernel
theorem dX6_comes_166 : decode cX6_comes 166 = .ok (.iaload, 1) := by decide +kernel
theorem dX6_comes_167 : decode cX6_comes 167 = .ok (.iastore, 1) := by decide +kernel
theorem dX6_comes_168 : decode cX6_comes 168 = .ok (.iinc 3 1, 3) := by decide +kernel
theorem dX6_comes_171 : decode cX6_comes 171 = .ok (.goto (-27), 3) := by decide +kernel
theorem dX6_comes_174 : decode cX6_comes 174 = .ok (.aload_n 0, 1) := by decide +kernel
theorem dX6_comes_175 : decode cX6_comes 175 = .ok (.getfield 19, 3) := by decide +kernel
theorem dX6_comes_178 : decode cX6_comes 178 = .ok (.iconst 0, 1) := by decide +kernel
theorem dX6_comes_179 : decode cX6_comes 179 = .ok (.dup2, 1) := by decide +kernel
theorem dX6_comes_180 : decode cX6_comes 180 = .ok (.iaload, 1) := by decide +kernel
theorem dX6_comes_181 : decode cX6_comes 181 = .ok (.iconst 1, 1) := by decide +kernel
theorem dX6_comes_182 : decode cX6_comes 182 = .ok (.iadd, 1) := by decide +kernel
theorem dX6_comes_183 : decode cX6_comes 183 = .ok (.iastore, 1) := by decide +kernel
theorem dX6_comes_184 : decode cX6_comes 184 = .ok (.iconst 1, 1) := by decide +kernel
theorem dX6_comes_185 : decode cX6_comes 185 = .ok (.ireturn, 1) := by decide +kernel
theorem dX6_comes_186 : decode cX6_comes 186 = .ok (.aload_n 0, 1) := by decide +kernel
theorem dX6_comes_187 : decode cX6_comes 187 = .ok (.aload_n 0, 1) := by decide +kernel
theorem dX6_comes_188 : decode cX6_comes 188 = .ok (.getfield 25, 3) := by decide +kernel
theorem dX6_comes_191 : decode cX6_comes 191 = .ok (.iconst 0, 1) := by decide +kernel
theorem dX6_comes_192 : decode cX6_comes 192 = .ok (.iaload, 1) := by decide +kernel
theorem dX6_comes_193 : decode cX6_comes 193 = .ok (.invokevirtual 73, 3) := by decide +kernel
theorem dX6_comes_196 : decode cX6_comes 196 = .ok (.istore_n 2, 1) := by decide +kernel
theorem dX6_comes_197 : decode cX6_comes 197 = .ok (.iload_n 2, 1) := by decide +kernel
theorem dX6_comes_198 : decode cX6_comes 198 = .ok (.ifCond .ge 5, 3) := by decide +kernel
theorem dX6_comes_201 : decode cX6_comes 201 = .ok (.iconst 0, 1) := by decide +kernel
theorem dX6_comes_202 : decode cX6_comes 202 = .ok (.ireturn, 1) := by decide +kernel
theorem dX6_comes_203 : decode cX6_comes 203 = .ok (.iload_n 1, 1) := by decide +kernel
theorem dX6_comes_204 : decode cX6_comes 204 = .ok (.bipush 117, 2) := by decide +kernel
theorem dX6_comes_206 : decode cX6_comes 206 = .ok (.if_icmp .ne 15, 3) := by decide +kernel
theorem dX6_comes_209 : decode cX6_comes 209 = .ok (.aload_n 0, 1) := by decide +kernel
theorem dX6_comes_210 : decode cX6_comes 210 = .ok (.getfield 19, 3) := by decide +kernel
theorem dX6_comes_213 : decode cX6_comes 213 = .ok (.iconst 2, 1) := by decide +kernel
theorem dX6_comes_214 : decode cX6_comes 214 = .ok (.dup2, 1) := by decide +kernel
theorem dX6_comes_215 : decode cX6_comes 215 = .ok (.iaload, 1) := by decide +kernel
theorem dX6_comes_216 : decode cX6_comes 216 = .ok (.iconst 1, 1) := by decide +kernel
theorem dX6_comes_217 : decode cX6_comes 217 = .ok (.iload_n 2, 1) := by decide +kernel
theorem dX6_comes_218 : decode cX6_comes 218 = .ok (.ishl, 1) := by decide +kernel
theorem dX6_comes_219 : decode cX6_comes 219 = .ok (.ior, 1) := by decide +kernel
theorem dX6_comes_220 : decode cX6_comes 220 = .ok (.iastore, 1) := by decide +kernel
theorem dX6_comes_221 : decode cX6_comes 221 = .ok (.iload_n 1, 1) := by decide +kernel
theorem dX6_comes_222 : decode cX6_comes 222 = .ok (.bipush 102, 2) := by decide +kernel
theorem dX6_comes_224 : decode cX6_comes 224 = .ok (.if_icmp .ne 15, 3) := by decide +kernel
theorem dX6_comes_227 : decode cX6_comes 227 = .ok (.aload_n 0, 1) := by decide +kernel
theorem dX6_comes_228 : decode cX6_comes 228 = .ok (.getfield 19, 3) := by decide +kernel
theorem dX6_comes_231 : decode cX6_comes 231 = .ok (.iconst 3, 1) := by decide +kernel
theorem dX6_comes_232 : decode cX6_comes 232 = .ok (.dup2, 1) := by decide +kernel
theorem dX6_comes_233 : decode cX6_comes 233 = .ok (.iaload, 1) := by decide +kernel
theorem dX6_comes_234 : decode cX6_comes 234 = .ok (.iconst 1, 1) := by decide +kernel
theorem dX6_comes_235 : decode cX6_comes 235 = .ok (.iload_n 2, 1) := by decide +kernel
theorem dX6_comes_236 : decode cX6_comes 236 = .ok (.ishl, 1) := by decide +kernel
theorem dX6_comes_237 : decode cX6_comes 237 = .ok (.ior, 1) := by decide +kernel
theorem dX6_comes_238 : decode cX6_comes 238 = .ok (.iastore, 1) := by decide +kernel
theorem dX6_comes_239 : decode cX6_comes 239 = .ok (.iload_n 1, 1) := by decide +kernel
theorem dX6_comes_240 : decode cX6_comes 240 = .ok (.bipush 106, 2) := by decide +kernel
theorem dX6_comes_242 : decode cX6_comes 242 = .ok (.if_icmp .eq 5, 3) := by decide +kernel
theorem dX6_comes_245 : decode cX6_comes 245 = .ok (.iconst 1, 1) := by decide +kernel
theorem dX6_comes_246 : decode cX6_comes 246 = .ok (.ireturn, 1) := by decide +kernel
theorem dX6_comes_247 : decode cX6_comes 247 = .ok (.aload_n 0, 1) := by decide +kernel
theorem dX6_comes_248 : decode cX6_comes 248 = .ok (.aload_n 0, 1) := by decide +kernel
theorem dX6_comes_249 : decode cX6_comes 249 = .ok (.getfield 25, 3) := by decide +kernel
theorem dX6_comes_252 : decode cX6_comes 252 = .ok (.iconst 1, 1) := by decide +kernel
theorem dX6_comes_253 : decode cX6_comes 253 = .ok (.iaload, 1) := by decide +kernel
theorem dX6_comes_254 : decode cX6_comes 254 = .ok (.invokevirtual 73, 3) := by decide +kernel
theorem dX6_comes_257 : decode cX6_comes 257 = .ok (.istore_n 3, 1) := by decide +kernel
theorem dX6_comes_258 : decode cX6_comes 258 = .ok (.iload_n 3, 1) := by decide +kernel
theorem dX6_comes_259 : decode cX6_comes 259 = .ok (.ifCond .lt 40, 3) := by decide +kernel
theorem dX6_comes_262 : decode cX6_comes 262 = .ok (.iload_n 2, 1) := by decide +kernel
theorem dX6_comes_263 : decode cX6_comes 263 = .ok (.iload_n 3, 1) := by decide +kernel
theorem dX6_comes_264 : decode cX6_comes 264 = .ok (.if_icmp .eq 35, 3) := by decide +kernel
theorem dX6_comes_267 : decode cX6_comes 267 = .ok (.aload_n 0, 1) := by decide +kernel
theorem dX6_comes_268 : decode cX6_comes 268 = .ok (.getfield 19, 3) := by decide +kernel
theorem dX6_comes_271 : decode cX6_comes 271 = .ok (.iconst 5, 1) := by decide +kernel
theorem dX6_comes_272 : decode cX6_comes 272 = .ok (.bipush 11, 2) := by decide +kernel
theorem dX6_comes_274 : decode cX6_comes 274 = .ok (.iload_n 2, 1) := by decide +kernel
theorem dX6_comes_275 : decode cX6_comes 275 = .ok (.imul, 1) := by decide +kernel
theorem dX6_comes_276 : decode cX6_comes 276 = .ok (.iadd, 1) := by decide +kernel
theorem dX6_comes_277 : decode cX6_comes 277 = .ok (.iconst 3, 1) := by decide +kernel
theorem dX6_comes_278 : decode cX6_comes 278 = .ok (.iadd, 1) := by decide +kernel
theorem dX6_comes_279 : decode cX6_comes 279 = .ok (.iaload, 1) := by decide +kernel
theorem dX6_comes_280 : decode cX6_comes 280 = .ok (.ifCond .ge 19, 3) := by decide +kernel
theorem dX6_comes_283 : decode cX6_comes 283 = .ok (.aload_n 0, 1) := by decide +kernel
theorem dX6_comes_284 : decode cX6_comes 284 = .ok (.getfield 19, 3) := by decide +kernel
theorem dX6_comes_287 : decode cX6_comes 287 = .ok (.iconst 5, 1) := by decide +kernel
theorem dX6_comes_288 : decode cX6_comes 288 = .ok (.bipush 11, 2) := by decide +kernel
theorem dX6_comes_290 : decode cX6_comes 290 = .ok (.iload_n 3, 1) := by decide +kernel
theorem dX6_comes_291 : decode cX6_comes 291 = .ok (.imul, 1) := by decide +kernel
theorem dX6_comes_292 : decode cX6_comes 292 = .ok (.iadd, 1) := by decide +kernel
theorem dX6_comes_293 : decode cX6_comes 293 = .ok (.iconst 3, 1) := by decide +kernel
theorem dX6_comes_294 : decode cX6_comes 294 = .ok (.iadd, 1) := by decide +kernel
theorem dX6_comes_295 : decode cX6_comes 295 = .ok (.iaload, 1) := by decide +kernel
theorem dX6_comes_296 : decode cX6_comes 296 = .ok (.ifCond .lt 5, 3) := by decide +kernel
theorem dX6_comes_299 : decode cX6_comes 299 = .ok (.iconst 0, 1) := by decide +kernel
theorem dX6_comes_300 : decode cX6_comes 300 = .ok (.ireturn, 1) := by decide +kernel
theorem dX6_comes_301 : decode cX6_comes 301 = .ok (.aload_n 0, 1) := by decide +kernel
theorem dX6_comes_302 : decode cX6_comes 302 = .ok (.getfield 19, 3) := by decide +kernel
theorem dX6_comes_305 : decode cX6_comes 305 = .ok (.iconst 5, 1) := by decide +kernel
theorem dX6_comes_306 : decode cX6_comes 306 = .ok (.bipush 11, 2) := by decide +kernel
theorem dX6_comes_308 : decode cX6_comes 308 = .ok (.iload_n 2, 1) := by decide +kernel
theorem dX6_comes_309 : decode cX6_comes 309 = .ok (.imul, 1) := by decide +kernel
theorem dX6_comes_310 : decode cX6_comes 310 = .ok (.iadd, 1) := by decide +kernel
theorem dX6_comes_311 : decode cX6_comes 311 = .ok (.iconst 3, 1) := by decide +kernel
theorem dX6_comes_312 : decode cX6_comes 312 = .ok (.iadd, 1) := by decide +kernel
theorem dX6_comes_313 : decode cX6_comes 313 = .ok (.iload_n 3, 1) := by decide +kernel
theorem dX6_comes_314 : decode cX6_comes 314 = .ok (.iastore, 1) := by decide +kernel
theorem dX6_comes_315 : decode cX6_comes 315 = .ok (.aload_n 0, 1) := by decide +kernel
theorem dX6_comes_316 : decode cX6_comes 316 = .ok (.getfield 19, 3) := by decide +kernel
theorem dX6_comes_319 : decode cX6_comes 319 = .ok (.iconst 5, 1) := by decide +kernel
theorem dX6_comes_320 : decode cX6_comes 320 = .ok (.bipush 11, 2) := by decide +kernel
theorem dX6_comes_322 : decode cX6_comes 322 = .ok (.iload_n 3, 1) := by decide +kernel
theorem dX6_comes_323 : decode cX6_comes 323 = .ok (.imul, 1) := by decide +kernel
theorem dX6_comes_324 : decode cX6_comes 324 = .ok (.iadd, 1) := by decide +kernel
theorem dX6_comes_325 : decode cX6_comes 325 = .ok (.iconst 3, 1) := by decide +kernel
theorem dX6_comes_326 : decode cX6_comes 326 = .ok (.iadd, 1) := by decide +kernel
theorem dX6_comes_327 : decode cX6_comes 327 = .ok (.iload_n 2, 1) := by decide +kernel
theorem dX6_comes_328 : decode cX6_comes 328 = .ok (.iastore, 1) := by decide +kernel
theorem dX6_comes_329 : decode cX6_comes 329 = .ok (.iconst 1, 1) := by decide +kernel
theorem dX6_comes_330 : decode cX6_comes 330 = .ok (.ireturn, 1) := by decide +kernel
set_option maxRecDepth 20000 in
theorem ggX6_reads_X6_readsStatement : GoodIn wsX6_reads wsX6_readsStatement := goodIn_r _ [9, 1, 10, 11, 12, 8, 13, 2, 14, 15, 16, 17, 18, 19, 20, 21, 22, 23, 24, 25, 26, 27, 28, 29, 30, 31, 32, 33, 45, 46, 47, 48, 49, 50, 51, 52, 53, 54, 55, 56, 57, 58] (by decide +kernel) (by decide +kernel)
set_option maxRecDepth 20000 in
theorem gX6_reads_X6_readsStatement : GoodIn wsX6_reads (wsV RX6 76 RX6 yX6_readsStatement wsX6_readsStatement) := goodIn_app (goodIn_of _ (by decide +kernel)) ggX6_reads_X6_readsStatement
set_option maxRecDepth 20000 in
theorem ggX6_reads_X6_copies : GoodIn wsX6_reads wsX6_copies := goodIn_r _ [36] (by decide +kernel) (by decide +kernel)
set_option maxRecDepth 20000 in
theorem gX6_reads_X6_copies : GoodIn wsX6_reads (va_wsS RX6 79 yX6_copies wsX6_copies) := goodIn_app (goodIn_of _ (by decide +kernel)) ggX6_reads_X6_copies
set_option maxRecDepth 20000 in
theorem ggX6_reads_X6_sign : GoodIn wsX6_reads wsX6_sign := goodIn_r _ [13, 1, 2, 14, 45, 46, 47, 48, 49, 50, 51, 52, 53, 54, 55, 56, 57, 58] (by decide +kernel) (by decide +kernel)
set_option maxRecDepth 20000 in
theorem gX6_reads_X6_sign : GoodIn wsX6_reads (wsV RX6 56 RX6 yX6_sign wsX6_sign) := goodIn_app (goodIn_of _ (by decide +kernel)) ggX6_reads_X6_sign
set_option maxRecDepth 20000 in
theorem ggX6_reads_X6_comes : GoodIn wsX6_reads wsX6_comes := goodIn_r _ [40, 23, 4, 41, 42, 43, 8, 44, 45, 46, 47, 48, 49, 50, 51, 52, 53, 54, 55, 56, 57, 58] (by decide +kernel) (by decide +kernel)
set_option maxRecDepth 20000 in
theorem gX6_reads_X6_comes : GoodIn wsX6_reads (wsV RX6 83 RX6 yX6_comes wsX6_comes) := goodIn_app (goodIn_of _ (by decide +kernel)) ggX6_reads_X6_comes
theorem dX6_reads_0 : decode cX6_reads 0 = .ok (.aload_n 0, 1) := by decide +kernel
theorem dX6_reads_1 : decode cX6_reads 1 = .ok (.iconst 0, 1) := by decide +kernel
theorem dX6_reads_2 : decode cX6_reads 2 = .ok (.putfield 53, 3) := by decide +kernel
theorem dX6_reads_5 : decode cX6_reads 5 = .ok (.iconst 0, 1) := by decide +kernel
theorem dX6_reads_6 : decode cX6_reads 6 = .ok (.istore_n 1, 1) := by decide +kernel
theorem dX6_reads_7 : decode cX6_reads 7 = .ok (.aload_n 0, 1) := by decide +kernel
theorem dX6_reads_8 : decode cX6_reads 8 = .ok (.invokevirtual 76, 3) := by decide +kernel
theorem dX6_reads_11 : decode cX6_reads 11 = .ok (.ifCond .ne 12, 3) := by decide +kernel
theorem dX6_reads_14 : decode cX6_reads 14 = .ok (.sipush (-1000), 3) := by decide +kernel
theorem dX6_reads_17 : decode cX6_reads 17 = .ok (.aload_n 0, 1) := by decide +kernel
theorem dX6_reads_18 : decode cX6_reads 18 = .ok (.getfield 53, 3) := by decide +kernel
theorem dX6_reads_21 : decode cX6_reads 21 = .ok (.isub, 1) := by decide +kernel
theorem dX6_reads_22 : decode cX6_reads 22 = .ok (.ireturn, 1) := by decide +kernel
theorem dX6_reads_23 : decode cX6_reads 23 = .ok (.iinc 1 1, 3) := by decide +kernel
theorem dX6_reads_26 : decode cX6_reads 26 = .ok (.aload_n 0, 1) := by decide +kernel
theorem dX6_reads_27 : decode cX6_reads 27 = .ok (.getfield 53, 3) := by decide +kernel
theorem dX6_reads_30 : decode cX6_reads 30 = .ok (.aload_n 0, 1) := by decide +kernel
theorem dX6_reads_31 : decode cX6_reads 31 = .ok (.getfield 45, 3) := by decide +kernel
theorem dX6_reads_34 : decode cX6_reads 34 = .ok (.if_icmp .lt (-27), 3) := by decide +kernel
theorem dX6_reads_37 : decode cX6_reads 37 = .ok (.aload_n 0, 1) := by decide +kernel
theorem dX6_reads_38 : decode cX6_reads 38 = .ok (.getfield 13, 3) := by decide +kernel
theorem dX6_reads_41 : decode cX6_reads 41 = .ok (.aload_n 0, 1) := by decide +kernel
theorem dX6_reads_42 : decode cX6_reads 42 = .ok (.getfield 19, 3) := by decide +kernel
theorem dX6_reads_45 : decode cX6_reads 45 = .ok (.invokestatic 79, 3) := by decide +kernel
theorem dX6_reads_48 : decode cX6_reads 48 = .ok (.aload_n 0, 1) := by decide +kernel
theorem dX6_reads_49 : decode cX6_reads 49 = .ok (.iconst 0, 1) := by decide +kernel
theorem dX6_reads_50 : decode cX6_reads 50 = .ok (.putfield 53, 3) := by decide +kernel
theorem dX6_reads_53 : decode cX6_reads 53 = .ok (.aload_n 0, 1) := by decide +kernel
theorem dX6_reads_54 : decode cX6_reads 54 = .ok (.getfield 53, 3) := by decide +kernel
theorem dX6_reads_57 : decode cX6_reads 57 = .ok (.aload_n 0, 1) := by decide +kernel
theorem dX6_reads_58 : decode cX6_reads 58 = .ok (.getfield 45, 3) := by decide +kernel
theorem dX6_reads_61 : decode cX6_reads 61 = .ok (.if_icmp .ge 36, 3) := by decide +kernel
theorem dX6_reads_64 : decode cX6_reads 64 = .ok (.aload_n 0, 1) := by decide +kernel
theorem dX6_reads_65 : decode cX6_reads 65 = .ok (.getfield 53, 3) := by decide +kernel
theorem dX6_reads_68 : decode cX6_reads 68 = .ok (.istore_n 2, 1) := by decide +kernel
theorem dX6_reads_69 : decode cX6_reads 69 = .ok (.aload_n 0, 1) := by decide +kernel
theorem dX6_reads_70 : decode cX6_reads 70 = .ok (.invokevirtual 56, 3) := by decide +kernel
theorem dX6_reads_73 : decode cX6_reads 73 = .ok (.istore_n 3, 1) := by decide +kernel
theorem dX6_reads_74 : decode cX6_reads 74 = .ok (.aload_n 0, 1) := by decide +kernel
theorem dX6_reads_75 : decode cX6_reads 75 = .ok (.invokevirtual 76, 3) := by decide +kernel
theorem dX6_reads_78 : decode cX6_reads 78 = .ok (.istore 4, 2) := by decide +kernel
theorem dX6_reads_80 : decode cX6_reads 80 = .ok (.aload_n 0, 1) := by decide +kernel
theorem dX6_reads_81 : decode cX6_reads 81 = .ok (.iload_n 3, 1) := by decide +kernel
theorem dX6_reads_82 : decode cX6_reads 82 = .ok (.invokevirtual 83, 3) := by decide +kernel
theorem dX6_reads_85 : decode cX6_reads 85 = .ok (.ifCond .ne 9, 3) := by decide +kernel
theorem dX6_reads_88 : decode cX6_reads 88 = .ok (.sipush (-2000), 3) := by decide +kernel
theorem dX6_reads_91 : decode cX6_reads 91 = .ok (.iload_n 2, 1) := by decide +kernel
theorem dX6_reads_92 : decode cX6_reads 92 = .ok (.isub, 1) := by decide +kernel
theorem dX6_reads_93 : decode cX6_reads 93 = .ok (.ireturn, 1) := by decide +kernel
theorem dX6_reads_94 : decode cX6_reads 94 = .ok (.goto (-41), 3) := by decide +kernel
theorem dX6_reads_97 : decode cX6_reads 97 = .ok (.aload_n 0, 1) := by decide +kernel
theorem dX6_reads_98 : decode cX6_reads 98 = .ok (.getfield 19, 3) := by decide +kernel
theorem dX6_reads_101 : decode cX6_reads 101 = .ok (.aload_n 0, 1) := by decide +kernel
theorem dX6_reads_102 : decode cX6_reads 102 = .ok (.getfield 13, 3) := by decide +kernel
theorem dX6_reads_105 : decode cX6_reads 105 = .ok (.invokestatic 79, 3) := by decide +kernel
theorem dX6_reads_108 : decode cX6_reads 108 = .ok (.iload_n 1, 1) := by decide +kernel
theorem dX6_reads_109 : decode cX6_reads 109 = .ok (.ireturn, 1) := by decide +kernel
set_option maxRecDepth 20000 in
theorem ggX6_land_X6_reads : GoodIn wsX6_land wsX6_reads := goodIn_r _ [6, 7, 1, 8, 9, 10, 11, 12, 5, 13, 14, 15, 16, 17, 18, 19, 20, 21, 22, 23, 24, 25, 26, 27, 28, 29, 30, 31, 32, 33, 34, 35, 36, 37, 38, 39, 40, 41, 42, 43, 44, 45, 46, 47, 48, 49, 50, 51, 52, 53, 54, 55, 56, 57, 58, 59, 60, 61, 62] (by decide +kernel) (by decide +kernel)
set_option maxRecDepth 20000 in
theorem gX6_land_X6_reads : GoodIn wsX6_land (wsV RX6 87 RX6 yX6_reads wsX6_reads) := goodIn_app (goodIn_of _ (by decide +kernel)) ggX6_land_X6_reads
theorem dX6_land_0 : decode cX6_land 0 = .ok (.aload_n 0, 1) := by decide +kernel
theorem dX6_land_1 : decode cX6_land 1 = .ok (.invokevirtual 87, 3) := by decide +kernel
theorem dX6_land_4 : decode cX6_land 4 = .ok (.istore_n 1, 1) := by decide +kernel
theorem dX6_land_5 : decode cX6_land 5 = .ok (.aload_n 0, 1) := by decide +kernel
theorem dX6_land_6 : decode cX6_land 6 = .ok (.iconst 0, 1) := by decide +kernel
theorem dX6_land_7 : decode cX6_land 7 = .ok (.putfield 45, 3) := by decide +kernel
theorem dX6_land_10 : decode cX6_land 10 = .ok (.iload_n 1, 1) := by decide +kernel
theorem dX6_land_11 : decode cX6_land 11 = .ok (.ireturn, 1) := by decide +kernel
set_option maxRecDepth 20000 in
theorem ggX6_turnOf_X6_get : GoodIn wsX6_turnOf wsX6_get := goodIn_r _ [5, 6, 7, 8, 9, 10, 11, 12, 13, 14, 15, 16, 17, 18, 19, 20] (by decide +kernel) (by decide +kernel)
set_option maxRecDepth 20000 in
theorem gX6_turnOf_X6_get : GoodIn wsX6_turnOf (wsV RX6 90 RX6 yX6_get wsX6_get) := goodIn_app (goodIn_of _ (by decide +kernel)) ggX6_turnOf_X6_get
theorem dX6_turnOf_0 : decode cX6_turnOf 0 = .ok (.aload_n 0, 1) := by decide +kernel
theorem dX6_turnOf_1 : decode cX6_turnOf 1 = .ok (.iload_n 1, 1) := by decide +kernel
theorem dX6_turnOf_2 : decode cX6_turnOf 2 = .ok (.iconst 4, 1) := by decide +kernel
theorem dX6_turnOf_3 : decode cX6_turnOf 3 = .ok (.iload_n 2, 1) := by decide +kernel
theorem dX6_turnOf_4 : decode cX6_turnOf 4 = .ok (.bipush 7, 2) := by decide +kernel
theorem dX6_turnOf_6 : decode cX6_turnOf 6 = .ok (.irem, 1) := by decide +kernel
theorem dX6_turnOf_7 : decode cX6_turnOf 7 = .ok (.iadd, 1) := by decide +kernel
theorem dX6_turnOf_8 : decode cX6_turnOf 8 = .ok (.invokevirtual 90, 3) := by decide +kernel
theorem dX6_turnOf_11 : decode cX6_turnOf 11 = .ok (.ireturn, 1) := by decide +kernel
set_option maxRecDepth 20000 in
theorem ggX6_isAt_X6_get : GoodIn wsX6_isAt wsX6_get := goodIn_r _ [6, 1, 11, 12, 13, 14, 15, 16, 17, 18, 19, 20, 21, 22, 23, 24] (by decide +kernel) (by decide +kernel)
set_option maxRecDepth 20000 in
theorem gX6_isAt_X6_get : GoodIn wsX6_isAt (wsV RX6 90 RX6 yX6_get wsX6_get) := goodIn_app (goodIn_of _ (by decide +kernel)) ggX6_isAt_X6_get
set_option maxRecDepth 20000 in
theorem ggX6_isAt_X6_turnOf : GoodIn wsX6_isAt wsX6_turnOf := goodIn_r _ [10, 2, 3, 4, 5, 6, 1, 11, 12, 13, 14, 15, 16, 17, 18, 19, 20, 21, 22, 23, 24] (by decide +kernel) (by decide +kernel)
set_option maxRecDepth 20000 in
theorem gX6_isAt_X6_turnOf : GoodIn wsX6_isAt (wsV RX6 94 RX6 yX6_turnOf wsX6_turnOf) := goodIn_app (goodIn_of _ (by decide +kernel)) ggX6_isAt_X6_turnOf
theorem dX6_isAt_0 : decode cX6_isAt 0 = .ok (.iload_n 2, 1) := by decide +kernel
theorem dX6_isAt_1 : decode cX6_isAt 1 = .ok (.bipush 7, 2) := by decide +kernel
theorem dX6_isAt_3 : decode cX6_isAt 3 = .ok (.idiv, 1) := by decide +kernel
theorem dX6_isAt_4 : decode cX6_isAt 4 = .ok (.istore_n 3, 1) := by decide +kernel
theorem dX6_isAt_5 : decode cX6_isAt 5 = .ok (.aload_n 0, 1) := by decide +kernel
theorem dX6_isAt_6 : decode cX6_isAt 6 = .ok (.iload_n 1, 1) := by decide +kernel
theorem dX6_isAt_7 : decode cX6_isAt 7 = .ok (.iconst 2, 1) := by decide +kernel
theorem dX6_isAt_8 : decode cX6_isAt 8 = .ok (.invokevirtual 90, 3) := by decide +kernel
theorem dX6_isAt_11 : decode cX6_isAt 11 = .ok (.istore 4, 2) := by decide +kernel
theorem dX6_isAt_13 : decode cX6_isAt 13 = .ok (.aload_n 0, 1) := by decide +kernel
theorem dX6_isAt_14 : decode cX6_isAt 14 = .ok (.iload_n 1, 1) := by decide +kernel
theorem dX6_isAt_15 : decode cX6_isAt 15 = .ok (.iconst 1, 1) := by decide +kernel
theorem dX6_isAt_16 : decode cX6_isAt 16 = .ok (.invokevirtual 90, 3) := by decide +kernel
theorem dX6_isAt_19 : decode cX6_isAt 19 = .ok (.tableswitch 125 1 5 #[33, 54, 75, 80, 98], 33) := by decide +kernel
theorem dX6_isAt_52 : decode cX6_isAt 52 = .ok (.iload_n 2, 1) := by decide +kernel
theorem dX6_isAt_53 : decode cX6_isAt 53 = .ok (.bipush 7, 2) := by decide +kernel
theorem dX6_isAt_55 : decode cX6_isAt 55 = .ok (.irem, 1) := by decide +kernel
theorem dX6_isAt_56 : decode cX6_isAt 56 = .ok (.iload 4, 2) := by decide +kernel
theorem dX6_isAt_58 : decode cX6_isAt 58 = .ok (.if_icmp .lt 8, 3) := by decide +kernel
theorem dX6_isAt_61 : decode cX6_isAt 61 = .ok (.bipush 9, 2) := by decide +kernel
theorem dX6_isAt_63 : decode cX6_isAt 63 = .ok (.goto 9, 3) := by decide +kernel
theorem dX6_isAt_66 : decode cX6_isAt 66 = .ok (.aload_n 0, 1) := by decide +kernel
theorem dX6_isAt_67 : decode cX6_isAt 67 = .ok (.iload_n 1, 1) := by decide +kernel
theorem dX6_isAt_68 : decode cX6_isAt 68 = .ok (.iload_n 2, 1) := by decide +kernel
theorem dX6_isAt_69 : decode cX6_isAt 69 = .ok (.invokevirtual 94, 3) := by decide +kernel
theorem dX6_isAt_72 : decode cX6_isAt 72 = .ok (.ireturn, 1) := by decide +kernel
theorem dX6_isAt_73 : decode cX6_isAt 73 = .ok (.iload_n 3, 1) := by decide +kernel
theorem dX6_isAt_74 : decode cX6_isAt 74 = .ok (.iload 4, 2) := by decide +kernel
theorem dX6_isAt_76 : decode cX6_isAt 76 = .ok (.iconst 2, 1) := by decide +kernel
theorem dX6_isAt_77 : decode cX6_isAt 77 = .ok (.iadd, 1) := by decide +kernel
theorem dX6_isAt_78 : decode cX6_isAt 78 = .ok (.irem, 1) := by decide +kernel
theorem dX6_isAt_79 : decode cX6_isAt 79 = .ok (.ifCond .ne 8, 3) := by decide +kernel
theorem dX6_isAt_82 : decode cX6_isAt 82 = .ok (.bipush 9, 2) := by decide +kernel
theorem dX6_isAt_84 : decode cX6_isAt 84 = .ok (.goto 9, 3) := by decide +kernel
theorem dX6_isAt_87 : decode cX6_isAt 87 = .ok (.aload_n 0, 1) := by decide +kernel
theorem dX6_isAt_88 : decode cX6_isAt 88 = .ok (.iload_n 1, 1) := by decide +kernel
theorem dX6_isAt_89 : decode cX6_isAt 89 = .ok (.iload_n 2, 1) := by decide +kernel
theorem dX6_isAt_90 : decode cX6_isAt 90 = .ok (.invokevirtual 94, 3) := by decide +kernel
theorem dX6_isAt_93 : decode cX6_isAt 93 = .ok (.ireturn, 1) := by decide +kernel
theorem dX6_isAt_94 : decode cX6_isAt 94 = .ok (.iload 4, 2) := by decide +kernel
theorem dX6_isAt_96 : decode cX6_isAt 96 = .ok (.iconst 5, 1) := by decide +kernel
theorem dX6_isAt_97 : decode cX6_isAt 97 = .ok (.irem, 1) := by decide +kernel
theorem dX6_isAt_98 : decode cX6_isAt 98 = .ok (.ireturn, 1) := by decide +kernel
theorem dX6_isAt_99 : decode cX6_isAt 99 = .ok (.iload_n 3, 1) := by decide +kernel
theorem dX6_isAt_100 : decode cX6_isAt 100 = .ok (.iload 4, 2) := by decide +kernel
theorem dX6_isAt_102 : decode cX6_isAt 102 = .ok (.if_icmp .ge 12, 3) := by decide +kernel
theorem dX6_isAt_105 : decode cX6_isAt 105 = .ok (.aload_n 0, 1) := by decide +kernel
theorem dX6_isAt_106 : decode cX6_isAt 106 = .ok (.iload_n 1, 1) := by decide +kernel
theorem dX6_isAt_107 : decode cX6_isAt 107 = .ok (.iload_n 2, 1) := by decide +kernel
theorem dX6_isAt_108 : decode cX6_isAt 108 = .ok (.invokevirtual 94, 3) := by decide +kernel
theorem dX6_isAt_111 : decode cX6_isAt 111 = .ok (.goto 5, 3) := by decide +kernel
theorem dX6_isAt_114 : decode cX6_isAt 114 = .ok (.bipush 9, 2) := by decide +kernel
theorem dX6_isAt_116 : decode cX6_isAt 116 = .ok (.ireturn, 1) := by decide +kernel
theorem dX6_isAt_117 : decode cX6_isAt 117 = .ok (.aload_n 0, 1) := by decide +kernel
theorem dX6_isAt_118 : decode cX6_isAt 118 = .ok (.iload_n 3, 1) := by decide +kernel
theorem dX6_isAt_119 : decode cX6_isAt 119 = .ok (.iconst 2, 1) := by decide +kernel
theorem dX6_isAt_120 : decode cX6_isAt 120 = .ok (.irem, 1) := by decide +kernel
theorem dX6_isAt_121 : decode cX6_isAt 121 = .ok (.iconst 1, 1) := by decide +kernel
theorem dX6_isAt_122 : decode cX6_isAt 122 = .ok (.if_icmp .ne 16, 3) := by decide +kernel
theorem dX6_isAt_125 : decode cX6_isAt 125 = .ok (.iload_n 1, 1) := by decide +kernel
theorem dX6_isAt_126 : decode cX6_isAt 126 = .ok (.iconst 1, 1) := by decide +kernel
theorem dX6_isAt_127 : decode cX6_isAt 127 = .ok (.iadd, 1) := by decide +kernel
theorem dX6_isAt_128 : decode cX6_isAt 128 = .ok (.aload_n 0, 1) := by decide +kernel
theorem dX6_isAt_129 : decode cX6_isAt 129 = .ok (.getfield 13, 3) := by decide +kernel
theorem dX6_isAt_132 : decode cX6_isAt 132 = .ok (.iconst 0, 1) := by decide +kernel
theorem dX6_isAt_133 : decode cX6_isAt 133 = .ok (.iaload, 1) := by decide +kernel
theorem dX6_isAt_134 : decode cX6_isAt 134 = .ok (.irem, 1) := by decide +kernel
theorem dX6_isAt_135 : decode cX6_isAt 135 = .ok (.goto 4, 3) := by decide +kernel
theorem dX6_isAt_138 : decode cX6_isAt 138 = .ok (.iload_n 1, 1) := by decide +kernel
theorem dX6_isAt_139 : decode cX6_isAt 139 = .ok (.iload_n 2, 1) := by decide +kernel
theorem dX6_isAt_140 : decode cX6_isAt 140 = .ok (.invokevirtual 94, 3) := by decide +kernel
theorem dX6_isAt_143 : decode cX6_isAt 143 = .ok (.ireturn, 1) := by decide +kernel
theorem dX6_isAt_144 : decode cX6_isAt 144 = .ok (.aload_n 0, 1) := by decide +kernel
theorem dX6_isAt_145 : decode cX6_isAt 145 = .ok (.iload_n 1, 1) := by decide +kernel
theorem dX6_isAt_146 : decode cX6_isAt 146 = .ok (.iload_n 2, 1) := by decide +kernel
theorem dX6_isAt_147 : decode cX6_isAt 147 = .ok (.invokevirtual 94, 3) := by decide +kernel
theorem dX6_isAt_150 : decode cX6_isAt 150 = .ok (.ireturn, 1) := by decide +kernel
set_option maxRecDepth 20000 in
theorem ggX6_passes_X6_isAt : GoodIn wsX6_passes wsX6_isAt := goodIn_r _ [6, 1, 7, 8, 9, 5, 10, 11, 12, 13, 14, 15, 16, 17, 18, 19, 20, 21, 22, 23, 24, 25, 26, 27, 28] (by decide +kernel) (by decide +kernel)
set_option maxRecDepth 20000 in
theorem gX6_passes_X6_isAt : GoodIn wsX6_passes (wsV RX6 97 RX6 yX6_isAt wsX6_isAt) := goodIn_app (goodIn_of _ (by decide +kernel)) ggX6_passes_X6_isAt
theorem dX6_passes_0 : decode cX6_passes 0 = .ok (.iconst 0, 1) := by decide +kernel
theorem dX6_passes_1 : decode cX6_passes 1 = .ok (.istore_n 3, 1) := by decide +kernel
theorem dX6_passes_2 : decode cX6_passes 2 = .ok (.iconst 0, 1) := by decide +kernel
theorem dX6_passes_3 : decode cX6_passes 3 = .ok (.istore 4, 2) := by decide +kernel
theorem dX6_passes_5 : decode cX6_passes 5 = .ok (.iload 4, 2) := by decide +kernel
theorem dX6_passes_7 : decode cX6_passes 7 = .ok (.aload_n 0, 1) := by decide +kernel
theorem dX6_passes_8 : decode cX6_passes 8 = .ok (.getfield 13, 3) := by decide +kernel
theorem dX6_passes_11 : decode cX6_passes 11 = .ok (.iconst 0, 1) := by decide +kernel
theorem dX6_passes_12 : decode cX6_passes 12 = .ok (.iaload, 1) := by decide +kernel
theorem dX6_passes_13 : decode cX6_passes 13 = .ok (.if_icmp .ge 27, 3) := by decide +kernel
theorem dX6_passes_16 : decode cX6_passes 16 = .ok (.aload_n 0, 1) := by decide +kernel
theorem dX6_passes_17 : decode cX6_passes 17 = .ok (.iload 4, 2) := by decide +kernel
theorem dX6_passes_19 : decode cX6_passes 19 = .ok (.iload_n 2, 1) := by decide +kernel
theorem dX6_passes_20 : decode cX6_passes 20 = .ok (.invokevirtual 97, 3) := by decide +kernel
theorem dX6_passes_23 : decode cX6_passes 23 = .ok (.iload_n 1, 1) := by decide +kernel
theorem dX6_passes_24 : decode cX6_passes 24 = .ok (.if_icmp .ne 10, 3) := by decide +kernel
theorem dX6_passes_27 : decode cX6_passes 27 = .ok (.iload_n 3, 1) := by decide +kernel
theorem dX6_passes_28 : decode cX6_passes 28 = .ok (.iconst 1, 1) := by decide +kernel
theorem dX6_passes_29 : decode cX6_passes 29 = .ok (.iload 4, 2) := by decide +kernel
theorem dX6_passes_31 : decode cX6_passes 31 = .ok (.ishl, 1) := by decide +kernel
theorem dX6_passes_32 : decode cX6_passes 32 = .ok (.ior, 1) := by decide +kernel
theorem dX6_passes_33 : decode cX6_passes 33 = .ok (.istore_n 3, 1) := by decide +kernel
theorem dX6_passes_34 : decode cX6_passes 34 = .ok (.iinc 4 1, 3) := by decide +kernel
theorem dX6_passes_37 : decode cX6_passes 37 = .ok (.goto (-32), 3) := by decide +kernel
theorem dX6_passes_40 : decode cX6_passes 40 = .ok (.iload_n 3, 1) := by decide +kernel
theorem dX6_passes_41 : decode cX6_passes 41 = .ok (.ireturn, 1) := by decide +kernel
set_option maxRecDepth 20000 in
theorem ggX6_groupOf_X6_get : GoodIn wsX6_groupOf wsX6_get := goodIn_r _ [5, 6, 7, 8, 9, 10, 11, 12, 13, 14, 15, 16, 17, 18, 19, 20] (by decide +kernel) (by decide +kernel)
set_option maxRecDepth 20000 in
theorem gX6_groupOf_X6_get : GoodIn wsX6_groupOf (wsV RX6 90 RX6 yX6_get wsX6_get) := goodIn_app (goodIn_of _ (by decide +kernel)) ggX6_groupOf_X6_get
theorem dX6_groupOf_0 : decode cX6_groupOf 0 = .ok (.iconst 1, 1) := by decide +kernel
theorem dX6_groupOf_1 : decode cX6_groupOf 1 = .ok (.iload_n 1, 1) := by decide +kernel
theorem dX6_groupOf_2 : decode cX6_groupOf 2 = .ok (.ishl, 1) := by decide +kernel
theorem dX6_groupOf_3 : decode cX6_groupOf 3 = .ok (.aload_n 0, 1) := by decide +kernel
theorem dX6_groupOf_4 : decode cX6_groupOf 4 = .ok (.iload_n 1, 1) := by decide +kernel
theorem dX6_groupOf_5 : decode cX6_groupOf 5 = .ok (.iconst 3, 1) := by decide +kernel
theorem dX6_groupOf_6 : decode cX6_groupOf 6 = .ok (.invokevirtual 90, 3) := by decide +kernel
theorem dX6_groupOf_9 : decode cX6_groupOf 9 = .ok (.ifCond .ge 7, 3) := by decide +kernel
theorem dX6_groupOf_12 : decode cX6_groupOf 12 = .ok (.iconst 0, 1) := by decide +kernel
theorem dX6_groupOf_13 : decode cX6_groupOf 13 = .ok (.goto 11, 3) := by decide +kernel
theorem dX6_groupOf_16 : decode cX6_groupOf 16 = .ok (.iconst 1, 1) := by decide +kernel
theorem dX6_groupOf_17 : decode cX6_groupOf 17 = .ok (.aload_n 0, 1) := by decide +kernel
theorem dX6_groupOf_18 : decode cX6_groupOf 18 = .ok (.iload_n 1, 1) := by decide +kernel
theorem dX6_groupOf_19 : decode cX6_groupOf 19 = .ok (.iconst 3, 1) := by decide +kernel
theorem dX6_groupOf_20 : decode cX6_groupOf 20 = .ok (.invokevirtual 90, 3) := by decide +kernel
theorem dX6_groupOf_23 : decode cX6_groupOf 23 = .ok (.ishl, 1) := by decide +kernel
theorem dX6_groupOf_24 : decode cX6_groupOf 24 = .ok (.ior, 1) := by decide +kernel
theorem dX6_groupOf_25 : decode cX6_groupOf 25 = .ok (.ireturn, 1) := by decide +kernel
set_option maxRecDepth 20000 in
theorem ggX6_isHad_X6_groupOf : GoodIn wsX6_isHad wsX6_groupOf := goodIn_r _ [6, 7, 8, 9, 5, 10, 1, 11, 12, 13, 14, 15, 16, 17, 18, 19, 20, 21, 22, 23, 24] (by decide +kernel) (by decide +kernel)
set_option maxRecDepth 20000 in
theorem gX6_isHad_X6_groupOf : GoodIn wsX6_isHad (wsV RX6 100 RX6 yX6_groupOf wsX6_groupOf) := goodIn_app (goodIn_of _ (by decide +kernel)) ggX6_isHad_X6_groupOf
theorem dX6_isHad_0 : decode cX6_isHad 0 = .ok (.aload_n 0, 1) := by decide +kernel
theorem dX6_isHad_1 : decode cX6_isHad 1 = .ok (.iload_n 1, 1) := by decide +kernel
theorem dX6_isHad_2 : decode cX6_isHad 2 = .ok (.invokevirtual 100, 3) := by decide +kernel
theorem dX6_isHad_5 : decode cX6_isHad 5 = .ok (.aload_n 0, 1) := by decide +kernel
theorem dX6_isHad_6 : decode cX6_isHad 6 = .ok (.getfield 13, 3) := by decide +kernel
theorem dX6_isHad_9 : decode cX6_isHad 9 = .ok (.iconst 2, 1) := by decide +kernel
theorem dX6_isHad_10 : decode cX6_isHad 10 = .ok (.iaload, 1) := by decide +kernel
theorem dX6_isHad_11 : decode cX6_isHad 11 = .ok (.iand, 1) := by decide +kernel
theorem dX6_isHad_12 : decode cX6_isHad 12 = .ok (.ifCond .eq 7, 3) := by decide +kernel
theorem dX6_isHad_15 : decode cX6_isHad 15 = .ok (.iconst 1, 1) := by decide +kernel
theorem dX6_isHad_16 : decode cX6_isHad 16 = .ok (.goto 4, 3) := by decide +kernel
theorem dX6_isHad_19 : decode cX6_isHad 19 = .ok (.iconst 0, 1) := by decide +kernel
theorem dX6_isHad_20 : decode cX6_isHad 20 = .ok (.ireturn, 1) := by decide +kernel
set_option maxRecDepth 20000 in
theorem ggX6_worth_X6_get : GoodIn wsX6_worth wsX6_get := goodIn_r _ [6, 1, 15, 16, 17, 18, 19, 20, 21, 22, 23, 24, 25, 26, 27, 28] (by decide +kernel) (by decide +kernel)
set_option maxRecDepth 20000 in
theorem gX6_worth_X6_get : GoodIn wsX6_worth (wsV RX6 90 RX6 yX6_get wsX6_get) := goodIn_app (goodIn_of _ (by decide +kernel)) ggX6_worth_X6_get
set_option maxRecDepth 20000 in
theorem ggX6_worth_X6_groupOf : GoodIn wsX6_worth wsX6_groupOf := goodIn_r _ [10, 2, 3, 4, 5, 6, 1, 15, 16, 17, 18, 19, 20, 21, 22, 23, 24, 25, 26, 27, 28] (by decide +kernel) (by decide +kernel)
set_option maxRecDepth 20000 in
theorem gX6_worth_X6_groupOf : GoodIn wsX6_worth (wsV RX6 100 RX6 yX6_groupOf wsX6_groupOf) := goodIn_app (goodIn_of _ (by decide +kernel)) ggX6_worth_X6_groupOf
set_option maxRecDepth 20000 in
theorem ggX6_worth_X6_isHad : GoodIn wsX6_worth wsX6_isHad := goodIn_r _ [14, 1, 7, 8, 9, 5, 10, 2, 3, 4, 6, 15, 16, 17, 18, 19, 20, 21, 22, 23, 24, 25, 26, 27, 28] (by decide +kernel) (by decide +kernel)
set_option maxRecDepth 20000 in
theorem gX6_worth_X6_isHad : GoodIn wsX6_worth (wsV RX6 103 RX6 yX6_isHad wsX6_isHad) := goodIn_app (goodIn_of _ (by decide +kernel)) ggX6_worth_X6_isHad
theorem dX6_worth_0 : decode cX6_worth 0 = .ok (.iconst 0, 1) := by decide +kernel
theorem dX6_worth_1 : decode cX6_worth 1 = .ok (.istore_n 3, 1) := by decide +kernel
theorem dX6_worth_2 : decode cX6_worth 2 = .ok (.iconst 0, 1) := by decide +kernel
theorem dX6_worth_3 : decode cX6_worth 3 = .ok (.istore 4, 2) := by decide +kernel
theorem dX6_worth_5 : decode cX6_worth 5 = .ok (.iload 4, 2) := by decide +kernel
theorem dX6_worth_7 : decode cX6_worth 7 = .ok (.aload_n 0, 1) := by decide +kernel
theorem dX6_worth_8 : decode cX6_worth 8 = .ok (.getfield 13, 3) := by decide +kernel
theorem dX6_worth_11 : decode cX6_worth 11 = .ok (.iconst 0, 1) := by decide +kernel
theorem dX6_worth_12 : decode cX6_worth 12 = .ok (.iaload, 1) := by decide +kernel
theorem dX6_worth_13 : decode cX6_worth 13 = .ok (.if_icmp .ge 84, 3) := by decide +kernel
theorem dX6_worth_16 : decode cX6_worth 16 = .ok (.aload_n 0, 1) := by decide +kernel
theorem dX6_worth_17 : decode cX6_worth 17 = .ok (.iload 4, 2) := by decide +kernel
theorem dX6_worth_19 : decode cX6_worth 19 = .ok (.iconst 3, 1) := by decide +kernel
theorem dX6_worth_20 : decode cX6_worth 20 = .ok (.invokevirtual 90, 3) := by decide +kernel
theorem dX6_worth_23 : decode cX6_worth 23 = .ok (.ifCond .lt 15, 3) := by decide +kernel
theorem dX6_worth_26 : decode cX6_worth 26 = .ok (.aload_n 0, 1) := by decide +kernel
theorem dX6_worth_27 : decode cX6_worth 27 = .ok (.iload 4, 2) := by decide +kernel
theorem dX6_worth_29 : decode cX6_worth 29 = .ok (.iconst 3, 1) := by decide +kernel
theorem dX6_worth_30 : decode cX6_worth 30 = .ok (.invokevirtual 90, 3) := by decide +kernel
theorem dX6_worth_33 : decode cX6_worth 33 = .ok (.iload 4, 2) := by decide +kernel
theorem dX6_worth_35 : decode cX6_worth 35 = .ok (.if_icmp .le 7, 3) := by decide +kernel
theorem dX6_worth_38 : decode cX6_worth 38 = .ok (.iconst 1, 1) := by decide +kernel
theorem dX6_worth_39 : decode cX6_worth 39 = .ok (.goto 4, 3) := by decide +kernel
theorem dX6_worth_42 : decode cX6_worth 42 = .ok (.iconst 0, 1) := by decide +kernel
theorem dX6_worth_43 : decode cX6_worth 43 = .ok (.istore 5, 2) := by decide +kernel
theorem dX6_worth_45 : decode cX6_worth 45 = .ok (.iload 5, 2) := by decide +kernel
theorem dX6_worth_47 : decode cX6_worth 47 = .ok (.ifCond .eq 44, 3) := by decide +kernel
theorem dX6_worth_50 : decode cX6_worth 50 = .ok (.aload_n 0, 1) := by decide +kernel
theorem dX6_worth_51 : decode cX6_worth 51 = .ok (.iload 4, 2) := by decide +kernel
theorem dX6_worth_53 : decode cX6_worth 53 = .ok (.invokevirtual 100, 3) := by decide +kernel
theorem dX6_worth_56 : decode cX6_worth 56 = .ok (.iload_n 1, 1) := by decide +kernel
theorem dX6_worth_57 : decode cX6_worth 57 = .ok (.iand, 1) := by decide +kernel
theorem dX6_worth_58 : decode cX6_worth 58 = .ok (.ifCond .eq 33, 3) := by decide +kernel
theorem dX6_worth_61 : decode cX6_worth 61 = .ok (.aload_n 0, 1) := by decide +kernel
theorem dX6_worth_62 : decode cX6_worth 62 = .ok (.iload 4, 2) := by decide +kernel
theorem dX6_worth_64 : decode cX6_worth 64 = .ok (.invokevirtual 103, 3) := by decide +kernel
theorem dX6_worth_67 : decode cX6_worth 67 = .ok (.iload_n 2, 1) := by decide +kernel
theorem dX6_worth_68 : decode cX6_worth 68 = .ok (.if_icmp .ne 23, 3) := by decide +kernel
theorem dX6_worth_71 : decode cX6_worth 71 = .ok (.iload_n 3, 1) := by decide +kernel
theorem dX6_worth_72 : decode cX6_worth 72 = .ok (.aload_n 0, 1) := by decide +kernel
theorem dX6_worth_73 : decode cX6_worth 73 = .ok (.iload 4, 2) := by decide +kernel
theorem dX6_worth_75 : decode cX6_worth 75 = .ok (.iconst 1, 1) := by decide +kernel
theorem dX6_worth_76 : decode cX6_worth 76 = .ok (.invokevirtual 90, 3) := by decide +kernel
theorem dX6_worth_79 : decode cX6_worth 79 = .ok (.bipush 6, 2) := by decide +kernel
theorem dX6_worth_81 : decode cX6_worth 81 = .ok (.if_icmp .ne 7, 3) := by decide +kernel
theorem dX6_worth_84 : decode cX6_worth 84 = .ok (.iconst 2, 1) := by decide +kernel
theorem dX6_worth_85 : decode cX6_worth 85 = .ok (.goto 4, 3) := by decide +kernel
theorem dX6_worth_88 : decode cX6_worth 88 = .ok (.iconst 1, 1) := by decide +kernel
theorem dX6_worth_89 : decode cX6_worth 89 = .ok (.iadd, 1) := by decide +kernel
theorem dX6_worth_90 : decode cX6_worth 90 = .ok (.istore_n 3, 1) := by decide +kernel
theorem dX6_worth_91 : decode cX6_worth 91 = .ok (.iinc 4 1, 3) := by decide +kernel
theorem dX6_worth_94 : decode cX6_worth 94 = .ok (.goto (-89), 3) := by decide +kernel
theorem dX6_worth_97 : decode cX6_worth 97 = .ok (.iload_n 3, 1) := by decide +kernel
theorem dX6_worth_98 : decode cX6_worth 98 = .ok (.ireturn, 1) := by decide +kernel
set_option maxRecDepth 20000 in
theorem ggX6_newOf_X6_worth : GoodIn wsX6_newOf wsX6_worth := goodIn_r _ [5, 6, 7, 8, 9, 4, 10, 11, 12, 13, 14, 15, 16, 17, 18, 19, 20, 21, 22, 23, 24, 25, 26, 27, 28, 29, 30, 31, 32] (by decide +kernel) (by decide +kernel)
set_option maxRecDepth 20000 in
theorem gX6_newOf_X6_worth : GoodIn wsX6_newOf (wsV RX6 106 RX6 yX6_worth wsX6_worth) := goodIn_app (goodIn_of _ (by decide +kernel)) ggX6_newOf_X6_worth
theorem dX6_newOf_0 : decode cX6_newOf 0 = .ok (.aload_n 0, 1) := by decide +kernel
theorem dX6_newOf_1 : decode cX6_newOf 1 = .ok (.iload_n 1, 1) := by decide +kernel
theorem dX6_newOf_2 : decode cX6_newOf 2 = .ok (.iconst 0, 1) := by decide +kernel
theorem dX6_newOf_3 : decode cX6_newOf 3 = .ok (.invokevirtual 106, 3) := by decide +kernel
theorem dX6_newOf_6 : decode cX6_newOf 6 = .ok (.ireturn, 1) := by decide +kernel
set_option maxRecDepth 20000 in
theorem ggX6_engine_X6_isEngine : GoodIn wsX6_engine wsX6_isEngine := goodIn_r _ [6, 1, 7, 8, 5, 9, 27, 28, 29, 30, 31, 32, 33, 34, 35, 36, 37, 38, 39, 40] (by decide +kernel) (by decide +kernel)
set_option maxRecDepth 20000 in
theorem gX6_engine_X6_isEngine : GoodIn wsX6_engine (wsV RX6 110 RX6 yX6_isEngine wsX6_isEngine) := goodIn_app (goodIn_of _ (by decide +kernel)) ggX6_engine_X6_isEngine
set_option maxRecDepth 20000 in
theorem ggX6_engine_X6_refuse : GoodIn wsX6_engine wsX6_refuse := goodIn_r _ [13, 14, 27, 28, 29, 30, 31, 32, 33, 34, 35, 36, 37, 38, 39, 40] (by decide +kernel) (by decide +kernel)
set_option maxRecDepth 20000 in
theorem gX6_engine_X6_refuse : GoodIn wsX6_engine (wsV RX6 49 RX6 yX6_refuse wsX6_refuse) := goodIn_app (goodIn_of _ (by decide +kernel)) ggX6_engine_X6_refuse
set_option maxRecDepth 20000 in
theorem ggX6_engine_X6_get : GoodIn wsX6_engine wsX6_get := goodIn_r _ [18, 1, 27, 28, 29, 30, 31, 32, 33, 34, 35, 36, 37, 38, 39, 40] (by decide +kernel) (by decide +kernel)
set_option maxRecDepth 20000 in
theorem gX6_engine_X6_get : GoodIn wsX6_engine (wsV RX6 90 RX6 yX6_get wsX6_get) := goodIn_app (goodIn_of _ (by decide +kernel)) ggX6_engine_X6_get
set_option maxRecDepth 20000 in
theorem ggX6_engine_X6_isHad : GoodIn wsX6_engine wsX6_isHad := goodIn_r _ [22, 1, 23, 24, 25, 5, 26, 15, 16, 17, 18, 27, 28, 29, 30, 31, 32, 33, 34, 35, 36, 37, 38, 39, 40] (by decide +kernel) (by decide +kernel)
set_option maxRecDepth 20000 in
theorem gX6_engine_X6_isHad : GoodIn wsX6_engine (wsV RX6 103 RX6 yX6_isHad wsX6_isHad) := goodIn_app (goodIn_of _ (by decide +kernel)) ggX6_engine_X6_isHad
theorem dX6_engine_0 : decode cX6_engine 0 = .ok (.aload_n 0, 1) := by decide +kernel
theorem dX6_engine_1 : decode cX6_engine 1 = .ok (.iload_n 1, 1) := by decide +kernel
theorem dX6_engine_2 : decode cX6_engine 2 = .ok (.invokevirtual 110, 3) := by decide +kernel
theorem dX6_engine_5 : decode cX6_engine 5 = .ok (.ifCond .ne 9, 3) := by decide +kernel
theorem dX6_engine_8 : decode cX6_engine 8 = .ok (.aload_n 0, 1) := by decide +kernel
theorem dX6_engine_9 : decode cX6_engine 9 = .ok (.iconst (-1), 1) := by decide +kernel
theorem dX6_engine_10 : decode cX6_engine 10 = .ok (.invokevirtual 49, 3) := by decide +kernel
theorem dX6_engine_13 : decode cX6_engine 13 = .ok (.ireturn, 1) := by decide +kernel
theorem dX6_engine_14 : decode cX6_engine 14 = .ok (.iload_n 2, 1) := by decide +kernel
theorem dX6_engine_15 : decode cX6_engine 15 = .ok (.tableswitch 84 0 6 #[41, 41, 41, 41, 48, 59, 70], 41) := by decide +kernel
theorem dX6_engine_56 : decode cX6_engine 56 = .ok (.aload_n 0, 1) := by decide +kernel
theorem dX6_engine_57 : decode cX6_engine 57 = .ok (.iload_n 1, 1) := by decide +kernel
theorem dX6_engine_58 : decode cX6_engine 58 = .ok (.iload_n 2, 1) := by decide +kernel
theorem dX6_engine_59 : decode cX6_engine 59 = .ok (.invokevirtual 90, 3) := by decide +kernel
theorem dX6_engine_62 : decode cX6_engine 62 = .ok (.ireturn, 1) := by decide +kernel
theorem dX6_engine_63 : decode cX6_engine 63 = .ok (.aload_n 0, 1) := by decide +kernel
theorem dX6_engine_64 : decode cX6_engine 64 = .ok (.getfield 13, 3) := by decide +kernel
theorem dX6_engine_67 : decode cX6_engine 67 = .ok (.iconst 2, 1) := by decide +kernel
theorem dX6_engine_68 : decode cX6_engine 68 = .ok (.iaload, 1) := by decide +kernel
theorem dX6_engine_69 : decode cX6_engine 69 = .ok (.iload_n 1, 1) := by decide +kernel
theorem dX6_engine_70 : decode cX6_engine 70 = .ok (.ishr, 1) := by decide +kernel
theorem dX6_engine_71 : decode cX6_engine 71 = .ok (.iconst 1, 1) := by decide +kernel
theorem dX6_engine_72 : decode cX6_engine 72 = .ok (.iand, 1) := by decide +kernel
theorem dX6_engine_73 : decode cX6_engine 73 = .ok (.ireturn, 1) := by decide +kernel
theorem dX6_engine_74 : decode cX6_engine 74 = .ok (.aload_n 0, 1) := by decide +kernel
theorem dX6_engine_75 : decode cX6_engine 75 = .ok (.getfield 13, 3) := by decide +kernel
theorem dX6_engine_78 : decode cX6_engine 78 = .ok (.iconst 3, 1) := by decide +kernel
theorem dX6_engine_79 : decode cX6_engine 79 = .ok (.iaload, 1) := by decide +kernel
theorem dX6_engine_80 : decode cX6_engine 80 = .ok (.iload_n 1, 1) := by decide +kernel
theorem dX6_engine_81 : decode cX6_engine 81 = .ok (.ishr, 1) := by decide +kernel
theorem dX6_engine_82 : decode cX6_engine 82 = .ok (.iconst 1, 1) := by decide +kernel
theorem dX6_engine_83 : decode cX6_engine 83 = .ok (.iand, 1) := by decide +kernel
theorem dX6_engine_84 : decode cX6_engine 84 = .ok (.ireturn, 1) := by decide +kernel
theorem dX6_engine_85 : decode cX6_engine 85 = .ok (.aload_n 0, 1) := by decide +kernel
theorem dX6_engine_86 : decode cX6_engine 86 = .ok (.iload_n 1, 1) := by decide +kernel
theorem dX6_engine_87 : decode cX6_engine 87 = .ok (.invokevirtual 103, 3) := by decide +kernel
theorem dX6_engine_90 : decode cX6_engine 90 = .ok (.ifCond .eq 7, 3) := by decide +kernel
theorem dX6_engine_93 : decode cX6_engine 93 = .ok (.iconst 1, 1) := by decide +kernel
theorem dX6_engine_94 : decode cX6_engine 94 = .ok (.goto 4, 3) := by decide +kernel
theorem dX6_engine_97 : decode cX6_engine 97 = .ok (.iconst 0, 1) := by decide +kernel
theorem dX6_engine_98 : decode cX6_engine 98 = .ok (.ireturn, 1) := by decide +kernel
theorem dX6_engine_99 : decode cX6_engine 99 = .ok (.aload_n 0, 1) := by decide +kernel
theorem dX6_engine_100 : decode cX6_engine 100 = .ok (.bipush (-2), 2) := by decide +kernel
theorem dX6_engine_102 : decode cX6_engine 102 = .ok (.invokevirtual 49, 3) := by decide +kernel
theorem dX6_engine_105 : decode cX6_engine 105 = .ok (.ireturn, 1) := by decide +kernel
set_option maxRecDepth 20000 in
theorem ggX6_turn_X6_isEngine : GoodIn wsX6_turn wsX6_isEngine := goodIn_r _ [5, 6, 7, 8, 4, 9, 26, 27, 28, 29, 30, 31, 32, 33, 34, 35, 36, 37, 38, 39] (by decide +kernel) (by decide +kernel)
set_option maxRecDepth 20000 in
theorem gX6_turn_X6_isEngine : GoodIn wsX6_turn (wsV RX6 110 RX6 yX6_isEngine wsX6_isEngine) := goodIn_app (goodIn_of _ (by decide +kernel)) ggX6_turn_X6_isEngine
set_option maxRecDepth 20000 in
theorem ggX6_turn_X6_within : GoodIn wsX6_turn wsX6_within := goodIn_r _ [12] (by decide +kernel) (by decide +kernel)
set_option maxRecDepth 20000 in
theorem gX6_turn_X6_within : GoodIn wsX6_turn (va_wsS RX6 41 yX6_within wsX6_within) := goodIn_app (goodIn_of _ (by decide +kernel)) ggX6_turn_X6_within
set_option maxRecDepth 20000 in
theorem ggX6_turn_X6_refuse : GoodIn wsX6_turn wsX6_refuse := goodIn_r _ [16, 17, 26, 27, 28, 29, 30, 31, 32, 33, 34, 35, 36, 37, 38, 39] (by decide +kernel) (by decide +kernel)
set_option maxRecDepth 20000 in
theorem gX6_turn_X6_refuse : GoodIn wsX6_turn (wsV RX6 49 RX6 yX6_refuse wsX6_refuse) := goodIn_app (goodIn_of _ (by decide +kernel)) ggX6_turn_X6_refuse
set_option maxRecDepth 20000 in
theorem ggX6_turn_X6_turnOf : GoodIn wsX6_turn wsX6_turnOf := goodIn_r _ [21, 22, 23, 24, 4, 25, 6, 26, 27, 28, 29, 30, 31, 32, 33, 34, 35, 36, 37, 38, 39] (by decide +kernel) (by decide +kernel)
set_option maxRecDepth 20000 in
theorem gX6_turn_X6_turnOf : GoodIn wsX6_turn (wsV RX6 94 RX6 yX6_turnOf wsX6_turnOf) := goodIn_app (goodIn_of _ (by decide +kernel)) ggX6_turn_X6_turnOf
theorem dX6_turn_0 : decode cX6_turn 0 = .ok (.aload_n 0, 1) := by decide +kernel
theorem dX6_turn_1 : decode cX6_turn 1 = .ok (.iload_n 1, 1) := by decide +kernel
theorem dX6_turn_2 : decode cX6_turn 2 = .ok (.invokevirtual 110, 3) := by decide +kernel
theorem dX6_turn_5 : decode cX6_turn 5 = .ok (.ifCond .eq 13, 3) := by decide +kernel
theorem dX6_turn_8 : decode cX6_turn 8 = .ok (.iload_n 2, 1) := by decide +kernel
theorem dX6_turn_9 : decode cX6_turn 9 = .ok (.iconst 0, 1) := by decide +kernel
theorem dX6_turn_10 : decode cX6_turn 10 = .ok (.bipush 6, 2) := by decide +kernel
theorem dX6_turn_12 : decode cX6_turn 12 = .ok (.invokestatic 41, 3) := by decide +kernel
theorem dX6_turn_15 : decode cX6_turn 15 = .ok (.goto 4, 3) := by decide +kernel
theorem dX6_turn_18 : decode cX6_turn 18 = .ok (.iconst (-1), 1) := by decide +kernel
theorem dX6_turn_19 : decode cX6_turn 19 = .ok (.istore_n 3, 1) := by decide +kernel
theorem dX6_turn_20 : decode cX6_turn 20 = .ok (.iload_n 3, 1) := by decide +kernel
theorem dX6_turn_21 : decode cX6_turn 21 = .ok (.ifCond .eq 11, 3) := by decide +kernel
theorem dX6_turn_24 : decode cX6_turn 24 = .ok (.aload_n 0, 1) := by decide +kernel
theorem dX6_turn_25 : decode cX6_turn 25 = .ok (.iload_n 3, 1) := by decide +kernel
theorem dX6_turn_26 : decode cX6_turn 26 = .ok (.invokevirtual 49, 3) := by decide +kernel
theorem dX6_turn_29 : decode cX6_turn 29 = .ok (.goto 9, 3) := by decide +kernel
theorem dX6_turn_32 : decode cX6_turn 32 = .ok (.aload_n 0, 1) := by decide +kernel
theorem dX6_turn_33 : decode cX6_turn 33 = .ok (.iload_n 1, 1) := by decide +kernel
theorem dX6_turn_34 : decode cX6_turn 34 = .ok (.iload_n 2, 1) := by decide +kernel
theorem dX6_turn_35 : decode cX6_turn 35 = .ok (.invokevirtual 94, 3) := by decide +kernel
theorem dX6_turn_38 : decode cX6_turn 38 = .ok (.ireturn, 1) := by decide +kernel
set_option maxRecDepth 20000 in
theorem ggX6_at_X6_isEngine : GoodIn wsX6_at wsX6_isEngine := goodIn_r _ [5, 6, 7, 8, 4, 9, 30, 31, 32, 33, 34, 35, 36, 37, 38, 39, 40, 41, 42, 43] (by decide +kernel) (by decide +kernel)
set_option maxRecDepth 20000 in
theorem gX6_at_X6_isEngine : GoodIn wsX6_at (wsV RX6 110 RX6 yX6_isEngine wsX6_isEngine) := goodIn_app (goodIn_of _ (by decide +kernel)) ggX6_at_X6_isEngine
set_option maxRecDepth 20000 in
theorem ggX6_at_X6_within : GoodIn wsX6_at wsX6_within := goodIn_r _ [12] (by decide +kernel) (by decide +kernel)
set_option maxRecDepth 20000 in
theorem gX6_at_X6_within : GoodIn wsX6_at (va_wsS RX6 41 yX6_within wsX6_within) := goodIn_app (goodIn_of _ (by decide +kernel)) ggX6_at_X6_within
set_option maxRecDepth 20000 in
theorem ggX6_at_X6_refuse : GoodIn wsX6_at wsX6_refuse := goodIn_r _ [16, 17, 30, 31, 32, 33, 34, 35, 36, 37, 38, 39, 40, 41, 42, 43] (by decide +kernel) (by decide +kernel)
set_option maxRecDepth 20000 in
theorem gX6_at_X6_refuse : GoodIn wsX6_at (wsV RX6 49 RX6 yX6_refuse wsX6_refuse) := goodIn_app (goodIn_of _ (by decide +kernel)) ggX6_at_X6_refuse
set_option maxRecDepth 20000 in
theorem ggX6_at_X6_isAt : GoodIn wsX6_at wsX6_isAt := goodIn_r _ [21, 6, 22, 23, 24, 4, 25, 26, 27, 28, 29, 30, 31, 32, 33, 34, 35, 36, 37, 38, 39, 40, 41, 42, 43] (by decide +kernel) (by decide +kernel)
set_option maxRecDepth 20000 in
theorem gX6_at_X6_isAt : GoodIn wsX6_at (wsV RX6 97 RX6 yX6_isAt wsX6_isAt) := goodIn_app (goodIn_of _ (by decide +kernel)) ggX6_at_X6_isAt
theorem dX6_at_0 : decode cX6_at 0 = .ok (.aload_n 0, 1) := by decide +kernel
theorem dX6_at_1 : decode cX6_at 1 = .ok (.iload_n 1, 1) := by decide +kernel
theorem dX6_at_2 : decode cX6_at 2 = .ok (.invokevirtual 110, 3) := by decide +kernel
theorem dX6_at_5 : decode cX6_at 5 = .ok (.ifCond .eq 14, 3) := by decide +kernel
theorem dX6_at_8 : decode cX6_at 8 = .ok (.iload_n 2, 1) := by decide +kernel
theorem dX6_at_9 : decode cX6_at 9 = .ok (.iconst 0, 1) := by decide +kernel
theorem dX6_at_10 : decode cX6_at 10 = .ok (.sipush 1100, 3) := by decide +kernel
theorem dX6_at_13 : decode cX6_at 13 = .ok (.invokestatic 41, 3) := by decide +kernel
theorem dX6_at_16 : decode cX6_at 16 = .ok (.goto 4, 3) := by decide +kernel
theorem dX6_at_19 : decode cX6_at 19 = .ok (.iconst (-1), 1) := by decide +kernel
theorem dX6_at_20 : decode cX6_at 20 = .ok (.istore_n 3, 1) := by decide +kernel
theorem dX6_at_21 : decode cX6_at 21 = .ok (.iload_n 3, 1) := by decide +kernel
theorem dX6_at_22 : decode cX6_at 22 = .ok (.ifCond .eq 11, 3) := by decide +kernel
theorem dX6_at_25 : decode cX6_at 25 = .ok (.aload_n 0, 1) := by decide +kernel
theorem dX6_at_26 : decode cX6_at 26 = .ok (.iload_n 3, 1) := by decide +kernel
theorem dX6_at_27 : decode cX6_at 27 = .ok (.invokevirtual 49, 3) := by decide +kernel
theorem dX6_at_30 : decode cX6_at 30 = .ok (.goto 9, 3) := by decide +kernel
theorem dX6_at_33 : decode cX6_at 33 = .ok (.aload_n 0, 1) := by decide +kernel
theorem dX6_at_34 : decode cX6_at 34 = .ok (.iload_n 1, 1) := by decide +kernel
theorem dX6_at_35 : decode cX6_at 35 = .ok (.iload_n 2, 1) := by decide +kernel
theorem dX6_at_36 : decode cX6_at 36 = .ok (.invokevirtual 97, 3) := by decide +kernel
theorem dX6_at_39 : decode cX6_at 39 = .ok (.ireturn, 1) := by decide +kernel
set_option maxRecDepth 20000 in
theorem ggX6_isPlace_X6_isIn : GoodIn wsX6_isPlace wsX6_isIn := goodIn_r _ [4] (by decide +kernel) (by decide +kernel)
set_option maxRecDepth 20000 in
theorem gX6_isPlace_X6_isIn : GoodIn wsX6_isPlace (va_wsS RX6 37 yX6_isIn wsX6_isIn) := goodIn_app (goodIn_of _ (by decide +kernel)) ggX6_isPlace_X6_isIn
theorem dX6_isPlace_0 : decode cX6_isPlace 0 = .ok (.iload_n 0, 1) := by decide +kernel
theorem dX6_isPlace_1 : decode cX6_isPlace 1 = .ok (.iconst 5, 1) := by decide +kernel
theorem dX6_isPlace_2 : decode cX6_isPlace 2 = .ok (.invokestatic 37, 3) := by decide +kernel
theorem dX6_isPlace_5 : decode cX6_isPlace 5 = .ok (.ireturn, 1) := by decide +kernel
set_option maxRecDepth 20000 in
theorem ggX6_pass_X6_isPlace : GoodIn wsX6_pass wsX6_isPlace := goodIn_r _ [4, 5, 6, 3, 7] (by decide +kernel) (by decide +kernel)
set_option maxRecDepth 20000 in
theorem gX6_pass_X6_isPlace : GoodIn wsX6_pass (va_wsS RX6 113 yX6_isPlace wsX6_isPlace) := goodIn_app (goodIn_of _ (by decide +kernel)) ggX6_pass_X6_isPlace
set_option maxRecDepth 20000 in
theorem ggX6_pass_X6_within : GoodIn wsX6_pass wsX6_within := goodIn_r _ [10] (by decide +kernel) (by decide +kernel)
set_option maxRecDepth 20000 in
theorem gX6_pass_X6_within : GoodIn wsX6_pass (va_wsS RX6 41 yX6_within wsX6_within) := goodIn_app (goodIn_of _ (by decide +kernel)) ggX6_pass_X6_within
set_option maxRecDepth 20000 in
theorem ggX6_pass_X6_refuse : GoodIn wsX6_pass wsX6_refuse := goodIn_r _ [14, 15, 33, 34, 35, 36, 37, 38, 39, 40, 41, 42, 43, 44, 45, 46] (by decide +kernel) (by decide +kernel)
set_option maxRecDepth 20000 in
theorem gX6_pass_X6_refuse : GoodIn wsX6_pass (wsV RX6 49 RX6 yX6_refuse wsX6_refuse) := goodIn_app (goodIn_of _ (by decide +kernel)) ggX6_pass_X6_refuse
set_option maxRecDepth 20000 in
theorem ggX6_pass_X6_passes : GoodIn wsX6_pass wsX6_passes := goodIn_r _ [19, 20, 21, 22, 23, 3, 24, 25, 26, 27, 28, 29, 30, 31, 32, 33, 34, 35, 36, 37, 38, 39, 40, 41, 42, 43, 44, 45, 46] (by decide +kernel) (by decide +kernel)
set_option maxRecDepth 20000 in
theorem gX6_pass_X6_passes : GoodIn wsX6_pass (wsV RX6 116 RX6 yX6_passes wsX6_passes) := goodIn_app (goodIn_of _ (by decide +kernel)) ggX6_pass_X6_passes
theorem dX6_pass_0 : decode cX6_pass 0 = .ok (.iload_n 1, 1) := by decide +kernel
theorem dX6_pass_1 : decode cX6_pass 1 = .ok (.invokestatic 113, 3) := by decide +kernel
theorem dX6_pass_4 : decode cX6_pass 4 = .ok (.ifCond .eq 14, 3) := by decide +kernel
theorem dX6_pass_7 : decode cX6_pass 7 = .ok (.iload_n 2, 1) := by decide +kernel
theorem dX6_pass_8 : decode cX6_pass 8 = .ok (.iconst 0, 1) := by decide +kernel
theorem dX6_pass_9 : decode cX6_pass 9 = .ok (.sipush 1100, 3) := by decide +kernel
theorem dX6_pass_12 : decode cX6_pass 12 = .ok (.invokestatic 41, 3) := by decide +kernel
theorem dX6_pass_15 : decode cX6_pass 15 = .ok (.goto 4, 3) := by decide +kernel
theorem dX6_pass_18 : decode cX6_pass 18 = .ok (.iconst (-1), 1) := by decide +kernel
theorem dX6_pass_19 : decode cX6_pass 19 = .ok (.istore_n 3, 1) := by decide +kernel
theorem dX6_pass_20 : decode cX6_pass 20 = .ok (.iload_n 3, 1) := by decide +kernel
theorem dX6_pass_21 : decode cX6_pass 21 = .ok (.ifCond .eq 11, 3) := by decide +kernel
theorem dX6_pass_24 : decode cX6_pass 24 = .ok (.aload_n 0, 1) := by decide +kernel
theorem dX6_pass_25 : decode cX6_pass 25 = .ok (.iload_n 3, 1) := by decide +kernel
theorem dX6_pass_26 : decode cX6_pass 26 = .ok (.invokevirtual 49, 3) := by decide +kernel
theorem dX6_pass_29 : decode cX6_pass 29 = .ok (.goto 9, 3) := by decide +kernel
theorem dX6_pass_32 : decode cX6_pass 32 = .ok (.aload_n 0, 1) := by decide +kernel
theorem dX6_pass_33 : decode cX6_pass 33 = .ok (.iload_n 1, 1) := by decide +kernel
theorem dX6_pass_34 : decode cX6_pass 34 = .ok (.iload_n 2, 1) := by decide +kernel
theorem dX6_pass_35 : decode cX6_pass 35 = .ok (.invokevirtual 116, 3) := by decide +kernel
theorem dX6_pass_38 : decode cX6_pass 38 = .ok (.ireturn, 1) := by decide +kernel
set_option maxRecDepth 20000 in
theorem ggX6_stands_X6_passes : GoodIn wsX6_stands wsX6_passes := goodIn_r _ [6, 1, 7, 8, 9, 5, 10, 11, 12, 13, 14, 15, 16, 17, 18, 35, 36, 37, 38, 39, 40, 41, 42, 43, 44, 45, 46, 47, 48] (by decide +kernel) (by decide +kernel)
set_option maxRecDepth 20000 in
theorem gX6_stands_X6_passes : GoodIn wsX6_stands (wsV RX6 116 RX6 yX6_passes wsX6_passes) := goodIn_app (goodIn_of _ (by decide +kernel)) ggX6_stands_X6_passes
set_option maxRecDepth 20000 in
theorem ggX6_stands_X6_newOf : GoodIn wsX6_stands wsX6_newOf := goodIn_r _ [22, 23, 24, 25, 5, 26, 1, 11, 12, 13, 14, 27, 28, 29, 30, 31, 32, 33, 34, 35, 36, 37, 38, 39, 40, 41, 42, 43, 44, 45, 46, 47, 48] (by decide +kernel) (by decide +kernel)
set_option maxRecDepth 20000 in
theorem gX6_stands_X6_newOf : GoodIn wsX6_stands (wsV RX6 119 RX6 yX6_newOf wsX6_newOf) := goodIn_app (goodIn_of _ (by decide +kernel)) ggX6_stands_X6_newOf
theorem dX6_stands_0 : decode cX6_stands 0 = .ok (.aload_n 0, 1) := by decide +kernel
theorem dX6_stands_1 : decode cX6_stands 1 = .ok (.iload_n 1, 1) := by decide +kernel
theorem dX6_stands_2 : decode cX6_stands 2 = .ok (.iload_n 2, 1) := by decide +kernel
theorem dX6_stands_3 : decode cX6_stands 3 = .ok (.invokevirtual 116, 3) := by decide +kernel
theorem dX6_stands_6 : decode cX6_stands 6 = .ok (.istore_n 3, 1) := by decide +kernel
theorem dX6_stands_7 : decode cX6_stands 7 = .ok (.aload_n 0, 1) := by decide +kernel
theorem dX6_stands_8 : decode cX6_stands 8 = .ok (.iload_n 3, 1) := by decide +kernel
theorem dX6_stands_9 : decode cX6_stands 9 = .ok (.invokevirtual 119, 3) := by decide +kernel
theorem dX6_stands_12 : decode cX6_stands 12 = .ok (.istore 4, 2) := by decide +kernel
theorem dX6_stands_14 : decode cX6_stands 14 = .ok (.aload_n 0, 1) := by decide +kernel
theorem dX6_stands_15 : decode cX6_stands 15 = .ok (.getfield 13, 3) := by decide +kernel
theorem dX6_stands_18 : decode cX6_stands 18 = .ok (.iconst 2, 1) := by decide +kernel
theorem dX6_stands_19 : decode cX6_stands 19 = .ok (.dup2, 1) := by decide +kernel
theorem dX6_stands_20 : decode cX6_stands 20 = .ok (.iaload, 1) := by decide +kernel
theorem dX6_stands_21 : decode cX6_stands 21 = .ok (.iload_n 3, 1) := by decide +kernel
theorem dX6_stands_22 : decode cX6_stands 22 = .ok (.ior, 1) := by decide +kernel
theorem dX6_stands_23 : decode cX6_stands 23 = .ok (.iastore, 1) := by decide +kernel
theorem dX6_stands_24 : decode cX6_stands 24 = .ok (.iload 4, 2) := by decide +kernel
theorem dX6_stands_26 : decode cX6_stands 26 = .ok (.ireturn, 1) := by decide +kernel
set_option maxRecDepth 20000 in
theorem ggX6_stand_X6_isPlace : GoodIn wsX6_stand wsX6_isPlace := goodIn_r _ [5, 6, 7, 4, 8] (by decide +kernel) (by decide +kernel)
set_option maxRecDepth 20000 in
theorem gX6_stand_X6_isPlace : GoodIn wsX6_stand (va_wsS RX6 113 yX6_isPlace wsX6_isPlace) := goodIn_app (goodIn_of _ (by decide +kernel)) ggX6_stand_X6_isPlace
set_option maxRecDepth 20000 in
theorem ggX6_stand_X6_refuse : GoodIn wsX6_stand wsX6_refuse := goodIn_r _ [12, 13, 50, 51, 52, 53, 54, 55, 56, 57, 58, 59, 60, 61, 62, 63] (by decide +kernel) (by decide +kernel)
set_option maxRecDepth 20000 in
theorem gX6_stand_X6_refuse : GoodIn wsX6_stand (wsV RX6 49 RX6 yX6_refuse wsX6_refuse) := goodIn_app (goodIn_of _ (by decide +kernel)) ggX6_stand_X6_refuse
set_option maxRecDepth 20000 in
theorem ggX6_stand_X6_stands : GoodIn wsX6_stand wsX6_stands := goodIn_r _ [17, 1, 18, 19, 20, 4, 21, 22, 23, 24, 25, 26, 27, 28, 29, 30, 31, 32, 33, 34, 35, 36, 37, 38, 39, 40, 41, 42, 43, 44, 45, 46, 47, 48, 49, 50, 51, 52, 53, 54, 55, 56, 57, 58, 59, 60, 61, 62, 63] (by decide +kernel) (by decide +kernel)
set_option maxRecDepth 20000 in
theorem gX6_stand_X6_stands : GoodIn wsX6_stand (wsV RX6 122 RX6 yX6_stands wsX6_stands) := goodIn_app (goodIn_of _ (by decide +kernel)) ggX6_stand_X6_stands
theorem dX6_stand_0 : decode cX6_stand 0 = .ok (.iload_n 1, 1) := by decide +kernel
theorem dX6_stand_1 : decode cX6_stand 1 = .ok (.invokestatic 113, 3) := by decide +kernel
theorem dX6_stand_4 : decode cX6_stand 4 = .ok (.ifCond .ne 7, 3) := by decide +kernel
theorem dX6_stand_7 : decode cX6_stand 7 = .ok (.iconst (-1), 1) := by decide +kernel
theorem dX6_stand_8 : decode cX6_stand 8 = .ok (.goto 21, 3) := by decide +kernel
theorem dX6_stand_11 : decode cX6_stand 11 = .ok (.aload_n 0, 1) := by decide +kernel
theorem dX6_stand_12 : decode cX6_stand 12 = .ok (.getfield 13, 3) := by decide +kernel
theorem dX6_stand_15 : decode cX6_stand 15 = .ok (.iconst 1, 1) := by decide +kernel
theorem dX6_stand_16 : decode cX6_stand 16 = .ok (.iaload, 1) := by decide +kernel
theorem dX6_stand_17 : decode cX6_stand 17 = .ok (.sipush 999, 3) := by decide +kernel
theorem dX6_stand_20 : decode cX6_stand 20 = .ok (.if_icmp .ne 8, 3) := by decide +kernel
theorem dX6_stand_23 : decode cX6_stand 23 = .ok (.bipush (-6), 2) := by decide +kernel
theorem dX6_stand_25 : decode cX6_stand 25 = .ok (.goto 4, 3) := by decide +kernel
theorem dX6_stand_28 : decode cX6_stand 28 = .ok (.iconst 0, 1) := by decide +kernel
theorem dX6_stand_29 : decode cX6_stand 29 = .ok (.istore_n 2, 1) := by decide +kernel
theorem dX6_stand_30 : decode cX6_stand 30 = .ok (.iload_n 2, 1) := by decide +kernel
theorem dX6_stand_31 : decode cX6_stand 31 = .ok (.ifCond .eq 9, 3) := by decide +kernel
theorem dX6_stand_34 : decode cX6_stand 34 = .ok (.aload_n 0, 1) := by decide +kernel
theorem dX6_stand_35 : decode cX6_stand 35 = .ok (.iload_n 2, 1) := by decide +kernel
theorem dX6_stand_36 : decode cX6_stand 36 = .ok (.invokevirtual 49, 3) := by decide +kernel
theorem dX6_stand_39 : decode cX6_stand 39 = .ok (.ireturn, 1) := by decide +kernel
theorem dX6_stand_40 : decode cX6_stand 40 = .ok (.aload_n 0, 1) := by decide +kernel
theorem dX6_stand_41 : decode cX6_stand 41 = .ok (.iload_n 1, 1) := by decide +kernel
theorem dX6_stand_42 : decode cX6_stand 42 = .ok (.aload_n 0, 1) := by decide +kernel
theorem dX6_stand_43 : decode cX6_stand 43 = .ok (.getfield 13, 3) := by decide +kernel
theorem dX6_stand_46 : decode cX6_stand 46 = .ok (.iconst 1, 1) := by decide +kernel
theorem dX6_stand_47 : decode cX6_stand 47 = .ok (.iaload, 1) := by decide +kernel
theorem dX6_stand_48 : decode cX6_stand 48 = .ok (.invokevirtual 122, 3) := by decide +kernel
theorem dX6_stand_51 : decode cX6_stand 51 = .ok (.istore_n 3, 1) := by decide +kernel
theorem dX6_stand_52 : decode cX6_stand 52 = .ok (.aload_n 0, 1) := by decide +kernel
theorem dX6_stand_53 : decode cX6_stand 53 = .ok (.getfield 13, 3) := by decide +kernel
theorem dX6_stand_56 : decode cX6_stand 56 = .ok (.iconst 1, 1) := by decide +kernel
theorem dX6_stand_57 : decode cX6_stand 57 = .ok (.dup2, 1) := by decide +kernel
theorem dX6_stand_58 : decode cX6_stand 58 = .ok (.iaload, 1) := by decide +kernel
theorem dX6_stand_59 : decode cX6_stand 59 = .ok (.iconst 1, 1) := by decide +kernel
theorem dX6_stand_60 : decode cX6_stand 60 = .ok (.iadd, 1) := by decide +kernel
theorem dX6_stand_61 : decode cX6_stand 61 = .ok (.iastore, 1) := by decide +kernel
theorem dX6_stand_62 : decode cX6_stand 62 = .ok (.iload_n 3, 1) := by decide +kernel
theorem dX6_stand_63 : decode cX6_stand 63 = .ok (.ireturn, 1) := by decide +kernel
set_option maxRecDepth 20000 in
theorem ggX6_rest_X6_within : GoodIn wsX6_rest wsX6_within := goodIn_r _ [5] (by decide +kernel) (by decide +kernel)
set_option maxRecDepth 20000 in
theorem gX6_rest_X6_within : GoodIn wsX6_rest (va_wsS RX6 41 yX6_within wsX6_within) := goodIn_app (goodIn_of _ (by decide +kernel)) ggX6_rest_X6_within
set_option maxRecDepth 20000 in
theorem ggX6_rest_X6_refuse : GoodIn wsX6_rest wsX6_refuse := goodIn_r _ [9, 10, 11, 12, 13, 14, 15, 16, 17, 18, 19, 20, 21, 22, 23, 24] (by decide +kernel) (by decide +kernel)
set_option maxRecDepth 20000 in
theorem gX6_rest_X6_refuse : GoodIn wsX6_rest (wsV RX6 49 RX6 yX6_refuse wsX6_refuse) := goodIn_app (goodIn_of _ (by decide +kernel)) ggX6_rest_X6_refuse
theorem dX6_rest_0 : decode cX6_rest 0 = .ok (.iload_n 1, 1) := by decide +kernel
theorem dX6_rest_1 : decode cX6_rest 1 = .ok (.iconst 1, 1) := by decide +kernel
theorem dX6_rest_2 : decode cX6_rest 2 = .ok (.bipush 60, 2) := by decide +kernel
theorem dX6_rest_4 : decode cX6_rest 4 = .ok (.invokestatic 41, 3) := by decide +kernel
theorem dX6_rest_7 : decode cX6_rest 7 = .ok (.istore_n 2, 1) := by decide +kernel
theorem dX6_rest_8 : decode cX6_rest 8 = .ok (.iload_n 2, 1) := by decide +kernel
theorem dX6_rest_9 : decode cX6_rest 9 = .ok (.ifCond .ne 20, 3) := by decide +kernel
theorem dX6_rest_12 : decode cX6_rest 12 = .ok (.aload_n 0, 1) := by decide +kernel
theorem dX6_rest_13 : decode cX6_rest 13 = .ok (.getfield 13, 3) := by decide +kernel
theorem dX6_rest_16 : decode cX6_rest 16 = .ok (.iconst 1, 1) := by decide +kernel
theorem dX6_rest_17 : decode cX6_rest 17 = .ok (.iaload, 1) := by decide +kernel
theorem dX6_rest_18 : decode cX6_rest 18 = .ok (.iload_n 1, 1) := by decide +kernel
theorem dX6_rest_19 : decode cX6_rest 19 = .ok (.iadd, 1) := by decide +kernel
theorem dX6_rest_20 : decode cX6_rest 20 = .ok (.sipush 999, 3) := by decide +kernel
theorem dX6_rest_23 : decode cX6_rest 23 = .ok (.if_icmp .le 6, 3) := by decide +kernel
theorem dX6_rest_26 : decode cX6_rest 26 = .ok (.bipush (-6), 2) := by decide +kernel
theorem dX6_rest_28 : decode cX6_rest 28 = .ok (.istore_n 2, 1) := by decide +kernel
theorem dX6_rest_29 : decode cX6_rest 29 = .ok (.iload_n 2, 1) := by decide +kernel
theorem dX6_rest_30 : decode cX6_rest 30 = .ok (.ifCond .eq 9, 3) := by decide +kernel
theorem dX6_rest_33 : decode cX6_rest 33 = .ok (.aload_n 0, 1) := by decide +kernel
theorem dX6_rest_34 : decode cX6_rest 34 = .ok (.iload_n 2, 1) := by decide +kernel
theorem dX6_rest_35 : decode cX6_rest 35 = .ok (.invokevirtual 49, 3) := by decide +kernel
theorem dX6_rest_38 : decode cX6_rest 38 = .ok (.ireturn, 1) := by decide +kernel
theorem dX6_rest_39 : decode cX6_rest 39 = .ok (.aload_n 0, 1) := by decide +kernel
theorem dX6_rest_40 : decode cX6_rest 40 = .ok (.getfield 13, 3) := by decide +kernel
theorem dX6_rest_43 : decode cX6_rest 43 = .ok (.iconst 1, 1) := by decide +kernel
theorem dX6_rest_44 : decode cX6_rest 44 = .ok (.dup2, 1) := by decide +kernel
theorem dX6_rest_45 : decode cX6_rest 45 = .ok (.iaload, 1) := by decide +kernel
theorem dX6_rest_46 : decode cX6_rest 46 = .ok (.iload_n 1, 1) := by decide +kernel
theorem dX6_rest_47 : decode cX6_rest 47 = .ok (.iadd, 1) := by decide +kernel
theorem dX6_rest_48 : decode cX6_rest 48 = .ok (.iastore, 1) := by decide +kernel
theorem dX6_rest_49 : decode cX6_rest 49 = .ok (.aload_n 0, 1) := by decide +kernel
theorem dX6_rest_50 : decode cX6_rest 50 = .ok (.getfield 13, 3) := by decide +kernel
theorem dX6_rest_53 : decode cX6_rest 53 = .ok (.iconst 1, 1) := by decide +kernel
theorem dX6_rest_54 : decode cX6_rest 54 = .ok (.iaload, 1) := by decide +kernel
theorem dX6_rest_55 : decode cX6_rest 55 = .ok (.ireturn, 1) := by decide +kernel
set_option maxRecDepth 20000 in
theorem ggX6_underline_X6_isEngine : GoodIn wsX6_underline wsX6_isEngine := goodIn_r _ [6, 1, 7, 8, 5, 9, 15, 16, 17, 18, 19, 20, 21, 22, 23, 24, 25, 26, 27, 28] (by decide +kernel) (by decide +kernel)
set_option maxRecDepth 20000 in
theorem gX6_underline_X6_isEngine : GoodIn wsX6_underline (wsV RX6 110 RX6 yX6_isEngine wsX6_isEngine) := goodIn_app (goodIn_of _ (by decide +kernel)) ggX6_underline_X6_isEngine
set_option maxRecDepth 20000 in
theorem ggX6_underline_X6_isIn : GoodIn wsX6_underline wsX6_isIn := goodIn_r _ [9] (by decide +kernel) (by decide +kernel)
set_option maxRecDepth 20000 in
theorem gX6_underline_X6_isIn : GoodIn wsX6_underline (va_wsS RX6 37 yX6_isIn wsX6_isIn) := goodIn_app (goodIn_of _ (by decide +kernel)) ggX6_underline_X6_isIn
set_option maxRecDepth 20000 in
theorem ggX6_underline_X6_refuse : GoodIn wsX6_underline wsX6_refuse := goodIn_r _ [13, 14, 15, 16, 17, 18, 19, 20, 21, 22, 23, 24, 25, 26, 27, 28] (by decide +kernel) (by decide +kernel)
set_option maxRecDepth 20000 in
theorem gX6_underline_X6_refuse : GoodIn wsX6_underline (wsV RX6 49 RX6 yX6_refuse wsX6_refuse) := goodIn_app (goodIn_of _ (by decide +kernel)) ggX6_underline_X6_refuse
theorem dX6_underline_0 : decode cX6_underline 0 = .ok (.aload_n 0, 1) := by decide +kernel
theorem dX6_underline_1 : decode cX6_underline 1 = .ok (.iload_n 1, 1) := by decide +kernel
theorem dX6_underline_2 : decode cX6_underline 2 = .ok (.invokevirtual 110, 3) := by decide +kernel
theorem dX6_underline_5 : decode cX6_underline 5 = .ok (.ifCond .ne 7, 3) := by decide +kernel
theorem dX6_underline_8 : decode cX6_underline 8 = .ok (.iconst (-1), 1) := by decide +kernel
theorem dX6_underline_9 : decode cX6_underline 9 = .ok (.goto 17, 3) := by decide +kernel
theorem dX6_underline_12 : decode cX6_underline 12 = .ok (.iload_n 2, 1) := by decide +kernel
theorem dX6_underline_13 : decode cX6_underline 13 = .ok (.iconst 2, 1) := by decide +kernel
theorem dX6_underline_14 : decode cX6_underline 14 = .ok (.invokestatic 37, 3) := by decide +kernel
theorem dX6_underline_17 : decode cX6_underline 17 = .ok (.ifCond .eq 7, 3) := by decide +kernel
theorem dX6_underline_20 : decode cX6_underline 20 = .ok (.iconst 0, 1) := by decide +kernel
theorem dX6_underline_21 : decode cX6_underline 21 = .ok (.goto 5, 3) := by decide +kernel
theorem dX6_underline_24 : decode cX6_underline 24 = .ok (.bipush (-2), 2) := by decide +kernel
theorem dX6_underline_26 : decode cX6_underline 26 = .ok (.istore_n 3, 1) := by decide +kernel
theorem dX6_underline_27 : decode cX6_underline 27 = .ok (.iload_n 3, 1) := by decide +kernel
theorem dX6_underline_28 : decode cX6_underline 28 = .ok (.ifCond .eq 9, 3) := by decide +kernel
theorem dX6_underline_31 : decode cX6_underline 31 = .ok (.aload_n 0, 1) := by decide +kernel
theorem dX6_underline_32 : decode cX6_underline 32 = .ok (.iload_n 3, 1) := by decide +kernel
theorem dX6_underline_33 : decode cX6_underline 33 = .ok (.invokevirtual 49, 3) := by decide +kernel
theorem dX6_underline_36 : decode cX6_underline 36 = .ok (.ireturn, 1) := by decide +kernel
theorem dX6_underline_37 : decode cX6_underline 37 = .ok (.aload_n 0, 1) := by decide +kernel
theorem dX6_underline_38 : decode cX6_underline 38 = .ok (.getfield 13, 3) := by decide +kernel
theorem dX6_underline_41 : decode cX6_underline 41 = .ok (.iconst 2, 1) := by decide +kernel
theorem dX6_underline_42 : decode cX6_underline 42 = .ok (.iaload, 1) := by decide +kernel
theorem dX6_underline_43 : decode cX6_underline 43 = .ok (.iload_n 1, 1) := by decide +kernel
theorem dX6_underline_44 : decode cX6_underline 44 = .ok (.ishr, 1) := by decide +kernel
theorem dX6_underline_45 : decode cX6_underline 45 = .ok (.iconst 1, 1) := by decide +kernel
theorem dX6_underline_46 : decode cX6_underline 46 = .ok (.iand, 1) := by decide +kernel
theorem dX6_underline_47 : decode cX6_underline 47 = .ok (.istore 4, 2) := by decide +kernel
theorem dX6_underline_49 : decode cX6_underline 49 = .ok (.aload_n 0, 1) := by decide +kernel
theorem dX6_underline_50 : decode cX6_underline 50 = .ok (.getfield 13, 3) := by decide +kernel
theorem dX6_underline_53 : decode cX6_underline 53 = .ok (.iconst 2, 1) := by decide +kernel
theorem dX6_underline_54 : decode cX6_underline 54 = .ok (.iload_n 2, 1) := by decide +kernel
theorem dX6_underline_55 : decode cX6_underline 55 = .ok (.iconst 1, 1) := by decide +kernel
theorem dX6_underline_56 : decode cX6_underline 56 = .ok (.if_icmp .ne 16, 3) := by decide +kernel
theorem dX6_underline_59 : decode cX6_underline 59 = .ok (.aload_n 0, 1) := by decide +kernel
theorem dX6_underline_60 : decode cX6_underline 60 = .ok (.getfield 13, 3) := by decide +kernel
theorem dX6_underline_63 : decode cX6_underline 63 = .ok (.iconst 2, 1) := by decide +kernel
theorem dX6_underline_64 : decode cX6_underline 64 = .ok (.iaload, 1) := by decide +kernel
theorem dX6_underline_65 : decode cX6_underline 65 = .ok (.iconst 1, 1) := by decide +kernel
theorem dX6_underline_66 : decode cX6_underline 66 = .ok (.iload_n 1, 1) := by decide +kernel
theorem dX6_underline_67 : decode cX6_underline 67 = .ok (.ishl, 1) := by decide +kernel
theorem dX6_underline_68 : decode cX6_underline 68 = .ok (.ior, 1) := by decide +kernel
theorem dX6_underline_69 : decode cX6_underline 69 = .ok (.goto 15, 3) := by decide +kernel
theorem dX6_underline_72 : decode cX6_underline 72 = .ok (.aload_n 0, 1) := by decide +kernel
theorem dX6_underline_73 : decode cX6_underline 73 = .ok (.getfield 13, 3) := by decide +kernel
theorem dX6_underline_76 : decode cX6_underline 76 = .ok (.iconst 2, 1) := by decide +kernel
theorem dX6_underline_77 : decode cX6_underline 77 = .ok (.iaload, 1) := by decide +kernel
theorem dX6_underline_78 : decode cX6_underline 78 = .ok (.iconst 1, 1) := by decide +kernel
theorem dX6_underline_79 : decode cX6_underline 79 = .ok (.iload_n 1, 1) := by decide +kernel
theorem dX6_underline_80 : decode cX6_underline 80 = .ok (.ishl, 1) := by decide +kernel
theorem dX6_underline_81 : decode cX6_underline 81 = .ok (.iconst (-1), 1) := by decide +kernel
theorem dX6_underline_82 : decode cX6_underline 82 = .ok (.ixor, 1) := by decide +kernel
theorem dX6_underline_83 : decode cX6_underline 83 = .ok (.iand, 1) := by decide +kernel
theorem dX6_underline_84 : decode cX6_underline 84 = .ok (.iastore, 1) := by decide +kernel
theorem dX6_underline_85 : decode cX6_underline 85 = .ok (.iload 4, 2) := by decide +kernel
theorem dX6_underline_87 : decode cX6_underline 87 = .ok (.ireturn, 1) := by decide +kernel
set_option maxRecDepth 20000 in
theorem ggX6_freshOf_X6_passes : GoodIn wsX6_freshOf wsX6_passes := goodIn_r _ [6, 1, 7, 8, 9, 5, 10, 11, 12, 13, 14, 15, 16, 17, 18, 35, 36, 37, 38, 39, 40, 41, 42, 43, 44, 45, 46, 47, 48] (by decide +kernel) (by decide +kernel)
set_option maxRecDepth 20000 in
theorem gX6_freshOf_X6_passes : GoodIn wsX6_freshOf (wsV RX6 116 RX6 yX6_passes wsX6_passes) := goodIn_app (goodIn_of _ (by decide +kernel)) ggX6_freshOf_X6_passes
set_option maxRecDepth 20000 in
theorem ggX6_freshOf_X6_newOf : GoodIn wsX6_freshOf wsX6_newOf := goodIn_r _ [22, 23, 24, 25, 5, 26, 1, 11, 12, 13, 14, 27, 28, 29, 30, 31, 32, 33, 34, 35, 36, 37, 38, 39, 40, 41, 42, 43, 44, 45, 46, 47, 48] (by decide +kernel) (by decide +kernel)
set_option maxRecDepth 20000 in
theorem gX6_freshOf_X6_newOf : GoodIn wsX6_freshOf (wsV RX6 119 RX6 yX6_newOf wsX6_newOf) := goodIn_app (goodIn_of _ (by decide +kernel)) ggX6_freshOf_X6_newOf
theorem dX6_freshOf_0 : decode cX6_freshOf 0 = .ok (.iconst 0, 1) := by decide +kernel
theorem dX6_freshOf_1 : decode cX6_freshOf 1 = .ok (.istore_n 3, 1) := by decide +kernel
theorem dX6_freshOf_2 : decode cX6_freshOf 2 = .ok (.iconst 0, 1) := by decide +kernel
theorem dX6_freshOf_3 : decode cX6_freshOf 3 = .ok (.istore 4, 2) := by decide +kernel
theorem dX6_freshOf_5 : decode cX6_freshOf 5 = .ok (.iload 4, 2) := by decide +kernel
theorem dX6_freshOf_7 : decode cX6_freshOf 7 = .ok (.iload_n 2, 1) := by decide +kernel
theorem dX6_freshOf_8 : decode cX6_freshOf 8 = .ok (.if_icmp .ge 26, 3) := by decide +kernel
theorem dX6_freshOf_11 : decode cX6_freshOf 11 = .ok (.iload_n 3, 1) := by decide +kernel
theorem dX6_freshOf_12 : decode cX6_freshOf 12 = .ok (.aload_n 0, 1) := by decide +kernel
theorem dX6_freshOf_13 : decode cX6_freshOf 13 = .ok (.iload_n 1, 1) := by decide +kernel
theorem dX6_freshOf_14 : decode cX6_freshOf 14 = .ok (.aload_n 0, 1) := by decide +kernel
theorem dX6_freshOf_15 : decode cX6_freshOf 15 = .ok (.getfield 13, 3) := by decide +kernel
theorem dX6_freshOf_18 : decode cX6_freshOf 18 = .ok (.iconst 1, 1) := by decide +kernel
theorem dX6_freshOf_19 : decode cX6_freshOf 19 = .ok (.iaload, 1) := by decide +kernel
theorem dX6_freshOf_20 : decode cX6_freshOf 20 = .ok (.iload 4, 2) := by decide +kernel
theorem dX6_freshOf_22 : decode cX6_freshOf 22 = .ok (.iadd, 1) := by decide +kernel
theorem dX6_freshOf_23 : decode cX6_freshOf 23 = .ok (.invokevirtual 116, 3) := by decide +kernel
theorem dX6_freshOf_26 : decode cX6_freshOf 26 = .ok (.ior, 1) := by decide +kernel
theorem dX6_freshOf_27 : decode cX6_freshOf 27 = .ok (.istore_n 3, 1) := by decide +kernel
theorem dX6_freshOf_28 : decode cX6_freshOf 28 = .ok (.iinc 4 1, 3) := by decide +kernel
theorem dX6_freshOf_31 : decode cX6_freshOf 31 = .ok (.goto (-26), 3) := by decide +kernel
theorem dX6_freshOf_34 : decode cX6_freshOf 34 = .ok (.aload_n 0, 1) := by decide +kernel
theorem dX6_freshOf_35 : decode cX6_freshOf 35 = .ok (.iload_n 3, 1) := by decide +kernel
theorem dX6_freshOf_36 : decode cX6_freshOf 36 = .ok (.invokevirtual 119, 3) := by decide +kernel
theorem dX6_freshOf_39 : decode cX6_freshOf 39 = .ok (.ireturn, 1) := by decide +kernel
set_option maxRecDepth 20000 in
theorem ggX6_fresh_X6_isPlace : GoodIn wsX6_fresh wsX6_isPlace := goodIn_r _ [4, 5, 6, 3, 7] (by decide +kernel) (by decide +kernel)
set_option maxRecDepth 20000 in
theorem gX6_fresh_X6_isPlace : GoodIn wsX6_fresh (va_wsS RX6 113 yX6_isPlace wsX6_isPlace) := goodIn_app (goodIn_of _ (by decide +kernel)) ggX6_fresh_X6_isPlace
set_option maxRecDepth 20000 in
theorem ggX6_fresh_X6_within : GoodIn wsX6_fresh wsX6_within := goodIn_r _ [10] (by decide +kernel) (by decide +kernel)
set_option maxRecDepth 20000 in
theorem gX6_fresh_X6_within : GoodIn wsX6_fresh (va_wsS RX6 41 yX6_within wsX6_within) := goodIn_app (goodIn_of _ (by decide +kernel)) ggX6_fresh_X6_within
set_option maxRecDepth 20000 in
theorem ggX6_fresh_X6_refuse : GoodIn wsX6_fresh wsX6_refuse := goodIn_r _ [14, 15, 53, 54, 55, 56, 57, 58, 59, 60, 61, 62, 63, 64, 65, 66] (by decide +kernel) (by decide +kernel)
set_option maxRecDepth 20000 in
theorem gX6_fresh_X6_refuse : GoodIn wsX6_fresh (wsV RX6 49 RX6 yX6_refuse wsX6_refuse) := goodIn_app (goodIn_of _ (by decide +kernel)) ggX6_fresh_X6_refuse
set_option maxRecDepth 20000 in
theorem ggX6_fresh_X6_freshOf : GoodIn wsX6_fresh wsX6_freshOf := goodIn_r _ [19, 20, 21, 22, 23, 3, 24, 25, 26, 27, 28, 29, 30, 31, 32, 33, 34, 35, 36, 37, 38, 39, 40, 41, 42, 43, 44, 45, 46, 47, 48, 49, 50, 51, 52, 53, 54, 55, 56, 57, 58, 59, 60, 61, 62, 63, 64, 65, 66] (by decide +kernel) (by decide +kernel)
set_option maxRecDepth 20000 in
theorem gX6_fresh_X6_freshOf : GoodIn wsX6_fresh (wsV RX6 125 RX6 yX6_freshOf wsX6_freshOf) := goodIn_app (goodIn_of _ (by decide +kernel)) ggX6_fresh_X6_freshOf
theorem dX6_fresh_0 : decode cX6_fresh 0 = .ok (.iload_n 1, 1) := by decide +kernel
theorem dX6_fresh_1 : decode cX6_fresh 1 = .ok (.invokestatic 113, 3) := by decide +kernel
theorem dX6_fresh_4 : decode cX6_fresh 4 = .ok (.ifCond .eq 13, 3) := by decide +kernel
theorem dX6_fresh_7 : decode cX6_fresh 7 = .ok (.iload_n 2, 1) := by decide +kernel
theorem dX6_fresh_8 : decode cX6_fresh 8 = .ok (.iconst 1, 1) := by decide +kernel
theorem dX6_fresh_9 : decode cX6_fresh 9 = .ok (.bipush 14, 2) := by decide +kernel
theorem dX6_fresh_11 : decode cX6_fresh 11 = .ok (.invokestatic 41, 3) := by decide +kernel
theorem dX6_fresh_14 : decode cX6_fresh 14 = .ok (.goto 4, 3) := by decide +kernel
theorem dX6_fresh_17 : decode cX6_fresh 17 = .ok (.iconst (-1), 1) := by decide +kernel
theorem dX6_fresh_18 : decode cX6_fresh 18 = .ok (.istore_n 3, 1) := by decide +kernel
theorem dX6_fresh_19 : decode cX6_fresh 19 = .ok (.iload_n 3, 1) := by decide +kernel
theorem dX6_fresh_20 : decode cX6_fresh 20 = .ok (.ifCond .eq 11, 3) := by decide +kernel
theorem dX6_fresh_23 : decode cX6_fresh 23 = .ok (.aload_n 0, 1) := by decide +kernel
theorem dX6_fresh_24 : decode cX6_fresh 24 = .ok (.iload_n 3, 1) := by decide +kernel
theorem dX6_fresh_25 : decode cX6_fresh 25 = .ok (.invokevirtual 49, 3) := by decide +kernel
theorem dX6_fresh_28 : decode cX6_fresh 28 = .ok (.goto 9, 3) := by decide +kernel
theorem dX6_fresh_31 : decode cX6_fresh 31 = .ok (.aload_n 0, 1) := by decide +kernel
theorem dX6_fresh_32 : decode cX6_fresh 32 = .ok (.iload_n 1, 1) := by decide +kernel
theorem dX6_fresh_33 : decode cX6_fresh 33 = .ok (.iload_n 2, 1) := by decide +kernel
theorem dX6_fresh_34 : decode cX6_fresh 34 = .ok (.invokevirtual 125, 3) := by decide +kernel
theorem dX6_fresh_37 : decode cX6_fresh 37 = .ok (.ireturn, 1) := by decide +kernel
set_option maxRecDepth 20000 in
theorem ggX6_where_X6_within : GoodIn wsX6_where wsX6_within := goodIn_r _ [4] (by decide +kernel) (by decide +kernel)
set_option maxRecDepth 20000 in
theorem gX6_where_X6_within : GoodIn wsX6_where (va_wsS RX6 41 yX6_within wsX6_within) := goodIn_app (goodIn_of _ (by decide +kernel)) ggX6_where_X6_within
set_option maxRecDepth 20000 in
theorem ggX6_where_X6_refuse : GoodIn wsX6_where wsX6_refuse := goodIn_r _ [8, 9, 47, 48, 49, 50, 51, 52, 53, 54, 55, 56, 57, 58, 59, 60] (by decide +kernel) (by decide +kernel)
set_option maxRecDepth 20000 in
theorem gX6_where_X6_refuse : GoodIn wsX6_where (wsV RX6 49 RX6 yX6_refuse wsX6_refuse) := goodIn_app (goodIn_of _ (by decide +kernel)) ggX6_where_X6_refuse
set_option maxRecDepth 20000 in
theorem ggX6_where_X6_freshOf : GoodIn wsX6_where wsX6_freshOf := goodIn_r _ [13, 14, 15, 16, 17, 3, 18, 19, 20, 21, 22, 23, 24, 25, 26, 27, 28, 29, 30, 31, 32, 33, 34, 35, 36, 37, 38, 39, 40, 41, 42, 43, 44, 45, 46, 47, 48, 49, 50, 51, 52, 53, 54, 55, 56, 57, 58, 59, 60] (by decide +kernel) (by decide +kernel)
set_option maxRecDepth 20000 in
theorem gX6_where_X6_freshOf : GoodIn wsX6_where (wsV RX6 125 RX6 yX6_freshOf wsX6_freshOf) := goodIn_app (goodIn_of _ (by decide +kernel)) ggX6_where_X6_freshOf
theorem dX6_where_0 : decode cX6_where 0 = .ok (.iload_n 1, 1) := by decide +kernel
theorem dX6_where_1 : decode cX6_where 1 = .ok (.iconst 1, 1) := by decide +kernel
theorem dX6_where_2 : decode cX6_where 2 = .ok (.bipush 14, 2) := by decide +kernel
theorem dX6_where_4 : decode cX6_where 4 = .ok (.invokestatic 41, 3) := by decide +kernel
theorem dX6_where_7 : decode cX6_where 7 = .ok (.istore_n 2, 1) := by decide +kernel
theorem dX6_where_8 : decode cX6_where 8 = .ok (.iload_n 2, 1) := by decide +kernel
theorem dX6_where_9 : decode cX6_where 9 = .ok (.ifCond .eq 9, 3) := by decide +kernel
theorem dX6_where_12 : decode cX6_where 12 = .ok (.aload_n 0, 1) := by decide +kernel
theorem dX6_where_13 : decode cX6_where 13 = .ok (.iload_n 2, 1) := by decide +kernel
theorem dX6_where_14 : decode cX6_where 14 = .ok (.invokevirtual 49, 3) := by decide +kernel
theorem dX6_where_17 : decode cX6_where 17 = .ok (.ireturn, 1) := by decide +kernel
theorem dX6_where_18 : decode cX6_where 18 = .ok (.iconst 0, 1) := by decide +kernel
theorem dX6_where_19 : decode cX6_where 19 = .ok (.istore_n 3, 1) := by decide +kernel
theorem dX6_where_20 : decode cX6_where 20 = .ok (.iconst 1, 1) := by decide +kernel
theorem dX6_where_21 : decode cX6_where 21 = .ok (.istore 4, 2) := by decide +kernel
theorem dX6_where_23 : decode cX6_where 23 = .ok (.iload 4, 2) := by decide +kernel
theorem dX6_where_25 : decode cX6_where 25 = .ok (.iconst 5, 1) := by decide +kernel
theorem dX6_where_26 : decode cX6_where 26 = .ok (.if_icmp .ge 28, 3) := by decide +kernel
theorem dX6_where_29 : decode cX6_where 29 = .ok (.aload_n 0, 1) := by decide +kernel
theorem dX6_where_30 : decode cX6_where 30 = .ok (.iload 4, 2) := by decide +kernel
theorem dX6_where_32 : decode cX6_where 32 = .ok (.iload_n 1, 1) := by decide +kernel
theorem dX6_where_33 : decode cX6_where 33 = .ok (.invokevirtual 125, 3) := by decide +kernel
theorem dX6_where_36 : decode cX6_where 36 = .ok (.aload_n 0, 1) := by decide +kernel
theorem dX6_where_37 : decode cX6_where 37 = .ok (.iload_n 3, 1) := by decide +kernel
theorem dX6_where_38 : decode cX6_where 38 = .ok (.iload_n 1, 1) := by decide +kernel
theorem dX6_where_39 : decode cX6_where 39 = .ok (.invokevirtual 125, 3) := by decide +kernel
theorem dX6_where_42 : decode cX6_where 42 = .ok (.if_icmp .le 6, 3) := by decide +kernel
theorem dX6_where_45 : decode cX6_where 45 = .ok (.iload 4, 2) := by decide +kernel
theorem dX6_where_47 : decode cX6_where 47 = .ok (.istore_n 3, 1) := by decide +kernel
theorem dX6_where_48 : decode cX6_where 48 = .ok (.iinc 4 1, 3) := by decide +kernel
theorem dX6_where_51 : decode cX6_where 51 = .ok (.goto (-28), 3) := by decide +kernel
theorem dX6_where_54 : decode cX6_where 54 = .ok (.iload_n 3, 1) := by decide +kernel
theorem dX6_where_55 : decode cX6_where 55 = .ok (.ireturn, 1) := by decide +kernel
set_option maxRecDepth 20000 in
theorem ggX6_plans_X6_newOf : GoodIn wsX6_plans wsX6_newOf := goodIn_r _ [9, 10, 11, 12, 8, 13, 4, 14, 15, 16, 17, 18, 19, 20, 21, 22, 23, 24, 25, 44, 45, 46, 47, 48, 49, 50, 51, 52, 53, 54, 55, 56, 57] (by decide +kernel) (by decide +kernel)
set_option maxRecDepth 20000 in
theorem gX6_plans_X6_newOf : GoodIn wsX6_plans (wsV RX6 119 RX6 yX6_newOf wsX6_newOf) := goodIn_app (goodIn_of _ (by decide +kernel)) ggX6_plans_X6_newOf
set_option maxRecDepth 20000 in
theorem ggX6_plans_X6_amount : GoodIn wsX6_plans wsX6_amount := goodIn_r _ [28] (by decide +kernel) (by decide +kernel)
set_option maxRecDepth 20000 in
theorem gX6_plans_X6_amount : GoodIn wsX6_plans (va_wsS RX6 131 yX6_amount wsX6_amount) := goodIn_app (goodIn_of _ (by decide +kernel)) ggX6_plans_X6_amount
set_option maxRecDepth 20000 in
theorem ggX6_plans_X6_passes : GoodIn wsX6_plans wsX6_passes := goodIn_r _ [32, 4, 33, 34, 35, 8, 36, 14, 15, 16, 17, 37, 38, 39, 40, 44, 45, 46, 47, 48, 49, 50, 51, 52, 53, 54, 55, 56, 57] (by decide +kernel) (by decide +kernel)
set_option maxRecDepth 20000 in
theorem gX6_plans_X6_passes : GoodIn wsX6_plans (wsV RX6 116 RX6 yX6_passes wsX6_passes) := goodIn_app (goodIn_of _ (by decide +kernel)) ggX6_plans_X6_passes
set_option maxRecDepth 20000 in
theorem ggX6_plans_X6_plans : GoodIn wsX6_plans wsX6_plans := goodIn_r _ [0, 1, 2, 3, 4, 5, 6, 7, 8, 9, 10, 11, 12, 13, 14, 15, 16, 17, 18, 19, 20, 21, 22, 23, 24, 25, 26, 27, 28, 29, 30, 31, 32, 33, 34, 35, 36, 37, 38, 39, 40, 41, 42, 43, 44, 45, 46, 47, 48, 49, 50, 51, 52, 53, 54, 55, 56, 57] (by decide +kernel) (by decide +kernel)
set_option maxRecDepth 20000 in
theorem gX6_plans_X6_plans : GoodIn wsX6_plans (wsV RX6 134 RX6 yX6_plans wsX6_plans) := goodIn_app (goodIn_of _ (by decide +kernel)) ggX6_plans_X6_plans
theorem dX6_plans_0 : decode cX6_plans 0 = .ok (.iload_n 1, 1) := by decide +kernel
theorem dX6_plans_1 : decode cX6_plans 1 = .ok (.iload_n 2, 1) := by decide +kernel
theorem dX6_plans_2 : decode cX6_plans 2 = .ok (.if_icmp .ne 57, 3) := by decide +kernel
theorem dX6_plans_5 : decode cX6_plans 5 = .ok (.aload_n 0, 1) := by decide +kernel
theorem dX6_plans_6 : decode cX6_plans 6 = .ok (.iload 4, 2) := by decide +kernel
theorem dX6_plans_8 : decode cX6_plans 8 = .ok (.invokevirtual 119, 3) := by decide +kernel
theorem dX6_plans_11 : decode cX6_plans 11 = .ok (.istore 5, 2) := by decide +kernel
theorem dX6_plans_13 : decode cX6_plans 13 = .ok (.iload 5, 2) := by decide +kernel
theorem dX6_plans_15 : decode cX6_plans 15 = .ok (.aload_n 0, 1) := by decide +kernel
theorem dX6_plans_16 : decode cX6_plans 16 = .ok (.getfield 128, 3) := by decide +kernel
theorem dX6_plans_19 : decode cX6_plans 19 = .ok (.if_icmp .gt 4, 3) := by decide +kernel
theorem dX6_plans_22 : decode cX6_plans 22 = .ok (.return_, 1) := by decide +kernel
theorem dX6_plans_23 : decode cX6_plans 23 = .ok (.aload_n 0, 1) := by decide +kernel
theorem dX6_plans_24 : decode cX6_plans 24 = .ok (.iload 5, 2) := by decide +kernel
theorem dX6_plans_26 : decode cX6_plans 26 = .ok (.putfield 128, 3) := by decide +kernel
theorem dX6_plans_29 : decode cX6_plans 29 = .ok (.iconst 0, 1) := by decide +kernel
theorem dX6_plans_30 : decode cX6_plans 30 = .ok (.istore 6, 2) := by decide +kernel
theorem dX6_plans_32 : decode cX6_plans 32 = .ok (.iload 6, 2) := by decide +kernel
theorem dX6_plans_34 : decode cX6_plans 34 = .ok (.iload_n 2, 1) := by decide +kernel
theorem dX6_plans_35 : decode cX6_plans 35 = .ok (.if_icmp .ge 23, 3) := by decide +kernel
theorem dX6_plans_38 : decode cX6_plans 38 = .ok (.aload_n 0, 1) := by decide +kernel
theorem dX6_plans_39 : decode cX6_plans 39 = .ok (.getfield 31, 3) := by decide +kernel
theorem dX6_plans_42 : decode cX6_plans 42 = .ok (.iload 6, 2) := by decide +kernel
theorem dX6_plans_44 : decode cX6_plans 44 = .ok (.aload_n 0, 1) := by decide +kernel
theorem dX6_plans_45 : decode cX6_plans 45 = .ok (.getfield 28, 3) := by decide +kernel
theorem dX6_plans_48 : decode cX6_plans 48 = .ok (.iload 6, 2) := by decide +kernel
theorem dX6_plans_50 : decode cX6_plans 50 = .ok (.iaload, 1) := by decide +kernel
theorem dX6_plans_51 : decode cX6_plans 51 = .ok (.iastore, 1) := by decide +kernel
theorem dX6_plans_52 : decode cX6_plans 52 = .ok (.iinc 6 1, 3) := by decide +kernel
theorem dX6_plans_55 : decode cX6_plans 55 = .ok (.goto (-23), 3) := by decide +kernel
theorem dX6_plans_58 : decode cX6_plans 58 = .ok (.return_, 1) := by decide +kernel
theorem dX6_plans_59 : decode cX6_plans 59 = .ok (.iconst 0, 1) := by decide +kernel
theorem dX6_plans_60 : decode cX6_plans 60 = .ok (.istore 5, 2) := by decide +kernel
theorem dX6_plans_62 : decode cX6_plans 62 = .ok (.iload 5, 2) := by decide +kernel
theorem dX6_plans_64 : decode cX6_plans 64 = .ok (.iconst 5, 1) := by decide +kernel
theorem dX6_plans_65 : decode cX6_plans 65 = .ok (.if_icmp .ge 79, 3) := by decide +kernel
theorem dX6_plans_68 : decode cX6_plans 68 = .ok (.iload_n 1, 1) := by decide +kernel
theorem dX6_plans_69 : decode cX6_plans 69 = .ok (.ifCond .ne 7, 3) := by decide +kernel
theorem dX6_plans_72 : decode cX6_plans 72 = .ok (.iconst 0, 1) := by decide +kernel
theorem dX6_plans_73 : decode cX6_plans 73 = .ok (.goto 17, 3) := by decide +kernel
theorem dX6_plans_76 : decode cX6_plans 76 = .ok (.iload 5, 2) := by decide +kernel
theorem dX6_plans_78 : decode cX6_plans 78 = .ok (.aload_n 0, 1) := by decide +kernel
theorem dX6_plans_79 : decode cX6_plans 79 = .ok (.getfield 28, 3) := by decide +kernel
theorem dX6_plans_82 : decode cX6_plans 82 = .ok (.iload_n 1, 1) := by decide +kernel
theorem dX6_plans_83 : decode cX6_plans 83 = .ok (.iconst 1, 1) := by decide +kernel
theorem dX6_plans_84 : decode cX6_plans 84 = .ok (.isub, 1) := by decide +kernel
theorem dX6_plans_85 : decode cX6_plans 85 = .ok (.iaload, 1) := by decide +kernel
theorem dX6_plans_86 : decode cX6_plans 86 = .ok (.isub, 1) := by decide +kernel
theorem dX6_plans_87 : decode cX6_plans 87 = .ok (.invokestatic 131, 3) := by decide +kernel
theorem dX6_plans_90 : decode cX6_plans 90 = .ok (.istore 6, 2) := by decide +kernel
theorem dX6_plans_92 : decode cX6_plans 92 = .ok (.iload 6, 2) := by decide +kernel
theorem dX6_plans_94 : decode cX6_plans 94 = .ok (.iload_n 3, 1) := by decide +kernel
theorem dX6_plans_95 : decode cX6_plans 95 = .ok (.if_icmp .le 6, 3) := by decide +kernel
theorem dX6_plans_98 : decode cX6_plans 98 = .ok (.goto 40, 3) := by decide +kernel
theorem dX6_plans_101 : decode cX6_plans 101 = .ok (.aload_n 0, 1) := by decide +kernel
theorem dX6_plans_102 : decode cX6_plans 102 = .ok (.getfield 28, 3) := by decide +kernel
theorem dX6_plans_105 : decode cX6_plans 105 = .ok (.iload_n 1, 1) := by decide +kernel
theorem dX6_plans_106 : decode cX6_plans 106 = .ok (.iload 5, 2) := by decide +kernel
theorem dX6_plans_108 : decode cX6_plans 108 = .ok (.iastore, 1) := by decide +kernel
theorem dX6_plans_109 : decode cX6_plans 109 = .ok (.aload_n 0, 1) := by decide +kernel
theorem dX6_plans_110 : decode cX6_plans 110 = .ok (.iload_n 1, 1) := by decide +kernel
theorem dX6_plans_111 : decode cX6_plans 111 = .ok (.iconst 1, 1) := by decide +kernel
theorem dX6_plans_112 : decode cX6_plans 112 = .ok (.iadd, 1) := by decide +kernel
theorem dX6_plans_113 : decode cX6_plans 113 = .ok (.iload_n 2, 1) := by decide +kernel
theorem dX6_plans_114 : decode cX6_plans 114 = .ok (.iload_n 3, 1) := by decide +kernel
theorem dX6_plans_115 : decode cX6_plans 115 = .ok (.iload 6, 2) := by decide +kernel
theorem dX6_plans_117 : decode cX6_plans 117 = .ok (.isub, 1) := by decide +kernel
theorem dX6_plans_118 : decode cX6_plans 118 = .ok (.iload 4, 2) := by decide +kernel
theorem dX6_plans_120 : decode cX6_plans 120 = .ok (.aload_n 0, 1) := by decide +kernel
theorem dX6_plans_121 : decode cX6_plans 121 = .ok (.iload 5, 2) := by decide +kernel
theorem dX6_plans_123 : decode cX6_plans 123 = .ok (.aload_n 0, 1) := by decide +kernel
theorem dX6_plans_124 : decode cX6_plans 124 = .ok (.getfield 13, 3) := by decide +kernel
theorem dX6_plans_127 : decode cX6_plans 127 = .ok (.iconst 1, 1) := by decide +kernel
theorem dX6_plans_128 : decode cX6_plans 128 = .ok (.iaload, 1) := by decide +kernel
theorem dX6_plans_129 : decode cX6_plans 129 = .ok (.iload_n 1, 1) := by decide +kernel
theorem dX6_plans_130 : decode cX6_plans 130 = .ok (.iadd, 1) := by decide +kernel
theorem dX6_plans_131 : decode cX6_plans 131 = .ok (.invokevirtual 116, 3) := by decide +kernel
theorem dX6_plans_134 : decode cX6_plans 134 = .ok (.ior, 1) := by decide +kernel
theorem dX6_plans_135 : decode cX6_plans 135 = .ok (.invokevirtual 134, 3) := by decide +kernel
theorem dX6_plans_138 : decode cX6_plans 138 = .ok (.iinc 5 1, 3) := by decide +kernel
theorem dX6_plans_141 : decode cX6_plans 141 = .ok (.goto (-79), 3) := by decide +kernel
theorem dX6_plans_144 : decode cX6_plans 144 = .ok (.return_, 1) := by decide +kernel
set_option maxRecDepth 20000 in
theorem ggX6_findsPlan_X6_plans : GoodIn wsX6_findsPlan wsX6_plans := goodIn_r _ [6, 1, 7, 8, 9, 10, 11, 12, 5, 13, 14, 15, 16, 17, 18, 19, 20, 21, 22, 23, 24, 25, 26, 27, 28, 29, 30, 31, 32, 33, 34, 35, 36, 37, 38, 39, 40, 41, 42, 43, 44, 2, 3, 4, 45, 46, 47, 48, 49, 50, 51, 52, 53, 54, 55, 56, 57, 58] (by decide +kernel) (by decide +kernel)
set_option maxRecDepth 20000 in
theorem gX6_findsPlan_X6_plans : GoodIn wsX6_findsPlan (wsV RX6 134 RX6 yX6_plans wsX6_plans) := goodIn_app (goodIn_of _ (by decide +kernel)) ggX6_findsPlan_X6_plans
theorem dX6_findsPlan_0 : decode cX6_findsPlan 0 = .ok (.aload_n 0, 1) := by decide +kernel
theorem dX6_findsPlan_1 : decode cX6_findsPlan 1 = .ok (.iconst (-1), 1) := by decide +kernel
theorem dX6_findsPlan_2 : decode cX6_findsPlan 2 = .ok (.putfield 128, 3) := by decide +kernel
theorem dX6_findsPlan_5 : decode cX6_findsPlan 5 = .ok (.aload_n 0, 1) := by decide +kernel
theorem dX6_findsPlan_6 : decode cX6_findsPlan 6 = .ok (.iconst 0, 1) := by decide +kernel
theorem dX6_findsPlan_7 : decode cX6_findsPlan 7 = .ok (.iload_n 1, 1) := by decide +kernel
theorem dX6_findsPlan_8 : decode cX6_findsPlan 8 = .ok (.iload_n 2, 1) := by decide +kernel
theorem dX6_findsPlan_9 : decode cX6_findsPlan 9 = .ok (.iconst 0, 1) := by decide +kernel
theorem dX6_findsPlan_10 : decode cX6_findsPlan 10 = .ok (.invokevirtual 134, 3) := by decide +kernel
theorem dX6_findsPlan_13 : decode cX6_findsPlan 13 = .ok (.return_, 1) := by decide +kernel
set_option maxRecDepth 20000 in
theorem ggX6_plan_X6_refuse : GoodIn wsX6_plan wsX6_refuse := goodIn_r _ [7, 8, 54, 55, 56, 57, 58, 59, 60, 61, 62, 63, 64, 65, 66, 67] (by decide +kernel) (by decide +kernel)
set_option maxRecDepth 20000 in
theorem gX6_plan_X6_refuse : GoodIn wsX6_plan (wsV RX6 49 RX6 yX6_refuse wsX6_refuse) := goodIn_app (goodIn_of _ (by decide +kernel)) ggX6_plan_X6_refuse
set_option maxRecDepth 20000 in
theorem ggX6_plan_X6_findsPlan : GoodIn wsX6_plan wsX6_findsPlan := goodIn_r _ [12, 1, 13, 14, 15, 6, 16, 2, 17, 18, 19, 20, 21, 22, 23, 24, 25, 26, 27, 28, 29, 30, 31, 32, 33, 34, 35, 36, 37, 38, 39, 40, 41, 42, 43, 44, 45, 46, 47, 48, 49, 50, 51, 52, 53, 54, 55, 56, 57, 58, 59, 60, 61, 62, 63, 64, 65, 66, 67] (by decide +kernel) (by decide +kernel)
set_option maxRecDepth 20000 in
theorem gX6_plan_X6_findsPlan : GoodIn wsX6_plan (wsV RX6 138 RX6 yX6_findsPlan wsX6_findsPlan) := goodIn_app (goodIn_of _ (by decide +kernel)) ggX6_plan_X6_findsPlan
theorem dX6_plan_0 : decode cX6_plan 0 = .ok (.iload_n 1, 1) := by decide +kernel
theorem dX6_plan_1 : decode cX6_plan 1 = .ok (.iconst 1, 1) := by decide +kernel
theorem dX6_plan_2 : decode cX6_plan 2 = .ok (.if_icmp .lt 12, 3) := by decide +kernel
theorem dX6_plan_5 : decode cX6_plan 5 = .ok (.iload_n 2, 1) := by decide +kernel
theorem dX6_plan_6 : decode cX6_plan 6 = .ok (.ifCond .lt 8, 3) := by decide +kernel
theorem dX6_plan_9 : decode cX6_plan 9 = .ok (.iload_n 3, 1) := by decide +kernel
theorem dX6_plan_10 : decode cX6_plan 10 = .ok (.iconst (-1), 1) := by decide +kernel
theorem dX6_plan_11 : decode cX6_plan 11 = .ok (.if_icmp .ge 8, 3) := by decide +kernel
theorem dX6_plan_14 : decode cX6_plan 14 = .ok (.bipush (-4), 2) := by decide +kernel
theorem dX6_plan_16 : decode cX6_plan 16 = .ok (.goto 20, 3) := by decide +kernel
theorem dX6_plan_19 : decode cX6_plan 19 = .ok (.iload_n 1, 1) := by decide +kernel
theorem dX6_plan_20 : decode cX6_plan 20 = .ok (.iconst 5, 1) := by decide +kernel
theorem dX6_plan_21 : decode cX6_plan 21 = .ok (.if_icmp .gt 9, 3) := by decide +kernel
theorem dX6_plan_24 : decode cX6_plan 24 = .ok (.iload_n 2, 1) := by decide +kernel
theorem dX6_plan_25 : decode cX6_plan 25 = .ok (.bipush 20, 2) := by decide +kernel
theorem dX6_plan_27 : decode cX6_plan 27 = .ok (.if_icmp .le 8, 3) := by decide +kernel
theorem dX6_plan_30 : decode cX6_plan 30 = .ok (.bipush (-6), 2) := by decide +kernel
theorem dX6_plan_32 : decode cX6_plan 32 = .ok (.goto 4, 3) := by decide +kernel
theorem dX6_plan_35 : decode cX6_plan 35 = .ok (.iconst 0, 1) := by decide +kernel
theorem dX6_plan_36 : decode cX6_plan 36 = .ok (.istore 4, 2) := by decide +kernel
theorem dX6_plan_38 : decode cX6_plan 38 = .ok (.iload 4, 2) := by decide +kernel
theorem dX6_plan_40 : decode cX6_plan 40 = .ok (.ifCond .eq 10, 3) := by decide +kernel
theorem dX6_plan_43 : decode cX6_plan 43 = .ok (.aload_n 0, 1) := by decide +kernel
theorem dX6_plan_44 : decode cX6_plan 44 = .ok (.iload 4, 2) := by decide +kernel
theorem dX6_plan_46 : decode cX6_plan 46 = .ok (.invokevirtual 49, 3) := by decide +kernel
theorem dX6_plan_49 : decode cX6_plan 49 = .ok (.ireturn, 1) := by decide +kernel
theorem dX6_plan_50 : decode cX6_plan 50 = .ok (.iload_n 3, 1) := by decide +kernel
theorem dX6_plan_51 : decode cX6_plan 51 = .ok (.iload_n 1, 1) := by decide +kernel
theorem dX6_plan_52 : decode cX6_plan 52 = .ok (.if_icmp .lt 6, 3) := by decide +kernel
theorem dX6_plan_55 : decode cX6_plan 55 = .ok (.bipush (-9), 2) := by decide +kernel
theorem dX6_plan_57 : decode cX6_plan 57 = .ok (.ireturn, 1) := by decide +kernel
theorem dX6_plan_58 : decode cX6_plan 58 = .ok (.aload_n 0, 1) := by decide +kernel
theorem dX6_plan_59 : decode cX6_plan 59 = .ok (.iload_n 1, 1) := by decide +kernel
theorem dX6_plan_60 : decode cX6_plan 60 = .ok (.iload_n 2, 1) := by decide +kernel
theorem dX6_plan_61 : decode cX6_plan 61 = .ok (.invokevirtual 138, 3) := by decide +kernel
theorem dX6_plan_64 : decode cX6_plan 64 = .ok (.iload_n 3, 1) := by decide +kernel
theorem dX6_plan_65 : decode cX6_plan 65 = .ok (.ifCond .ge 10, 3) := by decide +kernel
theorem dX6_plan_68 : decode cX6_plan 68 = .ok (.aload_n 0, 1) := by decide +kernel
theorem dX6_plan_69 : decode cX6_plan 69 = .ok (.getfield 128, 3) := by decide +kernel
theorem dX6_plan_72 : decode cX6_plan 72 = .ok (.goto 9, 3) := by decide +kernel
theorem dX6_plan_75 : decode cX6_plan 75 = .ok (.aload_n 0, 1) := by decide +kernel
theorem dX6_plan_76 : decode cX6_plan 76 = .ok (.getfield 31, 3) := by decide +kernel
theorem dX6_plan_79 : decode cX6_plan 79 = .ok (.iload_n 3, 1) := by decide +kernel
theorem dX6_plan_80 : decode cX6_plan 80 = .ok (.iaload, 1) := by decide +kernel
theorem dX6_plan_81 : decode cX6_plan 81 = .ok (.ireturn, 1) := by decide +kernel
set_option maxRecDepth 20000 in
theorem ggX6_await_X6_isEngine : GoodIn wsX6_await wsX6_isEngine := goodIn_r _ [6, 1, 7, 8, 5, 9, 30, 31, 32, 33, 34, 35, 36, 37, 38, 39, 40, 41, 42, 43] (by decide +kernel) (by decide +kernel)
set_option maxRecDepth 20000 in
theorem gX6_await_X6_isEngine : GoodIn wsX6_await (wsV RX6 110 RX6 yX6_isEngine wsX6_isEngine) := goodIn_app (goodIn_of _ (by decide +kernel)) ggX6_await_X6_isEngine
set_option maxRecDepth 20000 in
theorem ggX6_await_X6_isPlace : GoodIn wsX6_await wsX6_isPlace := goodIn_r _ [12, 7, 8, 5, 9] (by decide +kernel) (by decide +kernel)
set_option maxRecDepth 20000 in
theorem gX6_await_X6_isPlace : GoodIn wsX6_await (va_wsS RX6 113 yX6_isPlace wsX6_isPlace) := goodIn_app (goodIn_of _ (by decide +kernel)) ggX6_await_X6_isPlace
set_option maxRecDepth 20000 in
theorem ggX6_await_X6_refuse : GoodIn wsX6_await wsX6_refuse := goodIn_r _ [16, 17, 30, 31, 32, 33, 34, 35, 36, 37, 38, 39, 40, 41, 42, 43] (by decide +kernel) (by decide +kernel)
set_option maxRecDepth 20000 in
theorem gX6_await_X6_refuse : GoodIn wsX6_await (wsV RX6 49 RX6 yX6_refuse wsX6_refuse) := goodIn_app (goodIn_of _ (by decide +kernel)) ggX6_await_X6_refuse
set_option maxRecDepth 20000 in
theorem ggX6_await_X6_isAt : GoodIn wsX6_await wsX6_isAt := goodIn_r _ [21, 1, 22, 23, 24, 5, 25, 26, 27, 28, 29, 30, 31, 32, 33, 34, 35, 36, 37, 38, 39, 40, 41, 42, 43] (by decide +kernel) (by decide +kernel)
set_option maxRecDepth 20000 in
theorem gX6_await_X6_isAt : GoodIn wsX6_await (wsV RX6 97 RX6 yX6_isAt wsX6_isAt) := goodIn_app (goodIn_of _ (by decide +kernel)) ggX6_await_X6_isAt
theorem dX6_await_0 : decode cX6_await 0 = .ok (.aload_n 0, 1) := by decide +kernel
theorem dX6_await_1 : decode cX6_await 1 = .ok (.iload_n 1, 1) := by decide +kernel
theorem dX6_await_2 : decode cX6_await 2 = .ok (.invokevirtual 110, 3) := by decide +kernel
theorem dX6_await_5 : decode cX6_await 5 = .ok (.ifCond .eq 10, 3) := by decide +kernel
theorem dX6_await_8 : decode cX6_await 8 = .ok (.iload_n 2, 1) := by decide +kernel
theorem dX6_await_9 : decode cX6_await 9 = .ok (.invokestatic 113, 3) := by decide +kernel
theorem dX6_await_12 : decode cX6_await 12 = .ok (.ifCond .ne 9, 3) := by decide +kernel
theorem dX6_await_15 : decode cX6_await 15 = .ok (.aload_n 0, 1) := by decide +kernel
theorem dX6_await_16 : decode cX6_await 16 = .ok (.iconst (-1), 1) := by decide +kernel
theorem dX6_await_17 : decode cX6_await 17 = .ok (.invokevirtual 49, 3) := by decide +kernel
theorem dX6_await_20 : decode cX6_await 20 = .ok (.ireturn, 1) := by decide +kernel
theorem dX6_await_21 : decode cX6_await 21 = .ok (.iconst 0, 1) := by decide +kernel
theorem dX6_await_22 : decode cX6_await 22 = .ok (.istore_n 3, 1) := by decide +kernel
theorem dX6_await_23 : decode cX6_await 23 = .ok (.iload_n 3, 1) := by decide +kernel
theorem dX6_await_24 : decode cX6_await 24 = .ok (.bipush 60, 2) := by decide +kernel
theorem dX6_await_26 : decode cX6_await 26 = .ok (.if_icmp .gt 28, 3) := by decide +kernel
theorem dX6_await_29 : decode cX6_await 29 = .ok (.aload_n 0, 1) := by decide +kernel
theorem dX6_await_30 : decode cX6_await 30 = .ok (.iload_n 1, 1) := by decide +kernel
theorem dX6_await_31 : decode cX6_await 31 = .ok (.aload_n 0, 1) := by decide +kernel
theorem dX6_await_32 : decode cX6_await 32 = .ok (.getfield 13, 3) := by decide +kernel
theorem dX6_await_35 : decode cX6_await 35 = .ok (.iconst 1, 1) := by decide +kernel
theorem dX6_await_36 : decode cX6_await 36 = .ok (.iaload, 1) := by decide +kernel
theorem dX6_await_37 : decode cX6_await 37 = .ok (.iload_n 3, 1) := by decide +kernel
theorem dX6_await_38 : decode cX6_await 38 = .ok (.iadd, 1) := by decide +kernel
theorem dX6_await_39 : decode cX6_await 39 = .ok (.invokevirtual 97, 3) := by decide +kernel
theorem dX6_await_42 : decode cX6_await 42 = .ok (.iload_n 2, 1) := by decide +kernel
theorem dX6_await_43 : decode cX6_await 43 = .ok (.if_icmp .ne 5, 3) := by decide +kernel
theorem dX6_await_46 : decode cX6_await 46 = .ok (.iload_n 3, 1) := by decide +kernel
theorem dX6_await_47 : decode cX6_await 47 = .ok (.ireturn, 1) := by decide +kernel
theorem dX6_await_48 : decode cX6_await 48 = .ok (.iinc 3 1, 3) := by decide +kernel
theorem dX6_await_51 : decode cX6_await 51 = .ok (.goto (-28), 3) := by decide +kernel
theorem dX6_await_54 : decode cX6_await 54 = .ok (.bipush (-9), 2) := by decide +kernel
theorem dX6_await_56 : decode cX6_await 56 = .ok (.ireturn, 1) := by decide +kernel
set_option maxRecDepth 20000 in
theorem ggX6_chase_X6_isEngine : GoodIn wsX6_chase wsX6_isEngine := goodIn_r _ [6, 1, 7, 8, 5, 9, 27, 28, 29, 30, 31, 32, 33, 34, 35, 36, 37, 38, 39, 40] (by decide +kernel) (by decide +kernel)
set_option maxRecDepth 20000 in
theorem gX6_chase_X6_isEngine : GoodIn wsX6_chase (wsV RX6 110 RX6 yX6_isEngine wsX6_isEngine) := goodIn_app (goodIn_of _ (by decide +kernel)) ggX6_chase_X6_isEngine
set_option maxRecDepth 20000 in
theorem ggX6_chase_X6_refuse : GoodIn wsX6_chase wsX6_refuse := goodIn_r _ [13, 14, 27, 28, 29, 30, 31, 32, 33, 34, 35, 36, 37, 38, 39, 40] (by decide +kernel) (by decide +kernel)
set_option maxRecDepth 20000 in
theorem gX6_chase_X6_refuse : GoodIn wsX6_chase (wsV RX6 49 RX6 yX6_refuse wsX6_refuse) := goodIn_app (goodIn_of _ (by decide +kernel)) ggX6_chase_X6_refuse
set_option maxRecDepth 20000 in
theorem ggX6_chase_X6_isAt : GoodIn wsX6_chase wsX6_isAt := goodIn_r _ [18, 1, 19, 20, 21, 5, 22, 23, 24, 25, 26, 27, 28, 29, 30, 31, 32, 33, 34, 35, 36, 37, 38, 39, 40] (by decide +kernel) (by decide +kernel)
set_option maxRecDepth 20000 in
theorem gX6_chase_X6_isAt : GoodIn wsX6_chase (wsV RX6 97 RX6 yX6_isAt wsX6_isAt) := goodIn_app (goodIn_of _ (by decide +kernel)) ggX6_chase_X6_isAt
theorem dX6_chase_0 : decode cX6_chase 0 = .ok (.aload_n 0, 1) := by decide +kernel
theorem dX6_chase_1 : decode cX6_chase 1 = .ok (.iload_n 1, 1) := by decide +kernel
theorem dX6_chase_2 : decode cX6_chase 2 = .ok (.invokevirtual 110, 3) := by decide +kernel
theorem dX6_chase_5 : decode cX6_chase 5 = .ok (.ifCond .ne 9, 3) := by decide +kernel
theorem dX6_chase_8 : decode cX6_chase 8 = .ok (.aload_n 0, 1) := by decide +kernel
theorem dX6_chase_9 : decode cX6_chase 9 = .ok (.iconst (-1), 1) := by decide +kernel
theorem dX6_chase_10 : decode cX6_chase 10 = .ok (.invokevirtual 49, 3) := by decide +kernel
theorem dX6_chase_13 : decode cX6_chase 13 = .ok (.ireturn, 1) := by decide +kernel
theorem dX6_chase_14 : decode cX6_chase 14 = .ok (.iconst 0, 1) := by decide +kernel
theorem dX6_chase_15 : decode cX6_chase 15 = .ok (.istore_n 2, 1) := by decide +kernel
theorem dX6_chase_16 : decode cX6_chase 16 = .ok (.iload_n 2, 1) := by decide +kernel
theorem dX6_chase_17 : decode cX6_chase 17 = .ok (.bipush 60, 2) := by decide +kernel
theorem dX6_chase_19 : decode cX6_chase 19 = .ok (.if_icmp .gt 29, 3) := by decide +kernel
theorem dX6_chase_22 : decode cX6_chase 22 = .ok (.aload_n 0, 1) := by decide +kernel
theorem dX6_chase_23 : decode cX6_chase 23 = .ok (.iload_n 1, 1) := by decide +kernel
theorem dX6_chase_24 : decode cX6_chase 24 = .ok (.aload_n 0, 1) := by decide +kernel
theorem dX6_chase_25 : decode cX6_chase 25 = .ok (.getfield 13, 3) := by decide +kernel
theorem dX6_chase_28 : decode cX6_chase 28 = .ok (.iconst 1, 1) := by decide +kernel
theorem dX6_chase_29 : decode cX6_chase 29 = .ok (.iaload, 1) := by decide +kernel
theorem dX6_chase_30 : decode cX6_chase 30 = .ok (.iload_n 2, 1) := by decide +kernel
theorem dX6_chase_31 : decode cX6_chase 31 = .ok (.iadd, 1) := by decide +kernel
theorem dX6_chase_32 : decode cX6_chase 32 = .ok (.invokevirtual 97, 3) := by decide +kernel
theorem dX6_chase_35 : decode cX6_chase 35 = .ok (.bipush 9, 2) := by decide +kernel
theorem dX6_chase_37 : decode cX6_chase 37 = .ok (.if_icmp .eq 5, 3) := by decide +kernel
theorem dX6_chase_40 : decode cX6_chase 40 = .ok (.iload_n 2, 1) := by decide +kernel
theorem dX6_chase_41 : decode cX6_chase 41 = .ok (.ireturn, 1) := by decide +kernel
theorem dX6_chase_42 : decode cX6_chase 42 = .ok (.iinc 2 1, 3) := by decide +kernel
theorem dX6_chase_45 : decode cX6_chase 45 = .ok (.goto (-29), 3) := by decide +kernel
theorem dX6_chase_48 : decode cX6_chase 48 = .ok (.bipush (-9), 2) := by decide +kernel
theorem dX6_chase_50 : decode cX6_chase 50 = .ok (.ireturn, 1) := by decide +kernel
set_option maxRecDepth 20000 in
theorem ggX6_ever_X6_isAt : GoodIn wsX6_ever wsX6_isAt := goodIn_r _ [6, 1, 7, 8, 9, 5, 10, 11, 12, 13, 14, 31, 32, 33, 34, 35, 36, 37, 38, 39, 40, 41, 42, 43, 44] (by decide +kernel) (by decide +kernel)
set_option maxRecDepth 20000 in
theorem gX6_ever_X6_isAt : GoodIn wsX6_ever (wsV RX6 97 RX6 yX6_isAt wsX6_isAt) := goodIn_app (goodIn_of _ (by decide +kernel)) ggX6_ever_X6_isAt
set_option maxRecDepth 20000 in
theorem ggX6_ever_X6_newOf : GoodIn wsX6_ever wsX6_newOf := goodIn_r _ [18, 19, 20, 21, 5, 22, 1, 7, 8, 9, 10, 23, 24, 25, 26, 27, 28, 29, 30, 31, 32, 33, 34, 35, 36, 37, 38, 39, 40, 41, 42, 43, 44] (by decide +kernel) (by decide +kernel)
set_option maxRecDepth 20000 in
theorem gX6_ever_X6_newOf : GoodIn wsX6_ever (wsV RX6 119 RX6 yX6_newOf wsX6_newOf) := goodIn_app (goodIn_of _ (by decide +kernel)) ggX6_ever_X6_newOf
theorem dX6_ever_0 : decode cX6_ever 0 = .ok (.iconst 0, 1) := by decide +kernel
theorem dX6_ever_1 : decode cX6_ever 1 = .ok (.istore_n 1, 1) := by decide +kernel
theorem dX6_ever_2 : decode cX6_ever 2 = .ok (.iconst 0, 1) := by decide +kernel
theorem dX6_ever_3 : decode cX6_ever 3 = .ok (.istore_n 2, 1) := by decide +kernel
theorem dX6_ever_4 : decode cX6_ever 4 = .ok (.iload_n 2, 1) := by decide +kernel
theorem dX6_ever_5 : decode cX6_ever 5 = .ok (.aload_n 0, 1) := by decide +kernel
theorem dX6_ever_6 : decode cX6_ever 6 = .ok (.getfield 13, 3) := by decide +kernel
theorem dX6_ever_9 : decode cX6_ever 9 = .ok (.iconst 0, 1) := by decide +kernel
theorem dX6_ever_10 : decode cX6_ever 10 = .ok (.iaload, 1) := by decide +kernel
theorem dX6_ever_11 : decode cX6_ever 11 = .ok (.if_icmp .ge 47, 3) := by decide +kernel
theorem dX6_ever_14 : decode cX6_ever 14 = .ok (.iconst 0, 1) := by decide +kernel
theorem dX6_ever_15 : decode cX6_ever 15 = .ok (.istore_n 3, 1) := by decide +kernel
theorem dX6_ever_16 : decode cX6_ever 16 = .ok (.iload_n 3, 1) := by decide +kernel
theorem dX6_ever_17 : decode cX6_ever 17 = .ok (.bipush 60, 2) := by decide +kernel
theorem dX6_ever_19 : decode cX6_ever 19 = .ok (.if_icmp .gt 33, 3) := by decide +kernel
theorem dX6_ever_22 : decode cX6_ever 22 = .ok (.aload_n 0, 1) := by decide +kernel
theorem dX6_ever_23 : decode cX6_ever 23 = .ok (.iload_n 2, 1) := by decide +kernel
theorem dX6_ever_24 : decode cX6_ever 24 = .ok (.aload_n 0, 1) := by decide +kernel
theorem dX6_ever_25 : decode cX6_ever 25 = .ok (.getfield 13, 3) := by decide +kernel
theorem dX6_ever_28 : decode cX6_ever 28 = .ok (.iconst 1, 1) := by decide +kernel
theorem dX6_ever_29 : decode cX6_ever 29 = .ok (.iaload, 1) := by decide +kernel
theorem dX6_ever_30 : decode cX6_ever 30 = .ok (.iload_n 3, 1) := by decide +kernel
theorem dX6_ever_31 : decode cX6_ever 31 = .ok (.iadd, 1) := by decide +kernel
theorem dX6_ever_32 : decode cX6_ever 32 = .ok (.invokevirtual 97, 3) := by decide +kernel
theorem dX6_ever_35 : decode cX6_ever 35 = .ok (.bipush 9, 2) := by decide +kernel
theorem dX6_ever_37 : decode cX6_ever 37 = .ok (.if_icmp .eq 9, 3) := by decide +kernel
theorem dX6_ever_40 : decode cX6_ever 40 = .ok (.iload_n 1, 1) := by decide +kernel
theorem dX6_ever_41 : decode cX6_ever 41 = .ok (.iconst 1, 1) := by decide +kernel
theorem dX6_ever_42 : decode cX6_ever 42 = .ok (.iload_n 2, 1) := by decide +kernel
theorem dX6_ever_43 : decode cX6_ever 43 = .ok (.ishl, 1) := by decide +kernel
theorem dX6_ever_44 : decode cX6_ever 44 = .ok (.ior, 1) := by decide +kernel
theorem dX6_ever_45 : decode cX6_ever 45 = .ok (.istore_n 1, 1) := by decide +kernel
theorem dX6_ever_46 : decode cX6_ever 46 = .ok (.iinc 3 1, 3) := by decide +kernel
theorem dX6_ever_49 : decode cX6_ever 49 = .ok (.goto (-33), 3) := by decide +kernel
theorem dX6_ever_52 : decode cX6_ever 52 = .ok (.iinc 2 1, 3) := by decide +kernel
theorem dX6_ever_55 : decode cX6_ever 55 = .ok (.goto (-51), 3) := by decide +kernel
theorem dX6_ever_58 : decode cX6_ever 58 = .ok (.aload_n 0, 1) := by decide +kernel
theorem dX6_ever_59 : decode cX6_ever 59 = .ok (.iload_n 1, 1) := by decide +kernel
theorem dX6_ever_60 : decode cX6_ever 60 = .ok (.invokevirtual 119, 3) := by decide +kernel
theorem dX6_ever_63 : decode cX6_ever 63 = .ok (.ireturn, 1) := by decide +kernel
set_option maxRecDepth 20000 in
theorem ggX6_allNew_X6_newOf : GoodIn wsX6_allNew wsX6_newOf := goodIn_r _ [6, 7, 8, 9, 5, 10, 1, 11, 12, 13, 14, 15, 16, 17, 18, 19, 20, 21, 22, 23, 24, 25, 26, 27, 28, 29, 30, 31, 32, 33, 34, 35, 36] (by decide +kernel) (by decide +kernel)
set_option maxRecDepth 20000 in
theorem gX6_allNew_X6_newOf : GoodIn wsX6_allNew (wsV RX6 119 RX6 yX6_newOf wsX6_newOf) := goodIn_app (goodIn_of _ (by decide +kernel)) ggX6_allNew_X6_newOf
theorem dX6_allNew_0 : decode cX6_allNew 0 = .ok (.aload_n 0, 1) := by decide +kernel
theorem dX6_allNew_1 : decode cX6_allNew 1 = .ok (.iconst 1, 1) := by decide +kernel
theorem dX6_allNew_2 : decode cX6_allNew 2 = .ok (.aload_n 0, 1) := by decide +kernel
theorem dX6_allNew_3 : decode cX6_allNew 3 = .ok (.getfield 13, 3) := by decide +kernel
theorem dX6_allNew_6 : decode cX6_allNew 6 = .ok (.iconst 0, 1) := by decide +kernel
theorem dX6_allNew_7 : decode cX6_allNew 7 = .ok (.iaload, 1) := by decide +kernel
theorem dX6_allNew_8 : decode cX6_allNew 8 = .ok (.ishl, 1) := by decide +kernel
theorem dX6_allNew_9 : decode cX6_allNew 9 = .ok (.iconst 1, 1) := by decide +kernel
theorem dX6_allNew_10 : decode cX6_allNew 10 = .ok (.isub, 1) := by decide +kernel
theorem dX6_allNew_11 : decode cX6_allNew 11 = .ok (.invokevirtual 119, 3) := by decide +kernel
theorem dX6_allNew_14 : decode cX6_allNew 14 = .ok (.ireturn, 1) := by decide +kernel
set_option maxRecDepth 20000 in
theorem ggX6_all_X6_allNew : GoodIn wsX6_all wsX6_allNew := goodIn_r _ [6, 7, 8, 9, 10, 5, 11, 12, 13, 14, 15, 16, 17, 18, 19, 20, 21, 22, 23, 24, 25, 26, 27, 53, 54, 55, 56, 57, 58, 59, 60, 61, 62, 63, 64, 65, 66] (by decide +kernel) (by decide +kernel)
set_option maxRecDepth 20000 in
theorem gX6_all_X6_allNew : GoodIn wsX6_all (wsV RX6 142 RX6 yX6_allNew wsX6_allNew) := goodIn_app (goodIn_of _ (by decide +kernel)) ggX6_all_X6_allNew
set_option maxRecDepth 20000 in
theorem ggX6_all_X6_findsPlan : GoodIn wsX6_all wsX6_findsPlan := goodIn_r _ [31, 1, 32, 33, 34, 5, 35, 36, 37, 7, 8, 9, 10, 11, 12, 13, 14, 15, 16, 17, 18, 19, 20, 21, 22, 23, 24, 25, 26, 27, 38, 39, 40, 41, 42, 43, 44, 45, 46, 47, 48, 49, 50, 51, 52, 53, 54, 55, 56, 57, 58, 59, 60, 61, 62, 63, 64, 65, 66] (by decide +kernel) (by decide +kernel)
set_option maxRecDepth 20000 in
theorem gX6_all_X6_findsPlan : GoodIn wsX6_all (wsV RX6 138 RX6 yX6_findsPlan wsX6_findsPlan) := goodIn_app (goodIn_of _ (by decide +kernel)) ggX6_all_X6_findsPlan
theorem dX6_all_0 : decode cX6_all 0 = .ok (.aload_n 0, 1) := by decide +kernel
theorem dX6_all_1 : decode cX6_all 1 = .ok (.invokevirtual 142, 3) := by decide +kernel
theorem dX6_all_4 : decode cX6_all 4 = .ok (.istore_n 1, 1) := by decide +kernel
theorem dX6_all_5 : decode cX6_all 5 = .ok (.iload_n 1, 1) := by decide +kernel
theorem dX6_all_6 : decode cX6_all 6 = .ok (.ifCond .ne 5, 3) := by decide +kernel
theorem dX6_all_9 : decode cX6_all 9 = .ok (.iconst 0, 1) := by decide +kernel
theorem dX6_all_10 : decode cX6_all 10 = .ok (.ireturn, 1) := by decide +kernel
theorem dX6_all_11 : decode cX6_all 11 = .ok (.iconst 1, 1) := by decide +kernel
theorem dX6_all_12 : decode cX6_all 12 = .ok (.istore_n 2, 1) := by decide +kernel
theorem dX6_all_13 : decode cX6_all 13 = .ok (.iload_n 2, 1) := by decide +kernel
theorem dX6_all_14 : decode cX6_all 14 = .ok (.iconst 5, 1) := by decide +kernel
theorem dX6_all_15 : decode cX6_all 15 = .ok (.if_icmp .gt 26, 3) := by decide +kernel
theorem dX6_all_18 : decode cX6_all 18 = .ok (.aload_n 0, 1) := by decide +kernel
theorem dX6_all_19 : decode cX6_all 19 = .ok (.iload_n 2, 1) := by decide +kernel
theorem dX6_all_20 : decode cX6_all 20 = .ok (.bipush 20, 2) := by decide +kernel
theorem dX6_all_22 : decode cX6_all 22 = .ok (.invokevirtual 138, 3) := by decide +kernel
theorem dX6_all_25 : decode cX6_all 25 = .ok (.aload_n 0, 1) := by decide +kernel
theorem dX6_all_26 : decode cX6_all 26 = .ok (.getfield 128, 3) := by decide +kernel
theorem dX6_all_29 : decode cX6_all 29 = .ok (.iload_n 1, 1) := by decide +kernel
theorem dX6_all_30 : decode cX6_all 30 = .ok (.if_icmp .ne 5, 3) := by decide +kernel
theorem dX6_all_33 : decode cX6_all 33 = .ok (.iload_n 2, 1) := by decide +kernel
theorem dX6_all_34 : decode cX6_all 34 = .ok (.ireturn, 1) := by decide +kernel
theorem dX6_all_35 : decode cX6_all 35 = .ok (.iinc 2 1, 3) := by decide +kernel
theorem dX6_all_38 : decode cX6_all 38 = .ok (.goto (-25), 3) := by decide +kernel
theorem dX6_all_41 : decode cX6_all 41 = .ok (.bipush (-9), 2) := by decide +kernel
theorem dX6_all_43 : decode cX6_all 43 = .ok (.ireturn, 1) := by decide +kernel
theorem dX6_in_0 : decode cX6_in 0 = .ok (.aload_n 0, 1) := by decide +kernel
theorem dX6_in_1 : decode cX6_in 1 = .ok (.getfield 13, 3) := by decide +kernel
theorem dX6_in_4 : decode cX6_in 4 = .ok (.bipush 82, 2) := by decide +kernel
theorem dX6_in_6 : decode cX6_in 6 = .ok (.iconst 4, 1) := by decide +kernel
theorem dX6_in_7 : decode cX6_in 7 = .ok (.iload_n 1, 1) := by decide +kernel
theorem dX6_in_8 : decode cX6_in 8 = .ok (.imul, 1) := by decide +kernel
theorem dX6_in_9 : decode cX6_in 9 = .ok (.iadd, 1) := by decide +kernel
theorem dX6_in_10 : decode cX6_in 10 = .ok (.iload_n 2, 1) := by decide +kernel
theorem dX6_in_11 : decode cX6_in 11 = .ok (.iadd, 1) := by decide +kernel
theorem dX6_in_12 : decode cX6_in 12 = .ok (.iaload, 1) := by decide +kernel
theorem dX6_in_13 : decode cX6_in 13 = .ok (.ireturn, 1) := by decide +kernel
set_option maxRecDepth 20000 in
theorem ggX6_reading_X6_isPlace : GoodIn wsX6_reading wsX6_isPlace := goodIn_r _ [5, 6, 7, 4, 8] (by decide +kernel) (by decide +kernel)
set_option maxRecDepth 20000 in
theorem gX6_reading_X6_isPlace : GoodIn wsX6_reading (va_wsS RX6 113 yX6_isPlace wsX6_isPlace) := goodIn_app (goodIn_of _ (by decide +kernel)) ggX6_reading_X6_isPlace
set_option maxRecDepth 20000 in
theorem ggX6_reading_X6_isIn : GoodIn wsX6_reading wsX6_isIn := goodIn_r _ [8] (by decide +kernel) (by decide +kernel)
set_option maxRecDepth 20000 in
theorem gX6_reading_X6_isIn : GoodIn wsX6_reading (va_wsS RX6 37 yX6_isIn wsX6_isIn) := goodIn_app (goodIn_of _ (by decide +kernel)) ggX6_reading_X6_isIn
set_option maxRecDepth 20000 in
theorem ggX6_reading_X6_refuse : GoodIn wsX6_reading wsX6_refuse := goodIn_r _ [12, 13, 14, 15, 16, 17, 18, 19, 20, 21, 22, 23, 24, 25, 26, 27] (by decide +kernel) (by decide +kernel)
set_option maxRecDepth 20000 in
theorem gX6_reading_X6_refuse : GoodIn wsX6_reading (wsV RX6 49 RX6 yX6_refuse wsX6_refuse) := goodIn_app (goodIn_of _ (by decide +kernel)) ggX6_reading_X6_refuse
theorem dX6_reading_0 : decode cX6_reading 0 = .ok (.iload_n 2, 1) := by decide +kernel
theorem dX6_reading_1 : decode cX6_reading 1 = .ok (.invokestatic 113, 3) := by decide +kernel
theorem dX6_reading_4 : decode cX6_reading 4 = .ok (.ifCond .eq 12, 3) := by decide +kernel
theorem dX6_reading_7 : decode cX6_reading 7 = .ok (.iload 4, 2) := by decide +kernel
theorem dX6_reading_9 : decode cX6_reading 9 = .ok (.iconst 4, 1) := by decide +kernel
theorem dX6_reading_10 : decode cX6_reading 10 = .ok (.invokestatic 37, 3) := by decide +kernel
theorem dX6_reading_13 : decode cX6_reading 13 = .ok (.ifCond .ne 7, 3) := by decide +kernel
theorem dX6_reading_16 : decode cX6_reading 16 = .ok (.iconst (-1), 1) := by decide +kernel
theorem dX6_reading_17 : decode cX6_reading 17 = .ok (.goto 48, 3) := by decide +kernel
theorem dX6_reading_20 : decode cX6_reading 20 = .ok (.iload_n 1, 1) := by decide +kernel
theorem dX6_reading_21 : decode cX6_reading 21 = .ok (.ifCond .lt 9, 3) := by decide +kernel
theorem dX6_reading_24 : decode cX6_reading 24 = .ok (.iload_n 3, 1) := by decide +kernel
theorem dX6_reading_25 : decode cX6_reading 25 = .ok (.bipush 10, 2) := by decide +kernel
theorem dX6_reading_27 : decode cX6_reading 27 = .ok (.if_icmp .ge 8, 3) := by decide +kernel
theorem dX6_reading_30 : decode cX6_reading 30 = .ok (.bipush (-4), 2) := by decide +kernel
theorem dX6_reading_32 : decode cX6_reading 32 = .ok (.goto 33, 3) := by decide +kernel
theorem dX6_reading_35 : decode cX6_reading 35 = .ok (.iload_n 1, 1) := by decide +kernel
theorem dX6_reading_36 : decode cX6_reading 36 = .ok (.sipush 1100, 3) := by decide +kernel
theorem dX6_reading_39 : decode cX6_reading 39 = .ok (.if_icmp .gt 20, 3) := by decide +kernel
theorem dX6_reading_42 : decode cX6_reading 42 = .ok (.iload_n 3, 1) := by decide +kernel
theorem dX6_reading_43 : decode cX6_reading 43 = .ok (.bipush 99, 2) := by decide +kernel
theorem dX6_reading_45 : decode cX6_reading 45 = .ok (.if_icmp .gt 14, 3) := by decide +kernel
theorem dX6_reading_48 : decode cX6_reading 48 = .ok (.aload_n 0, 1) := by decide +kernel
theorem dX6_reading_49 : decode cX6_reading 49 = .ok (.getfield 13, 3) := by decide +kernel
theorem dX6_reading_52 : decode cX6_reading 52 = .ok (.iconst 4, 1) := by decide +kernel
theorem dX6_reading_53 : decode cX6_reading 53 = .ok (.iaload, 1) := by decide +kernel
theorem dX6_reading_54 : decode cX6_reading 54 = .ok (.bipush 12, 2) := by decide +kernel
theorem dX6_reading_56 : decode cX6_reading 56 = .ok (.if_icmp .ne 8, 3) := by decide +kernel
theorem dX6_reading_59 : decode cX6_reading 59 = .ok (.bipush (-6), 2) := by decide +kernel
theorem dX6_reading_61 : decode cX6_reading 61 = .ok (.goto 4, 3) := by decide +kernel
theorem dX6_reading_64 : decode cX6_reading 64 = .ok (.iconst 0, 1) := by decide +kernel
theorem dX6_reading_65 : decode cX6_reading 65 = .ok (.istore 5, 2) := by decide +kernel
theorem dX6_reading_67 : decode cX6_reading 67 = .ok (.iload 5, 2) := by decide +kernel
theorem dX6_reading_69 : decode cX6_reading 69 = .ok (.ifCond .eq 10, 3) := by decide +kernel
theorem dX6_reading_72 : decode cX6_reading 72 = .ok (.aload_n 0, 1) := by decide +kernel
theorem dX6_reading_73 : decode cX6_reading 73 = .ok (.iload 5, 2) := by decide +kernel
theorem dX6_reading_75 : decode cX6_reading 75 = .ok (.invokevirtual 49, 3) := by decide +kernel
theorem dX6_reading_78 : decode cX6_reading 78 = .ok (.ireturn, 1) := by decide +kernel
theorem dX6_reading_79 : decode cX6_reading 79 = .ok (.bipush 82, 2) := by decide +kernel
theorem dX6_reading_81 : decode cX6_reading 81 = .ok (.iconst 4, 1) := by decide +kernel
theorem dX6_reading_82 : decode cX6_reading 82 = .ok (.aload_n 0, 1) := by decide +kernel
theorem dX6_reading_83 : decode cX6_reading 83 = .ok (.getfield 13, 3) := by decide +kernel
theorem dX6_reading_86 : decode cX6_reading 86 = .ok (.iconst 4, 1) := by decide +kernel
theorem dX6_reading_87 : decode cX6_reading 87 = .ok (.iaload, 1) := by decide +kernel
theorem dX6_reading_88 : decode cX6_reading 88 = .ok (.imul, 1) := by decide +kernel
theorem dX6_reading_89 : decode cX6_reading 89 = .ok (.iadd, 1) := by decide +kernel
theorem dX6_reading_90 : decode cX6_reading 90 = .ok (.istore 6, 2) := by decide +kernel
theorem dX6_reading_92 : decode cX6_reading 92 = .ok (.aload_n 0, 1) := by decide +kernel
theorem dX6_reading_93 : decode cX6_reading 93 = .ok (.getfield 13, 3) := by decide +kernel
theorem dX6_reading_96 : decode cX6_reading 96 = .ok (.iload 6, 2) := by decide +kernel
theorem dX6_reading_98 : decode cX6_reading 98 = .ok (.iload_n 1, 1) := by decide +kernel
theorem dX6_reading_99 : decode cX6_reading 99 = .ok (.iastore, 1) := by decide +kernel
theorem dX6_reading_100 : decode cX6_reading 100 = .ok (.aload_n 0, 1) := by decide +kernel
theorem dX6_reading_101 : decode cX6_reading 101 = .ok (.getfield 13, 3) := by decide +kernel
theorem dX6_reading_104 : decode cX6_reading 104 = .ok (.iload 6, 2) := by decide +kernel
theorem dX6_reading_106 : decode cX6_reading 106 = .ok (.iconst 1, 1) := by decide +kernel
theorem dX6_reading_107 : decode cX6_reading 107 = .ok (.iadd, 1) := by decide +kernel
theorem dX6_reading_108 : decode cX6_reading 108 = .ok (.iload_n 2, 1) := by decide +kernel
theorem dX6_reading_109 : decode cX6_reading 109 = .ok (.iastore, 1) := by decide +kernel
theorem dX6_reading_110 : decode cX6_reading 110 = .ok (.aload_n 0, 1) := by decide +kernel
theorem dX6_reading_111 : decode cX6_reading 111 = .ok (.getfield 13, 3) := by decide +kernel
theorem dX6_reading_114 : decode cX6_reading 114 = .ok (.iload 6, 2) := by decide +kernel
theorem dX6_reading_116 : decode cX6_reading 116 = .ok (.iconst 2, 1) := by decide +kernel
theorem dX6_reading_117 : decode cX6_reading 117 = .ok (.iadd, 1) := by decide +kernel
theorem dX6_reading_118 : decode cX6_reading 118 = .ok (.iload_n 3, 1) := by decide +kernel
theorem dX6_reading_119 : decode cX6_reading 119 = .ok (.iastore, 1) := by decide +kernel
theorem dX6_reading_120 : decode cX6_reading 120 = .ok (.aload_n 0, 1) := by decide +kernel
theorem dX6_reading_121 : decode cX6_reading 121 = .ok (.getfield 13, 3) := by decide +kernel
theorem dX6_reading_124 : decode cX6_reading 124 = .ok (.iload 6, 2) := by decide +kernel
theorem dX6_reading_126 : decode cX6_reading 126 = .ok (.iconst 3, 1) := by decide +kernel
theorem dX6_reading_127 : decode cX6_reading 127 = .ok (.iadd, 1) := by decide +kernel
theorem dX6_reading_128 : decode cX6_reading 128 = .ok (.iload 4, 2) := by decide +kernel
theorem dX6_reading_130 : decode cX6_reading 130 = .ok (.iastore, 1) := by decide +kernel
theorem dX6_reading_131 : decode cX6_reading 131 = .ok (.aload_n 0, 1) := by decide +kernel
theorem dX6_reading_132 : decode cX6_reading 132 = .ok (.getfield 13, 3) := by decide +kernel
theorem dX6_reading_135 : decode cX6_reading 135 = .ok (.iconst 4, 1) := by decide +kernel
theorem dX6_reading_136 : decode cX6_reading 136 = .ok (.dup2, 1) := by decide +kernel
theorem dX6_reading_137 : decode cX6_reading 137 = .ok (.iaload, 1) := by decide +kernel
theorem dX6_reading_138 : decode cX6_reading 138 = .ok (.iconst 1, 1) := by decide +kernel
theorem dX6_reading_139 : decode cX6_reading 139 = .ok (.iadd, 1) := by decide +kernel
theorem dX6_reading_140 : decode cX6_reading 140 = .ok (.iastore, 1) := by decide +kernel
theorem dX6_reading_141 : decode cX6_reading 141 = .ok (.aload_n 0, 1) := by decide +kernel
theorem dX6_reading_142 : decode cX6_reading 142 = .ok (.getfield 13, 3) := by decide +kernel
theorem dX6_reading_145 : decode cX6_reading 145 = .ok (.iconst 4, 1) := by decide +kernel
theorem dX6_reading_146 : decode cX6_reading 146 = .ok (.iaload, 1) := by decide +kernel
theorem dX6_reading_147 : decode cX6_reading 147 = .ok (.ireturn, 1) := by decide +kernel
set_option maxRecDepth 20000 in
theorem ggX6_forget_X6_refuse : GoodIn wsX6_forget wsX6_refuse := goodIn_r _ [6, 7, 8, 9, 10, 11, 12, 13, 14, 15, 16, 17, 18, 19, 20, 21] (by decide +kernel) (by decide +kernel)
set_option maxRecDepth 20000 in
theorem gX6_forget_X6_refuse : GoodIn wsX6_forget (wsV RX6 49 RX6 yX6_refuse wsX6_refuse) := goodIn_app (goodIn_of _ (by decide +kernel)) ggX6_forget_X6_refuse
theorem dX6_forget_0 : decode cX6_forget 0 = .ok (.aload_n 0, 1) := by decide +kernel
theorem dX6_forget_1 : decode cX6_forget 1 = .ok (.getfield 13, 3) := by decide +kernel
theorem dX6_forget_4 : decode cX6_forget 4 = .ok (.iconst 4, 1) := by decide +kernel
theorem dX6_forget_5 : decode cX6_forget 5 = .ok (.iaload, 1) := by decide +kernel
theorem dX6_forget_6 : decode cX6_forget 6 = .ok (.ifCond .ne 10, 3) := by decide +kernel
theorem dX6_forget_9 : decode cX6_forget 9 = .ok (.aload_n 0, 1) := by decide +kernel
theorem dX6_forget_10 : decode cX6_forget 10 = .ok (.bipush (-3), 2) := by decide +kernel
theorem dX6_forget_12 : decode cX6_forget 12 = .ok (.invokevirtual 49, 3) := by decide +kernel
theorem dX6_forget_15 : decode cX6_forget 15 = .ok (.ireturn, 1) := by decide +kernel
theorem dX6_forget_16 : decode cX6_forget 16 = .ok (.aload_n 0, 1) := by decide +kernel
theorem dX6_forget_17 : decode cX6_forget 17 = .ok (.getfield 13, 3) := by decide +kernel
theorem dX6_forget_20 : decode cX6_forget 20 = .ok (.iconst 4, 1) := by decide +kernel
theorem dX6_forget_21 : decode cX6_forget 21 = .ok (.dup2, 1) := by decide +kernel
theorem dX6_forget_22 : decode cX6_forget 22 = .ok (.iaload, 1) := by decide +kernel
theorem dX6_forget_23 : decode cX6_forget 23 = .ok (.iconst 1, 1) := by decide +kernel
theorem dX6_forget_24 : decode cX6_forget 24 = .ok (.isub, 1) := by decide +kernel
theorem dX6_forget_25 : decode cX6_forget 25 = .ok (.iastore, 1) := by decide +kernel
theorem dX6_forget_26 : decode cX6_forget 26 = .ok (.aload_n 0, 1) := by decide +kernel
theorem dX6_forget_27 : decode cX6_forget 27 = .ok (.getfield 13, 3) := by decide +kernel
theorem dX6_forget_30 : decode cX6_forget 30 = .ok (.iconst 4, 1) := by decide +kernel
theorem dX6_forget_31 : decode cX6_forget 31 = .ok (.iaload, 1) := by decide +kernel
theorem dX6_forget_32 : decode cX6_forget 32 = .ok (.ireturn, 1) := by decide +kernel
theorem dX6_isRead_0 : decode cX6_isRead 0 = .ok (.iload_n 0, 1) := by decide +kernel
theorem dX6_isRead_1 : decode cX6_isRead 1 = .ok (.iload_n 1, 1) := by decide +kernel
theorem dX6_isRead_2 : decode cX6_isRead 2 = .ok (.if_icmp .eq 25, 3) := by decide +kernel
theorem dX6_isRead_5 : decode cX6_isRead 5 = .ok (.iload_n 0, 1) := by decide +kernel
theorem dX6_isRead_6 : decode cX6_isRead 6 = .ok (.iconst 3, 1) := by decide +kernel
theorem dX6_isRead_7 : decode cX6_isRead 7 = .ok (.if_icmp .ne 9, 3) := by decide +kernel
theorem dX6_isRead_10 : decode cX6_isRead 10 = .ok (.iload_n 1, 1) := by decide +kernel
theorem dX6_isRead_11 : decode cX6_isRead 11 = .ok (.bipush 8, 2) := by decide +kernel
theorem dX6_isRead_13 : decode cX6_isRead 13 = .ok (.if_icmp .eq 14, 3) := by decide +kernel
theorem dX6_isRead_16 : decode cX6_isRead 16 = .ok (.iload_n 0, 1) := by decide +kernel
theorem dX6_isRead_17 : decode cX6_isRead 17 = .ok (.bipush 8, 2) := by decide +kernel
theorem dX6_isRead_19 : decode cX6_isRead 19 = .ok (.if_icmp .ne 12, 3) := by decide +kernel
theorem dX6_isRead_22 : decode cX6_isRead 22 = .ok (.iload_n 1, 1) := by decide +kernel
theorem dX6_isRead_23 : decode cX6_isRead 23 = .ok (.iconst 3, 1) := by decide +kernel
theorem dX6_isRead_24 : decode cX6_isRead 24 = .ok (.if_icmp .ne 7, 3) := by decide +kernel
theorem dX6_isRead_27 : decode cX6_isRead 27 = .ok (.iconst 1, 1) := by decide +kernel
theorem dX6_isRead_28 : decode cX6_isRead 28 = .ok (.goto 4, 3) := by decide +kernel
theorem dX6_isRead_31 : decode cX6_isRead 31 = .ok (.iconst 0, 1) := by decide +kernel
theorem dX6_isRead_32 : decode cX6_isRead 32 = .ok (.ireturn, 1) := by decide +kernel
set_option maxRecDepth 20000 in
theorem ggX6_fittingOf_X6_in : GoodIn wsX6_fittingOf wsX6_in := goodIn_r _ [6, 1, 26, 27, 28, 29, 30, 31, 32, 33, 34, 35, 36, 37, 38, 39] (by decide +kernel) (by decide +kernel)
set_option maxRecDepth 20000 in
theorem gX6_fittingOf_X6_in : GoodIn wsX6_fittingOf (wsV RX6 145 RX6 yX6_in wsX6_in) := goodIn_app (goodIn_of _ (by decide +kernel)) ggX6_fittingOf_X6_in
set_option maxRecDepth 20000 in
theorem ggX6_fittingOf_X6_passes : GoodIn wsX6_fittingOf wsX6_passes := goodIn_r _ [10, 1, 11, 12, 13, 5, 14, 15, 16, 17, 18, 19, 20, 21, 22, 26, 27, 28, 29, 30, 31, 32, 33, 34, 35, 36, 37, 38, 39] (by decide +kernel) (by decide +kernel)
set_option maxRecDepth 20000 in
theorem gX6_fittingOf_X6_passes : GoodIn wsX6_fittingOf (wsV RX6 116 RX6 yX6_passes wsX6_passes) := goodIn_app (goodIn_of _ (by decide +kernel)) ggX6_fittingOf_X6_passes
set_option maxRecDepth 20000 in
theorem ggX6_fittingOf_X6_get : GoodIn wsX6_fittingOf wsX6_get := goodIn_r _ [18, 1, 26, 27, 28, 29, 30, 31, 32, 33, 34, 35, 36, 37, 38, 39] (by decide +kernel) (by decide +kernel)
set_option maxRecDepth 20000 in
theorem gX6_fittingOf_X6_get : GoodIn wsX6_fittingOf (wsV RX6 90 RX6 yX6_get wsX6_get) := goodIn_app (goodIn_of _ (by decide +kernel)) ggX6_fittingOf_X6_get
set_option maxRecDepth 20000 in
theorem ggX6_fittingOf_X6_isRead : GoodIn wsX6_fittingOf wsX6_isRead := goodIn_r _ [25] (by decide +kernel) (by decide +kernel)
set_option maxRecDepth 20000 in
theorem gX6_fittingOf_X6_isRead : GoodIn wsX6_fittingOf (va_wsS RX6 148 yX6_isRead wsX6_isRead) := goodIn_app (goodIn_of _ (by decide +kernel)) ggX6_fittingOf_X6_isRead
theorem dX6_fittingOf_0 : decode cX6_fittingOf 0 = .ok (.aload_n 0, 1) := by decide +kernel
theorem dX6_fittingOf_1 : decode cX6_fittingOf 1 = .ok (.aload_n 0, 1) := by decide +kernel
theorem dX6_fittingOf_2 : decode cX6_fittingOf 2 = .ok (.iload_n 1, 1) := by decide +kernel
theorem dX6_fittingOf_3 : decode cX6_fittingOf 3 = .ok (.iconst 1, 1) := by decide +kernel
theorem dX6_fittingOf_4 : decode cX6_fittingOf 4 = .ok (.invokevirtual 145, 3) := by decide +kernel
theorem dX6_fittingOf_7 : decode cX6_fittingOf 7 = .ok (.aload_n 0, 1) := by decide +kernel
theorem dX6_fittingOf_8 : decode cX6_fittingOf 8 = .ok (.iload_n 1, 1) := by decide +kernel
theorem dX6_fittingOf_9 : decode cX6_fittingOf 9 = .ok (.iconst 0, 1) := by decide +kernel
theorem dX6_fittingOf_10 : decode cX6_fittingOf 10 = .ok (.invokevirtual 145, 3) := by decide +kernel
theorem dX6_fittingOf_13 : decode cX6_fittingOf 13 = .ok (.invokevirtual 116, 3) := by decide +kernel
theorem dX6_fittingOf_16 : decode cX6_fittingOf 16 = .ok (.istore_n 3, 1) := by decide +kernel
theorem dX6_fittingOf_17 : decode cX6_fittingOf 17 = .ok (.iconst 0, 1) := by decide +kernel
theorem dX6_fittingOf_18 : decode cX6_fittingOf 18 = .ok (.istore 4, 2) := by decide +kernel
theorem dX6_fittingOf_20 : decode cX6_fittingOf 20 = .ok (.aload_n 0, 1) := by decide +kernel
theorem dX6_fittingOf_21 : decode cX6_fittingOf 21 = .ok (.iload_n 1, 1) := by decide +kernel
theorem dX6_fittingOf_22 : decode cX6_fittingOf 22 = .ok (.iconst 2, 1) := by decide +kernel
theorem dX6_fittingOf_23 : decode cX6_fittingOf 23 = .ok (.invokevirtual 145, 3) := by decide +kernel
theorem dX6_fittingOf_26 : decode cX6_fittingOf 26 = .ok (.istore 5, 2) := by decide +kernel
theorem dX6_fittingOf_28 : decode cX6_fittingOf 28 = .ok (.iconst 0, 1) := by decide +kernel
theorem dX6_fittingOf_29 : decode cX6_fittingOf 29 = .ok (.istore 6, 2) := by decide +kernel
theorem dX6_fittingOf_31 : decode cX6_fittingOf 31 = .ok (.iload 6, 2) := by decide +kernel
theorem dX6_fittingOf_33 : decode cX6_fittingOf 33 = .ok (.aload_n 0, 1) := by decide +kernel
theorem dX6_fittingOf_34 : decode cX6_fittingOf 34 = .ok (.getfield 13, 3) := by decide +kernel
theorem dX6_fittingOf_37 : decode cX6_fittingOf 37 = .ok (.iconst 0, 1) := by decide +kernel
theorem dX6_fittingOf_38 : decode cX6_fittingOf 38 = .ok (.iaload, 1) := by decide +kernel
theorem dX6_fittingOf_39 : decode cX6_fittingOf 39 = .ok (.if_icmp .ge 100, 3) := by decide +kernel
theorem dX6_fittingOf_42 : decode cX6_fittingOf 42 = .ok (.aload_n 0, 1) := by decide +kernel
theorem dX6_fittingOf_43 : decode cX6_fittingOf 43 = .ok (.iload 6, 2) := by decide +kernel
theorem dX6_fittingOf_45 : decode cX6_fittingOf 45 = .ok (.iconst 0, 1) := by decide +kernel
theorem dX6_fittingOf_46 : decode cX6_fittingOf 46 = .ok (.invokevirtual 90, 3) := by decide +kernel
theorem dX6_fittingOf_49 : decode cX6_fittingOf 49 = .ok (.istore 7, 2) := by decide +kernel
theorem dX6_fittingOf_51 : decode cX6_fittingOf 51 = .ok (.iload_n 2, 1) := by decide +kernel
theorem dX6_fittingOf_52 : decode cX6_fittingOf 52 = .ok (.ifCond .eq 18, 3) := by decide +kernel
theorem dX6_fittingOf_55 : decode cX6_fittingOf 55 = .ok (.iload 7, 2) := by decide +kernel
theorem dX6_fittingOf_57 : decode cX6_fittingOf 57 = .ok (.iload 5, 2) := by decide +kernel
theorem dX6_fittingOf_59 : decode cX6_fittingOf 59 = .ok (.if_icmp .ne 7, 3) := by decide +kernel
theorem dX6_fittingOf_62 : decode cX6_fittingOf 62 = .ok (.iconst 1, 1) := by decide +kernel
theorem dX6_fittingOf_63 : decode cX6_fittingOf 63 = .ok (.goto 44, 3) := by decide +kernel
theorem dX6_fittingOf_66 : decode cX6_fittingOf 66 = .ok (.iconst 0, 1) := by decide +kernel
theorem dX6_fittingOf_67 : decode cX6_fittingOf 67 = .ok (.goto 40, 3) := by decide +kernel
theorem dX6_fittingOf_70 : decode cX6_fittingOf 70 = .ok (.iload 7, 2) := by decide +kernel
theorem dX6_fittingOf_72 : decode cX6_fittingOf 72 = .ok (.bipush 10, 2) := by decide +kernel
theorem dX6_fittingOf_74 : decode cX6_fittingOf 74 = .ok (.idiv, 1) := by decide +kernel
theorem dX6_fittingOf_75 : decode cX6_fittingOf 75 = .ok (.iload 5, 2) := by decide +kernel
theorem dX6_fittingOf_77 : decode cX6_fittingOf 77 = .ok (.bipush 10, 2) := by decide +kernel
theorem dX6_fittingOf_79 : decode cX6_fittingOf 79 = .ok (.idiv, 1) := by decide +kernel
theorem dX6_fittingOf_80 : decode cX6_fittingOf 80 = .ok (.invokestatic 148, 3) := by decide +kernel
theorem dX6_fittingOf_83 : decode cX6_fittingOf 83 = .ok (.ifCond .eq 23, 3) := by decide +kernel
theorem dX6_fittingOf_86 : decode cX6_fittingOf 86 = .ok (.iload 7, 2) := by decide +kernel
theorem dX6_fittingOf_88 : decode cX6_fittingOf 88 = .ok (.bipush 10, 2) := by decide +kernel
theorem dX6_fittingOf_90 : decode cX6_fittingOf 90 = .ok (.irem, 1) := by decide +kernel
theorem dX6_fittingOf_91 : decode cX6_fittingOf 91 = .ok (.iload 5, 2) := by decide +kernel
theorem dX6_fittingOf_93 : decode cX6_fittingOf 93 = .ok (.bipush 10, 2) := by decide +kernel
theorem dX6_fittingOf_95 : decode cX6_fittingOf 95 = .ok (.irem, 1) := by decide +kernel
theorem dX6_fittingOf_96 : decode cX6_fittingOf 96 = .ok (.invokestatic 148, 3) := by decide +kernel
theorem dX6_fittingOf_99 : decode cX6_fittingOf 99 = .ok (.ifCond .eq 7, 3) := by decide +kernel
theorem dX6_fittingOf_102 : decode cX6_fittingOf 102 = .ok (.iconst 1, 1) := by decide +kernel
theorem dX6_fittingOf_103 : decode cX6_fittingOf 103 = .ok (.goto 4, 3) := by decide +kernel
theorem dX6_fittingOf_106 : decode cX6_fittingOf 106 = .ok (.iconst 0, 1) := by decide +kernel
theorem dX6_fittingOf_107 : decode cX6_fittingOf 107 = .ok (.istore 8, 2) := by decide +kernel
theorem dX6_fittingOf_109 : decode cX6_fittingOf 109 = .ok (.iload 8, 2) := by decide +kernel
theorem dX6_fittingOf_111 : decode cX6_fittingOf 111 = .ok (.ifCond .eq 22, 3) := by decide +kernel
theorem dX6_fittingOf_114 : decode cX6_fittingOf 114 = .ok (.iload_n 3, 1) := by decide +kernel
theorem dX6_fittingOf_115 : decode cX6_fittingOf 115 = .ok (.iload 6, 2) := by decide +kernel
theorem dX6_fittingOf_117 : decode cX6_fittingOf 117 = .ok (.ishr, 1) := by decide +kernel
theorem dX6_fittingOf_118 : decode cX6_fittingOf 118 = .ok (.iconst 1, 1) := by decide +kernel
theorem dX6_fittingOf_119 : decode cX6_fittingOf 119 = .ok (.iand, 1) := by decide +kernel
theorem dX6_fittingOf_120 : decode cX6_fittingOf 120 = .ok (.iconst 1, 1) := by decide +kernel
theorem dX6_fittingOf_121 : decode cX6_fittingOf 121 = .ok (.if_icmp .ne 12, 3) := by decide +kernel
theorem dX6_fittingOf_124 : decode cX6_fittingOf 124 = .ok (.iload 4, 2) := by decide +kernel
theorem dX6_fittingOf_126 : decode cX6_fittingOf 126 = .ok (.iconst 1, 1) := by decide +kernel
theorem dX6_fittingOf_127 : decode cX6_fittingOf 127 = .ok (.iload 6, 2) := by decide +kernel
theorem dX6_fittingOf_129 : decode cX6_fittingOf 129 = .ok (.ishl, 1) := by decide +kernel
theorem dX6_fittingOf_130 : decode cX6_fittingOf 130 = .ok (.ior, 1) := by decide +kernel
theorem dX6_fittingOf_131 : decode cX6_fittingOf 131 = .ok (.istore 4, 2) := by decide +kernel
theorem dX6_fittingOf_133 : decode cX6_fittingOf 133 = .ok (.iinc 6 1, 3) := by decide +kernel
theorem dX6_fittingOf_136 : decode cX6_fittingOf 136 = .ok (.goto (-105), 3) := by decide +kernel
theorem dX6_fittingOf_139 : decode cX6_fittingOf 139 = .ok (.iload 4, 2) := by decide +kernel
theorem dX6_fittingOf_141 : decode cX6_fittingOf 141 = .ok (.ireturn, 1) := by decide +kernel
set_option maxRecDepth 20000 in
theorem ggX6_fitting_X6_isIn : GoodIn wsX6_fitting wsX6_isIn := goodIn_r _ [5] (by decide +kernel) (by decide +kernel)
set_option maxRecDepth 20000 in
theorem gX6_fitting_X6_isIn : GoodIn wsX6_fitting (va_wsS RX6 37 yX6_isIn wsX6_isIn) := goodIn_app (goodIn_of _ (by decide +kernel)) ggX6_fitting_X6_isIn
set_option maxRecDepth 20000 in
theorem ggX6_fitting_X6_refuse : GoodIn wsX6_fitting wsX6_refuse := goodIn_r _ [9, 10, 38, 39, 40, 41, 42, 43, 44, 45, 46, 47, 48, 49, 50, 51] (by decide +kernel) (by decide +kernel)
set_option maxRecDepth 20000 in
theorem gX6_fitting_X6_refuse : GoodIn wsX6_fitting (wsV RX6 49 RX6 yX6_refuse wsX6_refuse) := goodIn_app (goodIn_of _ (by decide +kernel)) ggX6_fitting_X6_refuse
set_option maxRecDepth 20000 in
theorem ggX6_fitting_X6_fittingOf : GoodIn wsX6_fitting wsX6_fittingOf := goodIn_r _ [14, 1, 15, 16, 17, 4, 18, 19, 20, 21, 22, 23, 24, 25, 26, 27, 28, 29, 30, 31, 32, 33, 34, 35, 36, 37, 38, 39, 40, 41, 42, 43, 44, 45, 46, 47, 48, 49, 50, 51] (by decide +kernel) (by decide +kernel)
set_option maxRecDepth 20000 in
theorem gX6_fitting_X6_fittingOf : GoodIn wsX6_fitting (wsV RX6 151 RX6 yX6_fittingOf wsX6_fittingOf) := goodIn_app (goodIn_of _ (by decide +kernel)) ggX6_fitting_X6_fittingOf
theorem dX6_fitting_0 : decode cX6_fitting 0 = .ok (.iload_n 1, 1) := by decide +kernel
theorem dX6_fitting_1 : decode cX6_fitting 1 = .ok (.aload_n 0, 1) := by decide +kernel
theorem dX6_fitting_2 : decode cX6_fitting 2 = .ok (.getfield 13, 3) := by decide +kernel
theorem dX6_fitting_5 : decode cX6_fitting 5 = .ok (.iconst 4, 1) := by decide +kernel
theorem dX6_fitting_6 : decode cX6_fitting 6 = .ok (.iaload, 1) := by decide +kernel
theorem dX6_fitting_7 : decode cX6_fitting 7 = .ok (.invokestatic 37, 3) := by decide +kernel
theorem dX6_fitting_10 : decode cX6_fitting 10 = .ok (.ifCond .ne 11, 3) := by decide +kernel
theorem dX6_fitting_13 : decode cX6_fitting 13 = .ok (.aload_n 0, 1) := by decide +kernel
theorem dX6_fitting_14 : decode cX6_fitting 14 = .ok (.iconst (-1), 1) := by decide +kernel
theorem dX6_fitting_15 : decode cX6_fitting 15 = .ok (.invokevirtual 49, 3) := by decide +kernel
theorem dX6_fitting_18 : decode cX6_fitting 18 = .ok (.goto 35, 3) := by decide +kernel
theorem dX6_fitting_21 : decode cX6_fitting 21 = .ok (.iload_n 2, 1) := by decide +kernel
theorem dX6_fitting_22 : decode cX6_fitting 22 = .ok (.iconst 2, 1) := by decide +kernel
theorem dX6_fitting_23 : decode cX6_fitting 23 = .ok (.invokestatic 37, 3) := by decide +kernel
theorem dX6_fitting_26 : decode cX6_fitting 26 = .ok (.ifCond .eq 21, 3) := by decide +kernel
theorem dX6_fitting_29 : decode cX6_fitting 29 = .ok (.aload_n 0, 1) := by decide +kernel
theorem dX6_fitting_30 : decode cX6_fitting 30 = .ok (.iload_n 1, 1) := by decide +kernel
theorem dX6_fitting_31 : decode cX6_fitting 31 = .ok (.iload_n 2, 1) := by decide +kernel
theorem dX6_fitting_32 : decode cX6_fitting 32 = .ok (.iconst 1, 1) := by decide +kernel
theorem dX6_fitting_33 : decode cX6_fitting 33 = .ok (.if_icmp .ne 7, 3) := by decide +kernel
theorem dX6_fitting_36 : decode cX6_fitting 36 = .ok (.iconst 1, 1) := by decide +kernel
theorem dX6_fitting_37 : decode cX6_fitting 37 = .ok (.goto 4, 3) := by decide +kernel
theorem dX6_fitting_40 : decode cX6_fitting 40 = .ok (.iconst 0, 1) := by decide +kernel
theorem dX6_fitting_41 : decode cX6_fitting 41 = .ok (.invokevirtual 151, 3) := by decide +kernel
theorem dX6_fitting_44 : decode cX6_fitting 44 = .ok (.goto 9, 3) := by decide +kernel
theorem dX6_fitting_47 : decode cX6_fitting 47 = .ok (.aload_n 0, 1) := by decide +kernel
theorem dX6_fitting_48 : decode cX6_fitting 48 = .ok (.bipush (-2), 2) := by decide +kernel
theorem dX6_fitting_50 : decode cX6_fitting 50 = .ok (.invokevirtual 49, 3) := by decide +kernel
theorem dX6_fitting_53 : decode cX6_fitting 53 = .ok (.ireturn, 1) := by decide +kernel
set_option maxRecDepth 20000 in
theorem ggX6_madeUpNow_X6_fittingOf : GoodIn wsX6_madeUpNow wsX6_fittingOf := goodIn_r _ [6, 1, 7, 8, 9, 5, 10, 11, 12, 13, 14, 15, 16, 17, 18, 19, 20, 21, 22, 23, 24, 25, 26, 27, 28, 29, 30, 31, 32, 33, 34, 35, 36, 37, 38, 39, 40, 41, 42, 43] (by decide +kernel) (by decide +kernel)
set_option maxRecDepth 20000 in
theorem gX6_madeUpNow_X6_fittingOf : GoodIn wsX6_madeUpNow (wsV RX6 151 RX6 yX6_fittingOf wsX6_fittingOf) := goodIn_app (goodIn_of _ (by decide +kernel)) ggX6_madeUpNow_X6_fittingOf
theorem dX6_madeUpNow_0 : decode cX6_madeUpNow 0 = .ok (.iconst 0, 1) := by decide +kernel
theorem dX6_madeUpNow_1 : decode cX6_madeUpNow 1 = .ok (.istore_n 1, 1) := by decide +kernel
theorem dX6_madeUpNow_2 : decode cX6_madeUpNow 2 = .ok (.iconst 0, 1) := by decide +kernel
theorem dX6_madeUpNow_3 : decode cX6_madeUpNow 3 = .ok (.istore_n 2, 1) := by decide +kernel
theorem dX6_madeUpNow_4 : decode cX6_madeUpNow 4 = .ok (.iload_n 2, 1) := by decide +kernel
theorem dX6_madeUpNow_5 : decode cX6_madeUpNow 5 = .ok (.aload_n 0, 1) := by decide +kernel
theorem dX6_madeUpNow_6 : decode cX6_madeUpNow 6 = .ok (.getfield 13, 3) := by decide +kernel
theorem dX6_madeUpNow_9 : decode cX6_madeUpNow 9 = .ok (.iconst 4, 1) := by decide +kernel
theorem dX6_madeUpNow_10 : decode cX6_madeUpNow 10 = .ok (.iaload, 1) := by decide +kernel
theorem dX6_madeUpNow_11 : decode cX6_madeUpNow 11 = .ok (.if_icmp .ge 24, 3) := by decide +kernel
theorem dX6_madeUpNow_14 : decode cX6_madeUpNow 14 = .ok (.aload_n 0, 1) := by decide +kernel
theorem dX6_madeUpNow_15 : decode cX6_madeUpNow 15 = .ok (.iload_n 2, 1) := by decide +kernel
theorem dX6_madeUpNow_16 : decode cX6_madeUpNow 16 = .ok (.iconst 0, 1) := by decide +kernel
theorem dX6_madeUpNow_17 : decode cX6_madeUpNow 17 = .ok (.invokevirtual 151, 3) := by decide +kernel
theorem dX6_madeUpNow_20 : decode cX6_madeUpNow 20 = .ok (.ifCond .ne 9, 3) := by decide +kernel
theorem dX6_madeUpNow_23 : decode cX6_madeUpNow 23 = .ok (.iload_n 1, 1) := by decide +kernel
theorem dX6_madeUpNow_24 : decode cX6_madeUpNow 24 = .ok (.iconst 1, 1) := by decide +kernel
theorem dX6_madeUpNow_25 : decode cX6_madeUpNow 25 = .ok (.iload_n 2, 1) := by decide +kernel
theorem dX6_madeUpNow_26 : decode cX6_madeUpNow 26 = .ok (.ishl, 1) := by decide +kernel
theorem dX6_madeUpNow_27 : decode cX6_madeUpNow 27 = .ok (.ior, 1) := by decide +kernel
theorem dX6_madeUpNow_28 : decode cX6_madeUpNow 28 = .ok (.istore_n 1, 1) := by decide +kernel
theorem dX6_madeUpNow_29 : decode cX6_madeUpNow 29 = .ok (.iinc 2 1, 3) := by decide +kernel
theorem dX6_madeUpNow_32 : decode cX6_madeUpNow 32 = .ok (.goto (-28), 3) := by decide +kernel
theorem dX6_madeUpNow_35 : decode cX6_madeUpNow 35 = .ok (.iload_n 1, 1) := by decide +kernel
theorem dX6_madeUpNow_36 : decode cX6_madeUpNow 36 = .ok (.ireturn, 1) := by decide +kernel
set_option maxRecDepth 20000 in
theorem ggX6_madeUp_X6_madeUpNow : GoodIn wsX6_madeUp wsX6_madeUpNow := goodIn_r _ [5, 6, 7, 8, 9, 4, 10, 11, 12, 13, 14, 15, 16, 17, 18, 19, 20, 21, 22, 23, 24, 25, 26, 27, 28, 29, 30, 31, 32, 33, 34, 35, 36, 37, 38, 39, 40, 41, 42, 43, 44, 45, 46, 47] (by decide +kernel) (by decide +kernel)
set_option maxRecDepth 20000 in
theorem gX6_madeUp_X6_madeUpNow : GoodIn wsX6_madeUp (wsV RX6 154 RX6 yX6_madeUpNow wsX6_madeUpNow) := goodIn_app (goodIn_of _ (by decide +kernel)) ggX6_madeUp_X6_madeUpNow
theorem dX6_madeUp_0 : decode cX6_madeUp 0 = .ok (.aload_n 0, 1) := by decide +kernel
theorem dX6_madeUp_1 : decode cX6_madeUp 1 = .ok (.invokevirtual 154, 3) := by decide +kernel
theorem dX6_madeUp_4 : decode cX6_madeUp 4 = .ok (.ireturn, 1) := by decide +kernel
set_option maxRecDepth 20000 in
theorem ggX6_madeUpBy_X6_madeUpNow : GoodIn wsX6_madeUpBy wsX6_madeUpNow := goodIn_r _ [6, 1, 7, 8, 9, 5, 10, 11, 12, 13, 14, 15, 16, 17, 18, 19, 20, 21, 22, 23, 24, 25, 26, 27, 28, 29, 30, 31, 32, 33, 34, 35, 36, 37, 38, 39, 40, 41, 42, 43, 44, 45, 46, 47] (by decide +kernel) (by decide +kernel)
set_option maxRecDepth 20000 in
theorem gX6_madeUpBy_X6_madeUpNow : GoodIn wsX6_madeUpBy (wsV RX6 154 RX6 yX6_madeUpNow wsX6_madeUpNow) := goodIn_app (goodIn_of _ (by decide +kernel)) ggX6_madeUpBy_X6_madeUpNow
set_option maxRecDepth 20000 in
theorem ggX6_madeUpBy_X6_in : GoodIn wsX6_madeUpBy wsX6_in := goodIn_r _ [14, 1, 34, 35, 36, 37, 38, 39, 40, 41, 42, 43, 44, 45, 46, 47] (by decide +kernel) (by decide +kernel)
set_option maxRecDepth 20000 in
theorem gX6_madeUpBy_X6_in : GoodIn wsX6_madeUpBy (wsV RX6 145 RX6 yX6_in wsX6_in) := goodIn_app (goodIn_of _ (by decide +kernel)) ggX6_madeUpBy_X6_in
theorem dX6_madeUpBy_0 : decode cX6_madeUpBy 0 = .ok (.aload_n 0, 1) := by decide +kernel
theorem dX6_madeUpBy_1 : decode cX6_madeUpBy 1 = .ok (.invokevirtual 154, 3) := by decide +kernel
theorem dX6_madeUpBy_4 : decode cX6_madeUpBy 4 = .ok (.istore_n 2, 1) := by decide +kernel
theorem dX6_madeUpBy_5 : decode cX6_madeUpBy 5 = .ok (.iconst 0, 1) := by decide +kernel
theorem dX6_madeUpBy_6 : decode cX6_madeUpBy 6 = .ok (.istore_n 3, 1) := by decide +kernel
theorem dX6_madeUpBy_7 : decode cX6_madeUpBy 7 = .ok (.iconst 0, 1) := by decide +kernel
theorem dX6_madeUpBy_8 : decode cX6_madeUpBy 8 = .ok (.istore 4, 2) := by decide +kernel
theorem dX6_madeUpBy_10 : decode cX6_madeUpBy 10 = .ok (.iload 4, 2) := by decide +kernel
theorem dX6_madeUpBy_12 : decode cX6_madeUpBy 12 = .ok (.aload_n 0, 1) := by decide +kernel
theorem dX6_madeUpBy_13 : decode cX6_madeUpBy 13 = .ok (.getfield 13, 3) := by decide +kernel
theorem dX6_madeUpBy_16 : decode cX6_madeUpBy 16 = .ok (.iconst 4, 1) := by decide +kernel
theorem dX6_madeUpBy_17 : decode cX6_madeUpBy 17 = .ok (.iaload, 1) := by decide +kernel
theorem dX6_madeUpBy_18 : decode cX6_madeUpBy 18 = .ok (.if_icmp .ge 38, 3) := by decide +kernel
theorem dX6_madeUpBy_21 : decode cX6_madeUpBy 21 = .ok (.iload_n 3, 1) := by decide +kernel
theorem dX6_madeUpBy_22 : decode cX6_madeUpBy 22 = .ok (.iload_n 2, 1) := by decide +kernel
theorem dX6_madeUpBy_23 : decode cX6_madeUpBy 23 = .ok (.iload 4, 2) := by decide +kernel
theorem dX6_madeUpBy_25 : decode cX6_madeUpBy 25 = .ok (.ishr, 1) := by decide +kernel
theorem dX6_madeUpBy_26 : decode cX6_madeUpBy 26 = .ok (.iconst 1, 1) := by decide +kernel
theorem dX6_madeUpBy_27 : decode cX6_madeUpBy 27 = .ok (.iand, 1) := by decide +kernel
theorem dX6_madeUpBy_28 : decode cX6_madeUpBy 28 = .ok (.iconst 1, 1) := by decide +kernel
theorem dX6_madeUpBy_29 : decode cX6_madeUpBy 29 = .ok (.if_icmp .ne 18, 3) := by decide +kernel
theorem dX6_madeUpBy_32 : decode cX6_madeUpBy 32 = .ok (.aload_n 0, 1) := by decide +kernel
theorem dX6_madeUpBy_33 : decode cX6_madeUpBy 33 = .ok (.iload 4, 2) := by decide +kernel
theorem dX6_madeUpBy_35 : decode cX6_madeUpBy 35 = .ok (.iconst 3, 1) := by decide +kernel
theorem dX6_madeUpBy_36 : decode cX6_madeUpBy 36 = .ok (.invokevirtual 145, 3) := by decide +kernel
theorem dX6_madeUpBy_39 : decode cX6_madeUpBy 39 = .ok (.iload_n 1, 1) := by decide +kernel
theorem dX6_madeUpBy_40 : decode cX6_madeUpBy 40 = .ok (.if_icmp .ne 7, 3) := by decide +kernel
theorem dX6_madeUpBy_43 : decode cX6_madeUpBy 43 = .ok (.iconst 1, 1) := by decide +kernel
theorem dX6_madeUpBy_44 : decode cX6_madeUpBy 44 = .ok (.goto 4, 3) := by decide +kernel
theorem dX6_madeUpBy_47 : decode cX6_madeUpBy 47 = .ok (.iconst 0, 1) := by decide +kernel
theorem dX6_madeUpBy_48 : decode cX6_madeUpBy 48 = .ok (.iadd, 1) := by decide +kernel
theorem dX6_madeUpBy_49 : decode cX6_madeUpBy 49 = .ok (.istore_n 3, 1) := by decide +kernel
theorem dX6_madeUpBy_50 : decode cX6_madeUpBy 50 = .ok (.iinc 4 1, 3) := by decide +kernel
theorem dX6_madeUpBy_53 : decode cX6_madeUpBy 53 = .ok (.goto (-43), 3) := by decide +kernel
theorem dX6_madeUpBy_56 : decode cX6_madeUpBy 56 = .ok (.iload_n 3, 1) := by decide +kernel
theorem dX6_madeUpBy_57 : decode cX6_madeUpBy 57 = .ok (.ireturn, 1) := by decide +kernel
set_option maxRecDepth 20000 in
theorem ggX6_liars_X6_madeUpBy : GoodIn wsX6_liars wsX6_madeUpBy := goodIn_r _ [5, 6, 7, 8, 9, 4, 10, 11, 12, 13, 14, 15, 16, 17, 18, 19, 20, 21, 22, 23, 24, 25, 26, 27, 28, 29, 30, 31, 32, 33, 34, 35, 36, 37, 38, 39, 40, 41, 42, 43, 44, 45, 46, 47, 48, 49, 50, 51] (by decide +kernel) (by decide +kernel)
set_option maxRecDepth 20000 in
theorem gX6_liars_X6_madeUpBy : GoodIn wsX6_liars (wsV RX6 157 RX6 yX6_madeUpBy wsX6_madeUpBy) := goodIn_app (goodIn_of _ (by decide +kernel)) ggX6_liars_X6_madeUpBy
theorem dX6_liars_0 : decode cX6_liars 0 = .ok (.iconst 1, 1) := by decide +kernel
theorem dX6_liars_1 : decode cX6_liars 1 = .ok (.istore_n 1, 1) := by decide +kernel
theorem dX6_liars_2 : decode cX6_liars 2 = .ok (.iconst 0, 1) := by decide +kernel
theorem dX6_liars_3 : decode cX6_liars 3 = .ok (.istore_n 2, 1) := by decide +kernel
theorem dX6_liars_4 : decode cX6_liars 4 = .ok (.iconst 0, 1) := by decide +kernel
theorem dX6_liars_5 : decode cX6_liars 5 = .ok (.istore_n 3, 1) := by decide +kernel
theorem dX6_liars_6 : decode cX6_liars 6 = .ok (.iload_n 3, 1) := by decide +kernel
theorem dX6_liars_7 : decode cX6_liars 7 = .ok (.iconst 4, 1) := by decide +kernel
theorem dX6_liars_8 : decode cX6_liars 8 = .ok (.if_icmp .ge 46, 3) := by decide +kernel
theorem dX6_liars_11 : decode cX6_liars 11 = .ok (.aload_n 0, 1) := by decide +kernel
theorem dX6_liars_12 : decode cX6_liars 12 = .ok (.iload_n 3, 1) := by decide +kernel
theorem dX6_liars_13 : decode cX6_liars 13 = .ok (.invokevirtual 157, 3) := by decide +kernel
theorem dX6_liars_16 : decode cX6_liars 16 = .ok (.istore 4, 2) := by decide +kernel
theorem dX6_liars_18 : decode cX6_liars 18 = .ok (.iload 4, 2) := by decide +kernel
theorem dX6_liars_20 : decode cX6_liars 20 = .ok (.iload_n 1, 1) := by decide +kernel
theorem dX6_liars_21 : decode cX6_liars 21 = .ok (.if_icmp .ge 6, 3) := by decide +kernel
theorem dX6_liars_24 : decode cX6_liars 24 = .ok (.goto 24, 3) := by decide +kernel
theorem dX6_liars_27 : decode cX6_liars 27 = .ok (.iload 4, 2) := by decide +kernel
theorem dX6_liars_29 : decode cX6_liars 29 = .ok (.iload_n 1, 1) := by decide +kernel
theorem dX6_liars_30 : decode cX6_liars 30 = .ok (.if_icmp .le 9, 3) := by decide +kernel
theorem dX6_liars_33 : decode cX6_liars 33 = .ok (.iconst 1, 1) := by decide +kernel
theorem dX6_liars_34 : decode cX6_liars 34 = .ok (.iload_n 3, 1) := by decide +kernel
theorem dX6_liars_35 : decode cX6_liars 35 = .ok (.ishl, 1) := by decide +kernel
theorem dX6_liars_36 : decode cX6_liars 36 = .ok (.goto 8, 3) := by decide +kernel
theorem dX6_liars_39 : decode cX6_liars 39 = .ok (.iload_n 2, 1) := by decide +kernel
theorem dX6_liars_40 : decode cX6_liars 40 = .ok (.iconst 1, 1) := by decide +kernel
theorem dX6_liars_41 : decode cX6_liars 41 = .ok (.iload_n 3, 1) := by decide +kernel
theorem dX6_liars_42 : decode cX6_liars 42 = .ok (.ishl, 1) := by decide +kernel
theorem dX6_liars_43 : decode cX6_liars 43 = .ok (.ior, 1) := by decide +kernel
theorem dX6_liars_44 : decode cX6_liars 44 = .ok (.istore_n 2, 1) := by decide +kernel
theorem dX6_liars_45 : decode cX6_liars 45 = .ok (.iload 4, 2) := by decide +kernel
theorem dX6_liars_47 : decode cX6_liars 47 = .ok (.istore_n 1, 1) := by decide +kernel
theorem dX6_liars_48 : decode cX6_liars 48 = .ok (.iinc 3 1, 3) := by decide +kernel
theorem dX6_liars_51 : decode cX6_liars 51 = .ok (.goto (-45), 3) := by decide +kernel
theorem dX6_liars_54 : decode cX6_liars 54 = .ok (.iload_n 2, 1) := by decide +kernel
theorem dX6_liars_55 : decode cX6_liars 55 = .ok (.ireturn, 1) := by decide +kernel
set_option maxRecDepth 20000 in
theorem ggX6_clash_X6_isIn : GoodIn wsX6_clash wsX6_isIn := goodIn_r _ [5] (by decide +kernel) (by decide +kernel)
set_option maxRecDepth 20000 in
theorem gX6_clash_X6_isIn : GoodIn wsX6_clash (va_wsS RX6 37 yX6_isIn wsX6_isIn) := goodIn_app (goodIn_of _ (by decide +kernel)) ggX6_clash_X6_isIn
set_option maxRecDepth 20000 in
theorem ggX6_clash_X6_refuse : GoodIn wsX6_clash wsX6_refuse := goodIn_r _ [9, 10, 15, 16, 17, 18, 19, 20, 21, 22, 23, 24, 25, 26, 27, 28] (by decide +kernel) (by decide +kernel)
set_option maxRecDepth 20000 in
theorem gX6_clash_X6_refuse : GoodIn wsX6_clash (wsV RX6 49 RX6 yX6_refuse wsX6_refuse) := goodIn_app (goodIn_of _ (by decide +kernel)) ggX6_clash_X6_refuse
set_option maxRecDepth 20000 in
theorem ggX6_clash_X6_in : GoodIn wsX6_clash wsX6_in := goodIn_r _ [14, 1, 15, 16, 17, 18, 19, 20, 21, 22, 23, 24, 25, 26, 27, 28] (by decide +kernel) (by decide +kernel)
set_option maxRecDepth 20000 in
theorem gX6_clash_X6_in : GoodIn wsX6_clash (wsV RX6 145 RX6 yX6_in wsX6_in) := goodIn_app (goodIn_of _ (by decide +kernel)) ggX6_clash_X6_in
theorem dX6_clash_0 : decode cX6_clash 0 = .ok (.iload_n 1, 1) := by decide +kernel
theorem dX6_clash_1 : decode cX6_clash 1 = .ok (.iconst 2, 1) := by decide +kernel
theorem dX6_clash_2 : decode cX6_clash 2 = .ok (.invokestatic 37, 3) := by decide +kernel
theorem dX6_clash_5 : decode cX6_clash 5 = .ok (.ifCond .ne 10, 3) := by decide +kernel
theorem dX6_clash_8 : decode cX6_clash 8 = .ok (.aload_n 0, 1) := by decide +kernel
theorem dX6_clash_9 : decode cX6_clash 9 = .ok (.bipush (-2), 2) := by decide +kernel
theorem dX6_clash_11 : decode cX6_clash 11 = .ok (.invokevirtual 49, 3) := by decide +kernel
theorem dX6_clash_14 : decode cX6_clash 14 = .ok (.ireturn, 1) := by decide +kernel
theorem dX6_clash_15 : decode cX6_clash 15 = .ok (.iconst 0, 1) := by decide +kernel
theorem dX6_clash_16 : decode cX6_clash 16 = .ok (.istore_n 2, 1) := by decide +kernel
theorem dX6_clash_17 : decode cX6_clash 17 = .ok (.bipush (-9), 2) := by decide +kernel
theorem dX6_clash_19 : decode cX6_clash 19 = .ok (.istore_n 3, 1) := by decide +kernel
theorem dX6_clash_20 : decode cX6_clash 20 = .ok (.iconst 0, 1) := by decide +kernel
theorem dX6_clash_21 : decode cX6_clash 21 = .ok (.istore 4, 2) := by decide +kernel
theorem dX6_clash_23 : decode cX6_clash 23 = .ok (.iload 4, 2) := by decide +kernel
theorem dX6_clash_25 : decode cX6_clash 25 = .ok (.aload_n 0, 1) := by decide +kernel
theorem dX6_clash_26 : decode cX6_clash 26 = .ok (.getfield 13, 3) := by decide +kernel
theorem dX6_clash_29 : decode cX6_clash 29 = .ok (.iconst 4, 1) := by decide +kernel
theorem dX6_clash_30 : decode cX6_clash 30 = .ok (.iaload, 1) := by decide +kernel
theorem dX6_clash_31 : decode cX6_clash 31 = .ok (.if_icmp .ge 106, 3) := by decide +kernel
theorem dX6_clash_34 : decode cX6_clash 34 = .ok (.iload 4, 2) := by decide +kernel
theorem dX6_clash_36 : decode cX6_clash 36 = .ok (.iconst 1, 1) := by decide +kernel
theorem dX6_clash_37 : decode cX6_clash 37 = .ok (.iadd, 1) := by decide +kernel
theorem dX6_clash_38 : decode cX6_clash 38 = .ok (.istore 5, 2) := by decide +kernel
theorem dX6_clash_40 : decode cX6_clash 40 = .ok (.iload 5, 2) := by decide +kernel
theorem dX6_clash_42 : decode cX6_clash 42 = .ok (.aload_n 0, 1) := by decide +kernel
theorem dX6_clash_43 : decode cX6_clash 43 = .ok (.getfield 13, 3) := by decide +kernel
theorem dX6_clash_46 : decode cX6_clash 46 = .ok (.iconst 4, 1) := by decide +kernel
theorem dX6_clash_47 : decode cX6_clash 47 = .ok (.iaload, 1) := by decide +kernel
theorem dX6_clash_48 : decode cX6_clash 48 = .ok (.if_icmp .ge 83, 3) := by decide +kernel
theorem dX6_clash_51 : decode cX6_clash 51 = .ok (.aload_n 0, 1) := by decide +kernel
theorem dX6_clash_52 : decode cX6_clash 52 = .ok (.iload 4, 2) := by decide +kernel
theorem dX6_clash_54 : decode cX6_clash 54 = .ok (.iconst 2, 1) := by decide +kernel
theorem dX6_clash_55 : decode cX6_clash 55 = .ok (.invokevirtual 145, 3) := by decide +kernel
theorem dX6_clash_58 : decode cX6_clash 58 = .ok (.aload_n 0, 1) := by decide +kernel
theorem dX6_clash_59 : decode cX6_clash 59 = .ok (.iload 5, 2) := by decide +kernel
theorem dX6_clash_61 : decode cX6_clash 61 = .ok (.iconst 2, 1) := by decide +kernel
theorem dX6_clash_62 : decode cX6_clash 62 = .ok (.invokevirtual 145, 3) := by decide +kernel
theorem dX6_clash_65 : decode cX6_clash 65 = .ok (.if_icmp .ne 60, 3) := by decide +kernel
theorem dX6_clash_68 : decode cX6_clash 68 = .ok (.aload_n 0, 1) := by decide +kernel
theorem dX6_clash_69 : decode cX6_clash 69 = .ok (.iload 4, 2) := by decide +kernel
theorem dX6_clash_71 : decode cX6_clash 71 = .ok (.iconst 0, 1) := by decide +kernel
theorem dX6_clash_72 : decode cX6_clash 72 = .ok (.invokevirtual 145, 3) := by decide +kernel
theorem dX6_clash_75 : decode cX6_clash 75 = .ok (.aload_n 0, 1) := by decide +kernel
theorem dX6_clash_76 : decode cX6_clash 76 = .ok (.iload 5, 2) := by decide +kernel
theorem dX6_clash_78 : decode cX6_clash 78 = .ok (.iconst 0, 1) := by decide +kernel
theorem dX6_clash_79 : decode cX6_clash 79 = .ok (.invokevirtual 145, 3) := by decide +kernel
theorem dX6_clash_82 : decode cX6_clash 82 = .ok (.if_icmp .ne 43, 3) := by decide +kernel
theorem dX6_clash_85 : decode cX6_clash 85 = .ok (.aload_n 0, 1) := by decide +kernel
theorem dX6_clash_86 : decode cX6_clash 86 = .ok (.iload 4, 2) := by decide +kernel
theorem dX6_clash_88 : decode cX6_clash 88 = .ok (.iconst 1, 1) := by decide +kernel
theorem dX6_clash_89 : decode cX6_clash 89 = .ok (.invokevirtual 145, 3) := by decide +kernel
theorem dX6_clash_92 : decode cX6_clash 92 = .ok (.aload_n 0, 1) := by decide +kernel
theorem dX6_clash_93 : decode cX6_clash 93 = .ok (.iload 5, 2) := by decide +kernel
theorem dX6_clash_95 : decode cX6_clash 95 = .ok (.iconst 1, 1) := by decide +kernel
theorem dX6_clash_96 : decode cX6_clash 96 = .ok (.invokevirtual 145, 3) := by decide +kernel
theorem dX6_clash_99 : decode cX6_clash 99 = .ok (.if_icmp .ne 6, 3) := by decide +kernel
theorem dX6_clash_102 : decode cX6_clash 102 = .ok (.goto 23, 3) := by decide +kernel
theorem dX6_clash_105 : decode cX6_clash 105 = .ok (.iinc 2 1, 3) := by decide +kernel
theorem dX6_clash_108 : decode cX6_clash 108 = .ok (.iload_n 3, 1) := by decide +kernel
theorem dX6_clash_109 : decode cX6_clash 109 = .ok (.ifCond .ge 14, 3) := by decide +kernel
theorem dX6_clash_112 : decode cX6_clash 112 = .ok (.bipush 12, 2) := by decide +kernel
theorem dX6_clash_114 : decode cX6_clash 114 = .ok (.iload 4, 2) := by decide +kernel
theorem dX6_clash_116 : decode cX6_clash 116 = .ok (.imul, 1) := by decide +kernel
theorem dX6_clash_117 : decode cX6_clash 117 = .ok (.iload 5, 2) := by decide +kernel
theorem dX6_clash_119 : decode cX6_clash 119 = .ok (.iadd, 1) := by decide +kernel
theorem dX6_clash_120 : decode cX6_clash 120 = .ok (.goto 4, 3) := by decide +kernel
theorem dX6_clash_123 : decode cX6_clash 123 = .ok (.iload_n 3, 1) := by decide +kernel
theorem dX6_clash_124 : decode cX6_clash 124 = .ok (.istore_n 3, 1) := by decide +kernel
theorem dX6_clash_125 : decode cX6_clash 125 = .ok (.iinc 5 1, 3) := by decide +kernel
theorem dX6_clash_128 : decode cX6_clash 128 = .ok (.goto (-88), 3) := by decide +kernel
theorem dX6_clash_131 : decode cX6_clash 131 = .ok (.iinc 4 1, 3) := by decide +kernel
theorem dX6_clash_134 : decode cX6_clash 134 = .ok (.goto (-111), 3) := by decide +kernel
theorem dX6_clash_137 : decode cX6_clash 137 = .ok (.iload_n 1, 1) := by decide +kernel
theorem dX6_clash_138 : decode cX6_clash 138 = .ok (.ifCond .ne 7, 3) := by decide +kernel
theorem dX6_clash_141 : decode cX6_clash 141 = .ok (.iload_n 2, 1) := by decide +kernel
theorem dX6_clash_142 : decode cX6_clash 142 = .ok (.goto 4, 3) := by decide +kernel
theorem dX6_clash_145 : decode cX6_clash 145 = .ok (.iload_n 3, 1) := by decide +kernel
theorem dX6_clash_146 : decode cX6_clash 146 = .ok (.ireturn, 1) := by decide +kernel
set_option maxRecDepth 20000 in
theorem ggX6_sure_X6_fittingOf : GoodIn wsX6_sure wsX6_fittingOf := goodIn_r _ [6, 1, 7, 8, 9, 5, 10, 11, 12, 13, 14, 15, 16, 17, 18, 19, 20, 21, 22, 23, 24, 25, 26, 27, 28, 29, 33, 34, 35, 36, 37, 38, 39, 40, 41, 42, 43, 44, 45, 46] (by decide +kernel) (by decide +kernel)
set_option maxRecDepth 20000 in
theorem gX6_sure_X6_fittingOf : GoodIn wsX6_sure (wsV RX6 151 RX6 yX6_fittingOf wsX6_fittingOf) := goodIn_app (goodIn_of _ (by decide +kernel)) ggX6_sure_X6_fittingOf
set_option maxRecDepth 20000 in
theorem ggX6_sure_X6_bits : GoodIn wsX6_sure wsX6_bits := goodIn_r _ [32] (by decide +kernel) (by decide +kernel)
set_option maxRecDepth 20000 in
theorem gX6_sure_X6_bits : GoodIn wsX6_sure (va_wsS RX6 160 yX6_bits wsX6_bits) := goodIn_app (goodIn_of _ (by decide +kernel)) ggX6_sure_X6_bits
theorem dX6_sure_0 : decode cX6_sure 0 = .ok (.iconst 0, 1) := by decide +kernel
theorem dX6_sure_1 : decode cX6_sure 1 = .ok (.istore_n 1, 1) := by decide +kernel
theorem dX6_sure_2 : decode cX6_sure 2 = .ok (.iconst 0, 1) := by decide +kernel
theorem dX6_sure_3 : decode cX6_sure 3 = .ok (.istore_n 2, 1) := by decide +kernel
theorem dX6_sure_4 : decode cX6_sure 4 = .ok (.iload_n 2, 1) := by decide +kernel
theorem dX6_sure_5 : decode cX6_sure 5 = .ok (.aload_n 0, 1) := by decide +kernel
theorem dX6_sure_6 : decode cX6_sure 6 = .ok (.getfield 13, 3) := by decide +kernel
theorem dX6_sure_9 : decode cX6_sure 9 = .ok (.iconst 4, 1) := by decide +kernel
theorem dX6_sure_10 : decode cX6_sure 10 = .ok (.iaload, 1) := by decide +kernel
theorem dX6_sure_11 : decode cX6_sure 11 = .ok (.if_icmp .ge 31, 3) := by decide +kernel
theorem dX6_sure_14 : decode cX6_sure 14 = .ok (.aload_n 0, 1) := by decide +kernel
theorem dX6_sure_15 : decode cX6_sure 15 = .ok (.iload_n 2, 1) := by decide +kernel
theorem dX6_sure_16 : decode cX6_sure 16 = .ok (.iconst 0, 1) := by decide +kernel
theorem dX6_sure_17 : decode cX6_sure 17 = .ok (.invokevirtual 151, 3) := by decide +kernel
theorem dX6_sure_20 : decode cX6_sure 20 = .ok (.invokestatic 160, 3) := by decide +kernel
theorem dX6_sure_23 : decode cX6_sure 23 = .ok (.iconst 1, 1) := by decide +kernel
theorem dX6_sure_24 : decode cX6_sure 24 = .ok (.if_icmp .ne 12, 3) := by decide +kernel
theorem dX6_sure_27 : decode cX6_sure 27 = .ok (.iload_n 1, 1) := by decide +kernel
theorem dX6_sure_28 : decode cX6_sure 28 = .ok (.aload_n 0, 1) := by decide +kernel
theorem dX6_sure_29 : decode cX6_sure 29 = .ok (.iload_n 2, 1) := by decide +kernel
theorem dX6_sure_30 : decode cX6_sure 30 = .ok (.iconst 0, 1) := by decide +kernel
theorem dX6_sure_31 : decode cX6_sure 31 = .ok (.invokevirtual 151, 3) := by decide +kernel
theorem dX6_sure_34 : decode cX6_sure 34 = .ok (.ior, 1) := by decide +kernel
theorem dX6_sure_35 : decode cX6_sure 35 = .ok (.istore_n 1, 1) := by decide +kernel
theorem dX6_sure_36 : decode cX6_sure 36 = .ok (.iinc 2 1, 3) := by decide +kernel
theorem dX6_sure_39 : decode cX6_sure 39 = .ok (.goto (-35), 3) := by decide +kernel
theorem dX6_sure_42 : decode cX6_sure 42 = .ok (.iload_n 1, 1) := by decide +kernel
theorem dX6_sure_43 : decode cX6_sure 43 = .ok (.ireturn, 1) := by decide +kernel
set_option maxRecDepth 20000 in
theorem ggX6_areTogether_X6_isAt : GoodIn wsX6_areTogether wsX6_isAt := goodIn_r _ [6, 1, 7, 8, 9, 5, 10, 11, 12, 13, 14, 15, 16, 17, 18, 19, 20, 21, 22, 23, 24, 25, 26, 27, 28] (by decide +kernel) (by decide +kernel)
set_option maxRecDepth 20000 in
theorem gX6_areTogether_X6_isAt : GoodIn wsX6_areTogether (wsV RX6 97 RX6 yX6_isAt wsX6_isAt) := goodIn_app (goodIn_of _ (by decide +kernel)) ggX6_areTogether_X6_isAt
theorem dX6_areTogether_0 : decode cX6_areTogether 0 = .ok (.iconst 0, 1) := by decide +kernel
theorem dX6_areTogether_1 : decode cX6_areTogether 1 = .ok (.istore 4, 2) := by decide +kernel
theorem dX6_areTogether_3 : decode cX6_areTogether 3 = .ok (.iload 4, 2) := by decide +kernel
theorem dX6_areTogether_5 : decode cX6_areTogether 5 = .ok (.iload_n 3, 1) := by decide +kernel
theorem dX6_areTogether_6 : decode cX6_areTogether 6 = .ok (.if_icmp .ge 42, 3) := by decide +kernel
theorem dX6_areTogether_9 : decode cX6_areTogether 9 = .ok (.aload_n 0, 1) := by decide +kernel
theorem dX6_areTogether_10 : decode cX6_areTogether 10 = .ok (.iload_n 1, 1) := by decide +kernel
theorem dX6_areTogether_11 : decode cX6_areTogether 11 = .ok (.aload_n 0, 1) := by decide +kernel
theorem dX6_areTogether_12 : decode cX6_areTogether 12 = .ok (.getfield 13, 3) := by decide +kernel
theorem dX6_areTogether_15 : decode cX6_areTogether 15 = .ok (.iconst 1, 1) := by decide +kernel
theorem dX6_areTogether_16 : decode cX6_areTogether 16 = .ok (.iaload, 1) := by decide +kernel
theorem dX6_areTogether_17 : decode cX6_areTogether 17 = .ok (.iload 4, 2) := by decide +kernel
theorem dX6_areTogether_19 : decode cX6_areTogether 19 = .ok (.iadd, 1) := by decide +kernel
theorem dX6_areTogether_20 : decode cX6_areTogether 20 = .ok (.invokevirtual 97, 3) := by decide +kernel
theorem dX6_areTogether_23 : decode cX6_areTogether 23 = .ok (.aload_n 0, 1) := by decide +kernel
theorem dX6_areTogether_24 : decode cX6_areTogether 24 = .ok (.iload_n 2, 1) := by decide +kernel
theorem dX6_areTogether_25 : decode cX6_areTogether 25 = .ok (.aload_n 0, 1) := by decide +kernel
theorem dX6_areTogether_26 : decode cX6_areTogether 26 = .ok (.getfield 13, 3) := by decide +kernel
theorem dX6_areTogether_29 : decode cX6_areTogether 29 = .ok (.iconst 1, 1) := by decide +kernel
theorem dX6_areTogether_30 : decode cX6_areTogether 30 = .ok (.iaload, 1) := by decide +kernel
theorem dX6_areTogether_31 : decode cX6_areTogether 31 = .ok (.iload 4, 2) := by decide +kernel
theorem dX6_areTogether_33 : decode cX6_areTogether 33 = .ok (.iadd, 1) := by decide +kernel
theorem dX6_areTogether_34 : decode cX6_areTogether 34 = .ok (.invokevirtual 97, 3) := by decide +kernel
theorem dX6_areTogether_37 : decode cX6_areTogether 37 = .ok (.if_icmp .eq 5, 3) := by decide +kernel
theorem dX6_areTogether_40 : decode cX6_areTogether 40 = .ok (.iconst 0, 1) := by decide +kernel
theorem dX6_areTogether_41 : decode cX6_areTogether 41 = .ok (.ireturn, 1) := by decide +kernel
theorem dX6_areTogether_42 : decode cX6_areTogether 42 = .ok (.iinc 4 1, 3) := by decide +kernel
theorem dX6_areTogether_45 : decode cX6_areTogether 45 = .ok (.goto (-42), 3) := by decide +kernel
theorem dX6_areTogether_48 : decode cX6_areTogether 48 = .ok (.iconst 1, 1) := by decide +kernel
theorem dX6_areTogether_49 : decode cX6_areTogether 49 = .ok (.ireturn, 1) := by decide +kernel
set_option maxRecDepth 20000 in
theorem ggX6_pairs_X6_within : GoodIn wsX6_pairs wsX6_within := goodIn_r _ [5] (by decide +kernel) (by decide +kernel)
set_option maxRecDepth 20000 in
theorem gX6_pairs_X6_within : GoodIn wsX6_pairs (va_wsS RX6 41 yX6_within wsX6_within) := goodIn_app (goodIn_of _ (by decide +kernel)) ggX6_pairs_X6_within
set_option maxRecDepth 20000 in
theorem ggX6_pairs_X6_isIn : GoodIn wsX6_pairs wsX6_isIn := goodIn_r _ [8] (by decide +kernel) (by decide +kernel)
set_option maxRecDepth 20000 in
theorem gX6_pairs_X6_isIn : GoodIn wsX6_pairs (va_wsS RX6 37 yX6_isIn wsX6_isIn) := goodIn_app (goodIn_of _ (by decide +kernel)) ggX6_pairs_X6_isIn
set_option maxRecDepth 20000 in
theorem ggX6_pairs_X6_refuse : GoodIn wsX6_pairs wsX6_refuse := goodIn_r _ [12, 13, 30, 31, 32, 33, 34, 35, 36, 37, 38, 39, 40, 41, 42, 43] (by decide +kernel) (by decide +kernel)
set_option maxRecDepth 20000 in
theorem gX6_pairs_X6_refuse : GoodIn wsX6_pairs (wsV RX6 49 RX6 yX6_refuse wsX6_refuse) := goodIn_app (goodIn_of _ (by decide +kernel)) ggX6_pairs_X6_refuse
set_option maxRecDepth 20000 in
theorem ggX6_pairs_X6_areTogether : GoodIn wsX6_pairs wsX6_areTogether := goodIn_r _ [17, 1, 18, 19, 20, 4, 21, 22, 23, 24, 25, 26, 27, 28, 29, 30, 31, 32, 33, 34, 35, 36, 37, 38, 39, 40, 41, 42, 43] (by decide +kernel) (by decide +kernel)
set_option maxRecDepth 20000 in
theorem gX6_pairs_X6_areTogether : GoodIn wsX6_pairs (wsV RX6 163 RX6 yX6_areTogether wsX6_areTogether) := goodIn_app (goodIn_of _ (by decide +kernel)) ggX6_pairs_X6_areTogether
theorem dX6_pairs_0 : decode cX6_pairs 0 = .ok (.iload_n 1, 1) := by decide +kernel
theorem dX6_pairs_1 : decode cX6_pairs 1 = .ok (.iconst 1, 1) := by decide +kernel
theorem dX6_pairs_2 : decode cX6_pairs 2 = .ok (.bipush 60, 2) := by decide +kernel
theorem dX6_pairs_4 : decode cX6_pairs 4 = .ok (.invokestatic 41, 3) := by decide +kernel
theorem dX6_pairs_7 : decode cX6_pairs 7 = .ok (.istore_n 3, 1) := by decide +kernel
theorem dX6_pairs_8 : decode cX6_pairs 8 = .ok (.iload_n 3, 1) := by decide +kernel
theorem dX6_pairs_9 : decode cX6_pairs 9 = .ok (.ifCond .ne 14, 3) := by decide +kernel
theorem dX6_pairs_12 : decode cX6_pairs 12 = .ok (.iload_n 2, 1) := by decide +kernel
theorem dX6_pairs_13 : decode cX6_pairs 13 = .ok (.iconst 2, 1) := by decide +kernel
theorem dX6_pairs_14 : decode cX6_pairs 14 = .ok (.invokestatic 37, 3) := by decide +kernel
theorem dX6_pairs_17 : decode cX6_pairs 17 = .ok (.ifCond .ne 6, 3) := by decide +kernel
theorem dX6_pairs_20 : decode cX6_pairs 20 = .ok (.bipush (-2), 2) := by decide +kernel
theorem dX6_pairs_22 : decode cX6_pairs 22 = .ok (.istore_n 3, 1) := by decide +kernel
theorem dX6_pairs_23 : decode cX6_pairs 23 = .ok (.iload_n 3, 1) := by decide +kernel
theorem dX6_pairs_24 : decode cX6_pairs 24 = .ok (.ifCond .eq 9, 3) := by decide +kernel
theorem dX6_pairs_27 : decode cX6_pairs 27 = .ok (.aload_n 0, 1) := by decide +kernel
theorem dX6_pairs_28 : decode cX6_pairs 28 = .ok (.iload_n 3, 1) := by decide +kernel
theorem dX6_pairs_29 : decode cX6_pairs 29 = .ok (.invokevirtual 49, 3) := by decide +kernel
theorem dX6_pairs_32 : decode cX6_pairs 32 = .ok (.ireturn, 1) := by decide +kernel
theorem dX6_pairs_33 : decode cX6_pairs 33 = .ok (.iconst 0, 1) := by decide +kernel
theorem dX6_pairs_34 : decode cX6_pairs 34 = .ok (.istore 4, 2) := by decide +kernel
theorem dX6_pairs_36 : decode cX6_pairs 36 = .ok (.bipush (-9), 2) := by decide +kernel
theorem dX6_pairs_38 : decode cX6_pairs 38 = .ok (.istore 5, 2) := by decide +kernel
theorem dX6_pairs_40 : decode cX6_pairs 40 = .ok (.iconst 0, 1) := by decide +kernel
theorem dX6_pairs_41 : decode cX6_pairs 41 = .ok (.istore 6, 2) := by decide +kernel
theorem dX6_pairs_43 : decode cX6_pairs 43 = .ok (.iload 6, 2) := by decide +kernel
theorem dX6_pairs_45 : decode cX6_pairs 45 = .ok (.aload_n 0, 1) := by decide +kernel
theorem dX6_pairs_46 : decode cX6_pairs 46 = .ok (.getfield 13, 3) := by decide +kernel
theorem dX6_pairs_49 : decode cX6_pairs 49 = .ok (.iconst 0, 1) := by decide +kernel
theorem dX6_pairs_50 : decode cX6_pairs 50 = .ok (.iaload, 1) := by decide +kernel
theorem dX6_pairs_51 : decode cX6_pairs 51 = .ok (.if_icmp .ge 70, 3) := by decide +kernel
theorem dX6_pairs_54 : decode cX6_pairs 54 = .ok (.iload 6, 2) := by decide +kernel
theorem dX6_pairs_56 : decode cX6_pairs 56 = .ok (.iconst 1, 1) := by decide +kernel
theorem dX6_pairs_57 : decode cX6_pairs 57 = .ok (.iadd, 1) := by decide +kernel
theorem dX6_pairs_58 : decode cX6_pairs 58 = .ok (.istore 7, 2) := by decide +kernel
theorem dX6_pairs_60 : decode cX6_pairs 60 = .ok (.iload 7, 2) := by decide +kernel
theorem dX6_pairs_62 : decode cX6_pairs 62 = .ok (.aload_n 0, 1) := by decide +kernel
theorem dX6_pairs_63 : decode cX6_pairs 63 = .ok (.getfield 13, 3) := by decide +kernel
theorem dX6_pairs_66 : decode cX6_pairs 66 = .ok (.iconst 0, 1) := by decide +kernel
theorem dX6_pairs_67 : decode cX6_pairs 67 = .ok (.iaload, 1) := by decide +kernel
theorem dX6_pairs_68 : decode cX6_pairs 68 = .ok (.if_icmp .ge 47, 3) := by decide +kernel
theorem dX6_pairs_71 : decode cX6_pairs 71 = .ok (.aload_n 0, 1) := by decide +kernel
theorem dX6_pairs_72 : decode cX6_pairs 72 = .ok (.iload 6, 2) := by decide +kernel
theorem dX6_pairs_74 : decode cX6_pairs 74 = .ok (.iload 7, 2) := by decide +kernel
theorem dX6_pairs_76 : decode cX6_pairs 76 = .ok (.iload_n 1, 1) := by decide +kernel
theorem dX6_pairs_77 : decode cX6_pairs 77 = .ok (.invokevirtual 163, 3) := by decide +kernel
theorem dX6_pairs_80 : decode cX6_pairs 80 = .ok (.ifCond .ne 6, 3) := by decide +kernel
theorem dX6_pairs_83 : decode cX6_pairs 83 = .ok (.goto 26, 3) := by decide +kernel
theorem dX6_pairs_86 : decode cX6_pairs 86 = .ok (.iinc 4 1, 3) := by decide +kernel
theorem dX6_pairs_89 : decode cX6_pairs 89 = .ok (.iload 5, 2) := by decide +kernel
theorem dX6_pairs_91 : decode cX6_pairs 91 = .ok (.ifCond .ge 14, 3) := by decide +kernel
theorem dX6_pairs_94 : decode cX6_pairs 94 = .ok (.bipush 10, 2) := by decide +kernel
theorem dX6_pairs_96 : decode cX6_pairs 96 = .ok (.iload 6, 2) := by decide +kernel
theorem dX6_pairs_98 : decode cX6_pairs 98 = .ok (.imul, 1) := by decide +kernel
theorem dX6_pairs_99 : decode cX6_pairs 99 = .ok (.iload 7, 2) := by decide +kernel
theorem dX6_pairs_101 : decode cX6_pairs 101 = .ok (.iadd, 1) := by decide +kernel
theorem dX6_pairs_102 : decode cX6_pairs 102 = .ok (.goto 5, 3) := by decide +kernel
theorem dX6_pairs_105 : decode cX6_pairs 105 = .ok (.iload 5, 2) := by decide +kernel
theorem dX6_pairs_107 : decode cX6_pairs 107 = .ok (.istore 5, 2) := by decide +kernel
theorem dX6_pairs_109 : decode cX6_pairs 109 = .ok (.iinc 7 1, 3) := by decide +kernel
theorem dX6_pairs_112 : decode cX6_pairs 112 = .ok (.goto (-52), 3) := by decide +kernel
theorem dX6_pairs_115 : decode cX6_pairs 115 = .ok (.iinc 6 1, 3) := by decide +kernel
theorem dX6_pairs_118 : decode cX6_pairs 118 = .ok (.goto (-75), 3) := by decide +kernel
theorem dX6_pairs_121 : decode cX6_pairs 121 = .ok (.iload_n 2, 1) := by decide +kernel
theorem dX6_pairs_122 : decode cX6_pairs 122 = .ok (.ifCond .ne 8, 3) := by decide +kernel
theorem dX6_pairs_125 : decode cX6_pairs 125 = .ok (.iload 4, 2) := by decide +kernel
theorem dX6_pairs_127 : decode cX6_pairs 127 = .ok (.goto 5, 3) := by decide +kernel
theorem dX6_pairs_130 : decode cX6_pairs 130 = .ok (.iload 5, 2) := by decide +kernel
theorem dX6_pairs_132 : decode cX6_pairs 132 = .ok (.ireturn, 1) := by decide +kernel
set_option maxRecDepth 20000 in
theorem ggX6_many_X6_in : GoodIn wsX6_many wsX6_in := goodIn_r _ [6, 1, 7, 8, 9, 10, 11, 12, 13, 14, 15, 16, 17, 18, 19, 20] (by decide +kernel) (by decide +kernel)
set_option maxRecDepth 20000 in
theorem gX6_many_X6_in : GoodIn wsX6_many (wsV RX6 145 RX6 yX6_in wsX6_in) := goodIn_app (goodIn_of _ (by decide +kernel)) ggX6_many_X6_in
theorem dX6_many_0 : decode cX6_many 0 = .ok (.iconst 0, 1) := by decide +kernel
theorem dX6_many_1 : decode cX6_many 1 = .ok (.istore_n 1, 1) := by decide +kernel
theorem dX6_many_2 : decode cX6_many 2 = .ok (.iconst 0, 1) := by decide +kernel
theorem dX6_many_3 : decode cX6_many 3 = .ok (.istore_n 2, 1) := by decide +kernel
theorem dX6_many_4 : decode cX6_many 4 = .ok (.iconst 0, 1) := by decide +kernel
theorem dX6_many_5 : decode cX6_many 5 = .ok (.istore_n 3, 1) := by decide +kernel
theorem dX6_many_6 : decode cX6_many 6 = .ok (.iload_n 3, 1) := by decide +kernel
theorem dX6_many_7 : decode cX6_many 7 = .ok (.aload_n 0, 1) := by decide +kernel
theorem dX6_many_8 : decode cX6_many 8 = .ok (.getfield 13, 3) := by decide +kernel
theorem dX6_many_11 : decode cX6_many 11 = .ok (.iconst 4, 1) := by decide +kernel
theorem dX6_many_12 : decode cX6_many 12 = .ok (.iaload, 1) := by decide +kernel
theorem dX6_many_13 : decode cX6_many 13 = .ok (.if_icmp .ge 89, 3) := by decide +kernel
theorem dX6_many_16 : decode cX6_many 16 = .ok (.iconst 0, 1) := by decide +kernel
theorem dX6_many_17 : decode cX6_many 17 = .ok (.istore 4, 2) := by decide +kernel
theorem dX6_many_19 : decode cX6_many 19 = .ok (.iconst 0, 1) := by decide +kernel
theorem dX6_many_20 : decode cX6_many 20 = .ok (.istore 5, 2) := by decide +kernel
theorem dX6_many_22 : decode cX6_many 22 = .ok (.iload 5, 2) := by decide +kernel
theorem dX6_many_24 : decode cX6_many 24 = .ok (.iload_n 3, 1) := by decide +kernel
theorem dX6_many_25 : decode cX6_many 25 = .ok (.if_icmp .ge 37, 3) := by decide +kernel
theorem dX6_many_28 : decode cX6_many 28 = .ok (.iload 4, 2) := by decide +kernel
theorem dX6_many_30 : decode cX6_many 30 = .ok (.ifCond .ne 19, 3) := by decide +kernel
theorem dX6_many_33 : decode cX6_many 33 = .ok (.aload_n 0, 1) := by decide +kernel
theorem dX6_many_34 : decode cX6_many 34 = .ok (.iload 5, 2) := by decide +kernel
theorem dX6_many_36 : decode cX6_many 36 = .ok (.iconst 2, 1) := by decide +kernel
theorem dX6_many_37 : decode cX6_many 37 = .ok (.invokevirtual 145, 3) := by decide +kernel
theorem dX6_many_40 : decode cX6_many 40 = .ok (.aload_n 0, 1) := by decide +kernel
theorem dX6_many_41 : decode cX6_many 41 = .ok (.iload_n 3, 1) := by decide +kernel
theorem dX6_many_42 : decode cX6_many 42 = .ok (.iconst 2, 1) := by decide +kernel
theorem dX6_many_43 : decode cX6_many 43 = .ok (.invokevirtual 145, 3) := by decide +kernel
theorem dX6_many_46 : decode cX6_many 46 = .ok (.if_icmp .ne 7, 3) := by decide +kernel
theorem dX6_many_49 : decode cX6_many 49 = .ok (.iconst 1, 1) := by decide +kernel
theorem dX6_many_50 : decode cX6_many 50 = .ok (.goto 4, 3) := by decide +kernel
theorem dX6_many_53 : decode cX6_many 53 = .ok (.iconst 0, 1) := by decide +kernel
theorem dX6_many_54 : decode cX6_many 54 = .ok (.istore 4, 2) := by decide +kernel
theorem dX6_many_56 : decode cX6_many 56 = .ok (.iinc 5 1, 3) := by decide +kernel
theorem dX6_many_59 : decode cX6_many 59 = .ok (.goto (-37), 3) := by decide +kernel
theorem dX6_many_62 : decode cX6_many 62 = .ok (.iload_n 2, 1) := by decide +kernel
theorem dX6_many_63 : decode cX6_many 63 = .ok (.iload 4, 2) := by decide +kernel
theorem dX6_many_65 : decode cX6_many 65 = .ok (.ifCond .eq 7, 3) := by decide +kernel
theorem dX6_many_68 : decode cX6_many 68 = .ok (.iconst 0, 1) := by decide +kernel
theorem dX6_many_69 : decode cX6_many 69 = .ok (.goto 4, 3) := by decide +kernel
theorem dX6_many_72 : decode cX6_many 72 = .ok (.iconst 1, 1) := by decide +kernel
theorem dX6_many_73 : decode cX6_many 73 = .ok (.iadd, 1) := by decide +kernel
theorem dX6_many_74 : decode cX6_many 74 = .ok (.istore_n 2, 1) := by decide +kernel
theorem dX6_many_75 : decode cX6_many 75 = .ok (.aload_n 0, 1) := by decide +kernel
theorem dX6_many_76 : decode cX6_many 76 = .ok (.iload_n 3, 1) := by decide +kernel
theorem dX6_many_77 : decode cX6_many 77 = .ok (.iconst 2, 1) := by decide +kernel
theorem dX6_many_78 : decode cX6_many 78 = .ok (.invokevirtual 145, 3) := by decide +kernel
theorem dX6_many_81 : decode cX6_many 81 = .ok (.iload_n 1, 1) := by decide +kernel
theorem dX6_many_82 : decode cX6_many 82 = .ok (.if_icmp .le 12, 3) := by decide +kernel
theorem dX6_many_85 : decode cX6_many 85 = .ok (.aload_n 0, 1) := by decide +kernel
theorem dX6_many_86 : decode cX6_many 86 = .ok (.iload_n 3, 1) := by decide +kernel
theorem dX6_many_87 : decode cX6_many 87 = .ok (.iconst 2, 1) := by decide +kernel
theorem dX6_many_88 : decode cX6_many 88 = .ok (.invokevirtual 145, 3) := by decide +kernel
theorem dX6_many_91 : decode cX6_many 91 = .ok (.goto 4, 3) := by decide +kernel
theorem dX6_many_94 : decode cX6_many 94 = .ok (.iload_n 1, 1) := by decide +kernel
theorem dX6_many_95 : decode cX6_many 95 = .ok (.istore_n 1, 1) := by decide +kernel
theorem dX6_many_96 : decode cX6_many 96 = .ok (.iinc 3 1, 3) := by decide +kernel
theorem dX6_many_99 : decode cX6_many 99 = .ok (.goto (-93), 3) := by decide +kernel
theorem dX6_many_102 : decode cX6_many 102 = .ok (.iload_n 2, 1) := by decide +kernel
theorem dX6_many_103 : decode cX6_many 103 = .ok (.ifCond .ne 7, 3) := by decide +kernel
theorem dX6_many_106 : decode cX6_many 106 = .ok (.iconst 0, 1) := by decide +kernel
theorem dX6_many_107 : decode cX6_many 107 = .ok (.goto 15, 3) := by decide +kernel
theorem dX6_many_110 : decode cX6_many 110 = .ok (.iload_n 1, 1) := by decide +kernel
theorem dX6_many_111 : decode cX6_many 111 = .ok (.bipush 9, 2) := by decide +kernel
theorem dX6_many_113 : decode cX6_many 113 = .ok (.isub, 1) := by decide +kernel
theorem dX6_many_114 : decode cX6_many 114 = .ok (.iload_n 2, 1) := by decide +kernel
theorem dX6_many_115 : decode cX6_many 115 = .ok (.iconst 1, 1) := by decide +kernel
theorem dX6_many_116 : decode cX6_many 116 = .ok (.iadd, 1) := by decide +kernel
theorem dX6_many_117 : decode cX6_many 117 = .ok (.imul, 1) := by decide +kernel
theorem dX6_many_118 : decode cX6_many 118 = .ok (.iload_n 2, 1) := by decide +kernel
theorem dX6_many_119 : decode cX6_many 119 = .ok (.idiv, 1) := by decide +kernel
theorem dX6_many_120 : decode cX6_many 120 = .ok (.iconst 1, 1) := by decide +kernel
theorem dX6_many_121 : decode cX6_many 121 = .ok (.isub, 1) := by decide +kernel
theorem dX6_many_122 : decode cX6_many 122 = .ok (.ireturn, 1) := by decide +kernel
set_option maxRecDepth 20000 in
theorem ggX6_more_X6_groupOf : GoodIn wsX6_more wsX6_groupOf := goodIn_r _ [6, 7, 8, 9, 5, 10, 1, 19, 20, 21, 22, 23, 24, 25, 26, 27, 28, 29, 30, 31, 32] (by decide +kernel) (by decide +kernel)
set_option maxRecDepth 20000 in
theorem gX6_more_X6_groupOf : GoodIn wsX6_more (wsV RX6 100 RX6 yX6_groupOf wsX6_groupOf) := goodIn_app (goodIn_of _ (by decide +kernel)) ggX6_more_X6_groupOf
set_option maxRecDepth 20000 in
theorem ggX6_more_X6_worth : GoodIn wsX6_more wsX6_worth := goodIn_r _ [14, 1, 7, 8, 9, 5, 10, 2, 3, 4, 6, 15, 16, 17, 18, 19, 20, 21, 22, 23, 24, 25, 26, 27, 28, 29, 30, 31, 32] (by decide +kernel) (by decide +kernel)
set_option maxRecDepth 20000 in
theorem gX6_more_X6_worth : GoodIn wsX6_more (wsV RX6 106 RX6 yX6_worth wsX6_worth) := goodIn_app (goodIn_of _ (by decide +kernel)) ggX6_more_X6_worth
theorem dX6_more_0 : decode cX6_more 0 = .ok (.iconst 0, 1) := by decide +kernel
theorem dX6_more_1 : decode cX6_more 1 = .ok (.istore_n 1, 1) := by decide +kernel
theorem dX6_more_2 : decode cX6_more 2 = .ok (.iconst 0, 1) := by decide +kernel
theorem dX6_more_3 : decode cX6_more 3 = .ok (.istore_n 2, 1) := by decide +kernel
theorem dX6_more_4 : decode cX6_more 4 = .ok (.iload_n 2, 1) := by decide +kernel
theorem dX6_more_5 : decode cX6_more 5 = .ok (.aload_n 0, 1) := by decide +kernel
theorem dX6_more_6 : decode cX6_more 6 = .ok (.getfield 13, 3) := by decide +kernel
theorem dX6_more_9 : decode cX6_more 9 = .ok (.iconst 0, 1) := by decide +kernel
theorem dX6_more_10 : decode cX6_more 10 = .ok (.iaload, 1) := by decide +kernel
theorem dX6_more_11 : decode cX6_more 11 = .ok (.if_icmp .ge 30, 3) := by decide +kernel
theorem dX6_more_14 : decode cX6_more 14 = .ok (.aload_n 0, 1) := by decide +kernel
theorem dX6_more_15 : decode cX6_more 15 = .ok (.iload_n 2, 1) := by decide +kernel
theorem dX6_more_16 : decode cX6_more 16 = .ok (.invokevirtual 100, 3) := by decide +kernel
theorem dX6_more_19 : decode cX6_more 19 = .ok (.aload_n 0, 1) := by decide +kernel
theorem dX6_more_20 : decode cX6_more 20 = .ok (.getfield 13, 3) := by decide +kernel
theorem dX6_more_23 : decode cX6_more 23 = .ok (.iconst 3, 1) := by decide +kernel
theorem dX6_more_24 : decode cX6_more 24 = .ok (.iaload, 1) := by decide +kernel
theorem dX6_more_25 : decode cX6_more 25 = .ok (.iand, 1) := by decide +kernel
theorem dX6_more_26 : decode cX6_more 26 = .ok (.ifCond .ne 9, 3) := by decide +kernel
theorem dX6_more_29 : decode cX6_more 29 = .ok (.iload_n 1, 1) := by decide +kernel
theorem dX6_more_30 : decode cX6_more 30 = .ok (.iconst 1, 1) := by decide +kernel
theorem dX6_more_31 : decode cX6_more 31 = .ok (.iload_n 2, 1) := by decide +kernel
theorem dX6_more_32 : decode cX6_more 32 = .ok (.ishl, 1) := by decide +kernel
theorem dX6_more_33 : decode cX6_more 33 = .ok (.ior, 1) := by decide +kernel
theorem dX6_more_34 : decode cX6_more 34 = .ok (.istore_n 1, 1) := by decide +kernel
theorem dX6_more_35 : decode cX6_more 35 = .ok (.iinc 2 1, 3) := by decide +kernel
theorem dX6_more_38 : decode cX6_more 38 = .ok (.goto (-34), 3) := by decide +kernel
theorem dX6_more_41 : decode cX6_more 41 = .ok (.aload_n 0, 1) := by decide +kernel
theorem dX6_more_42 : decode cX6_more 42 = .ok (.iload_n 1, 1) := by decide +kernel
theorem dX6_more_43 : decode cX6_more 43 = .ok (.iconst 1, 1) := by decide +kernel
theorem dX6_more_44 : decode cX6_more 44 = .ok (.invokevirtual 106, 3) := by decide +kernel
theorem dX6_more_47 : decode cX6_more 47 = .ok (.ireturn, 1) := by decide +kernel
set_option maxRecDepth 20000 in
theorem ggX6_seeds_X6_within : GoodIn wsX6_seeds wsX6_within := goodIn_r _ [8] (by decide +kernel) (by decide +kernel)
set_option maxRecDepth 20000 in
theorem gX6_seeds_X6_within : GoodIn wsX6_seeds (va_wsS RX6 41 yX6_within wsX6_within) := goodIn_app (goodIn_of _ (by decide +kernel)) ggX6_seeds_X6_within
set_option maxRecDepth 20000 in
theorem ggX6_seeds_X6_refuse : GoodIn wsX6_seeds wsX6_refuse := goodIn_r _ [12, 13, 50, 51, 52, 53, 54, 55, 56, 57, 58, 59, 60, 61, 62, 63] (by decide +kernel) (by decide +kernel)
set_option maxRecDepth 20000 in
theorem gX6_seeds_X6_refuse : GoodIn wsX6_seeds (wsV RX6 49 RX6 yX6_refuse wsX6_refuse) := goodIn_app (goodIn_of _ (by decide +kernel)) ggX6_seeds_X6_refuse
set_option maxRecDepth 20000 in
theorem ggX6_seeds_X6_stands : GoodIn wsX6_seeds wsX6_stands := goodIn_r _ [17, 1, 18, 19, 20, 7, 21, 22, 23, 24, 25, 26, 27, 28, 29, 30, 31, 32, 33, 34, 35, 36, 37, 38, 39, 40, 41, 42, 43, 44, 45, 46, 47, 48, 49, 50, 51, 52, 53, 54, 55, 56, 57, 58, 59, 60, 61, 62, 63] (by decide +kernel) (by decide +kernel)
set_option maxRecDepth 20000 in
theorem gX6_seeds_X6_stands : GoodIn wsX6_seeds (wsV RX6 122 RX6 yX6_stands wsX6_stands) := goodIn_app (goodIn_of _ (by decide +kernel)) ggX6_seeds_X6_stands
theorem dX6_seeds_0 : decode cX6_seeds 0 = .ok (.iload_n 1, 1) := by decide +kernel
theorem dX6_seeds_1 : decode cX6_seeds 1 = .ok (.iconst 1, 1) := by decide +kernel
theorem dX6_seeds_2 : decode cX6_seeds 2 = .ok (.bipush 30, 2) := by decide +kernel
theorem dX6_seeds_4 : decode cX6_seeds 4 = .ok (.invokestatic 41, 3) := by decide +kernel
theorem dX6_seeds_7 : decode cX6_seeds 7 = .ok (.istore_n 3, 1) := by decide +kernel
theorem dX6_seeds_8 : decode cX6_seeds 8 = .ok (.iload_n 3, 1) := by decide +kernel
theorem dX6_seeds_9 : decode cX6_seeds 9 = .ok (.ifCond .eq 9, 3) := by decide +kernel
theorem dX6_seeds_12 : decode cX6_seeds 12 = .ok (.aload_n 0, 1) := by decide +kernel
theorem dX6_seeds_13 : decode cX6_seeds 13 = .ok (.iload_n 3, 1) := by decide +kernel
theorem dX6_seeds_14 : decode cX6_seeds 14 = .ok (.invokevirtual 49, 3) := by decide +kernel
theorem dX6_seeds_17 : decode cX6_seeds 17 = .ok (.ireturn, 1) := by decide +kernel
theorem dX6_seeds_18 : decode cX6_seeds 18 = .ok (.aload_n 0, 1) := by decide +kernel
theorem dX6_seeds_19 : decode cX6_seeds 19 = .ok (.getfield 13, 3) := by decide +kernel
theorem dX6_seeds_22 : decode cX6_seeds 22 = .ok (.iconst 2, 1) := by decide +kernel
theorem dX6_seeds_23 : decode cX6_seeds 23 = .ok (.iaload, 1) := by decide +kernel
theorem dX6_seeds_24 : decode cX6_seeds 24 = .ok (.istore 4, 2) := by decide +kernel
theorem dX6_seeds_26 : decode cX6_seeds 26 = .ok (.iload_n 2, 1) := by decide +kernel
theorem dX6_seeds_27 : decode cX6_seeds 27 = .ok (.istore 5, 2) := by decide +kernel
theorem dX6_seeds_29 : decode cX6_seeds 29 = .ok (.iconst 0, 1) := by decide +kernel
theorem dX6_seeds_30 : decode cX6_seeds 30 = .ok (.istore 6, 2) := by decide +kernel
theorem dX6_seeds_32 : decode cX6_seeds 32 = .ok (.iconst 0, 1) := by decide +kernel
theorem dX6_seeds_33 : decode cX6_seeds 33 = .ok (.istore 7, 2) := by decide +kernel
theorem dX6_seeds_35 : decode cX6_seeds 35 = .ok (.iload 7, 2) := by decide +kernel
theorem dX6_seeds_37 : decode cX6_seeds 37 = .ok (.iload_n 1, 1) := by decide +kernel
theorem dX6_seeds_38 : decode cX6_seeds 38 = .ok (.if_icmp .ge 48, 3) := by decide +kernel
theorem dX6_seeds_41 : decode cX6_seeds 41 = .ok (.iload 5, 2) := by decide +kernel
theorem dX6_seeds_43 : decode cX6_seeds 43 = .ok (.ldc 167, 2) := by decide +kernel
theorem dX6_seeds_45 : decode cX6_seeds 45 = .ok (.imul, 1) := by decide +kernel
theorem dX6_seeds_46 : decode cX6_seeds 46 = .ok (.ldc 168, 2) := by decide +kernel
theorem dX6_seeds_48 : decode cX6_seeds 48 = .ok (.iadd, 1) := by decide +kernel
theorem dX6_seeds_49 : decode cX6_seeds 49 = .ok (.istore 5, 2) := by decide +kernel
theorem dX6_seeds_51 : decode cX6_seeds 51 = .ok (.iload 6, 2) := by decide +kernel
theorem dX6_seeds_53 : decode cX6_seeds 53 = .ok (.aload_n 0, 1) := by decide +kernel
theorem dX6_seeds_54 : decode cX6_seeds 54 = .ok (.iload 5, 2) := by decide +kernel
theorem dX6_seeds_56 : decode cX6_seeds 56 = .ok (.ldc 169, 2) := by decide +kernel
theorem dX6_seeds_58 : decode cX6_seeds 58 = .ok (.iand, 1) := by decide +kernel
theorem dX6_seeds_59 : decode cX6_seeds 59 = .ok (.sipush 256, 3) := by decide +kernel
theorem dX6_seeds_62 : decode cX6_seeds 62 = .ok (.idiv, 1) := by decide +kernel
theorem dX6_seeds_63 : decode cX6_seeds 63 = .ok (.iconst 5, 1) := by decide +kernel
theorem dX6_seeds_64 : decode cX6_seeds 64 = .ok (.irem, 1) := by decide +kernel
theorem dX6_seeds_65 : decode cX6_seeds 65 = .ok (.aload_n 0, 1) := by decide +kernel
theorem dX6_seeds_66 : decode cX6_seeds 66 = .ok (.getfield 13, 3) := by decide +kernel
theorem dX6_seeds_69 : decode cX6_seeds 69 = .ok (.iconst 1, 1) := by decide +kernel
theorem dX6_seeds_70 : decode cX6_seeds 70 = .ok (.iaload, 1) := by decide +kernel
theorem dX6_seeds_71 : decode cX6_seeds 71 = .ok (.iload 7, 2) := by decide +kernel
theorem dX6_seeds_73 : decode cX6_seeds 73 = .ok (.iadd, 1) := by decide +kernel
theorem dX6_seeds_74 : decode cX6_seeds 74 = .ok (.invokevirtual 122, 3) := by decide +kernel
theorem dX6_seeds_77 : decode cX6_seeds 77 = .ok (.iadd, 1) := by decide +kernel
theorem dX6_seeds_78 : decode cX6_seeds 78 = .ok (.istore 6, 2) := by decide +kernel
theorem dX6_seeds_80 : decode cX6_seeds 80 = .ok (.iinc 7 1, 3) := by decide +kernel
theorem dX6_seeds_83 : decode cX6_seeds 83 = .ok (.goto (-48), 3) := by decide +kernel
theorem dX6_seeds_86 : decode cX6_seeds 86 = .ok (.aload_n 0, 1) := by decide +kernel
theorem dX6_seeds_87 : decode cX6_seeds 87 = .ok (.getfield 13, 3) := by decide +kernel
theorem dX6_seeds_90 : decode cX6_seeds 90 = .ok (.iconst 2, 1) := by decide +kernel
theorem dX6_seeds_91 : decode cX6_seeds 91 = .ok (.iload 4, 2) := by decide +kernel
theorem dX6_seeds_93 : decode cX6_seeds 93 = .ok (.iastore, 1) := by decide +kernel
theorem dX6_seeds_94 : decode cX6_seeds 94 = .ok (.iload 6, 2) := by decide +kernel
theorem dX6_seeds_96 : decode cX6_seeds 96 = .ok (.ireturn, 1) := by decide +kernel
set_option maxRecDepth 20000 in
theorem ggX6_row_X6_within : GoodIn wsX6_row wsX6_within := goodIn_r _ [6] (by decide +kernel) (by decide +kernel)
set_option maxRecDepth 20000 in
theorem gX6_row_X6_within : GoodIn wsX6_row (va_wsS RX6 41 yX6_within wsX6_within) := goodIn_app (goodIn_of _ (by decide +kernel)) ggX6_row_X6_within
set_option maxRecDepth 20000 in
theorem ggX6_row_X6_refuse : GoodIn wsX6_row wsX6_refuse := goodIn_r _ [10, 11, 12, 13, 14, 15, 16, 17, 18, 19, 20, 21, 22, 23, 24, 25] (by decide +kernel) (by decide +kernel)
set_option maxRecDepth 20000 in
theorem gX6_row_X6_refuse : GoodIn wsX6_row (wsV RX6 49 RX6 yX6_refuse wsX6_refuse) := goodIn_app (goodIn_of _ (by decide +kernel)) ggX6_row_X6_refuse
theorem dX6_row_0 : decode cX6_row 0 = .ok (.iload_n 1, 1) := by decide +kernel
theorem dX6_row_1 : decode cX6_row 1 = .ok (.iconst 0, 1) := by decide +kernel
theorem dX6_row_2 : decode cX6_row 2 = .ok (.bipush 9, 2) := by decide +kernel
theorem dX6_row_4 : decode cX6_row 4 = .ok (.invokestatic 41, 3) := by decide +kernel
theorem dX6_row_7 : decode cX6_row 7 = .ok (.istore_n 2, 1) := by decide +kernel
theorem dX6_row_8 : decode cX6_row 8 = .ok (.iload_n 2, 1) := by decide +kernel
theorem dX6_row_9 : decode cX6_row 9 = .ok (.ifCond .ne 15, 3) := by decide +kernel
theorem dX6_row_12 : decode cX6_row 12 = .ok (.aload_n 0, 1) := by decide +kernel
theorem dX6_row_13 : decode cX6_row 13 = .ok (.getfield 170, 3) := by decide +kernel
theorem dX6_row_16 : decode cX6_row 16 = .ok (.bipush 14, 2) := by decide +kernel
theorem dX6_row_18 : decode cX6_row 18 = .ok (.if_icmp .ne 6, 3) := by decide +kernel
theorem dX6_row_21 : decode cX6_row 21 = .ok (.bipush (-6), 2) := by decide +kernel
theorem dX6_row_23 : decode cX6_row 23 = .ok (.istore_n 2, 1) := by decide +kernel
theorem dX6_row_24 : decode cX6_row 24 = .ok (.iload_n 2, 1) := by decide +kernel
theorem dX6_row_25 : decode cX6_row 25 = .ok (.ifCond .eq 9, 3) := by decide +kernel
theorem dX6_row_28 : decode cX6_row 28 = .ok (.aload_n 0, 1) := by decide +kernel
theorem dX6_row_29 : decode cX6_row 29 = .ok (.iload_n 2, 1) := by decide +kernel
theorem dX6_row_30 : decode cX6_row 30 = .ok (.invokevirtual 49, 3) := by decide +kernel
theorem dX6_row_33 : decode cX6_row 33 = .ok (.ireturn, 1) := by decide +kernel
theorem dX6_row_34 : decode cX6_row 34 = .ok (.aload_n 0, 1) := by decide +kernel
theorem dX6_row_35 : decode cX6_row 35 = .ok (.getfield 34, 3) := by decide +kernel
theorem dX6_row_38 : decode cX6_row 38 = .ok (.aload_n 0, 1) := by decide +kernel
theorem dX6_row_39 : decode cX6_row 39 = .ok (.getfield 170, 3) := by decide +kernel
theorem dX6_row_42 : decode cX6_row 42 = .ok (.iload_n 1, 1) := by decide +kernel
theorem dX6_row_43 : decode cX6_row 43 = .ok (.iastore, 1) := by decide +kernel
theorem dX6_row_44 : decode cX6_row 44 = .ok (.aload_n 0, 1) := by decide +kernel
theorem dX6_row_45 : decode cX6_row 45 = .ok (.dup, 1) := by decide +kernel
theorem dX6_row_46 : decode cX6_row 46 = .ok (.getfield 170, 3) := by decide +kernel
theorem dX6_row_49 : decode cX6_row 49 = .ok (.iconst 1, 1) := by decide +kernel
theorem dX6_row_50 : decode cX6_row 50 = .ok (.iadd, 1) := by decide +kernel
theorem dX6_row_51 : decode cX6_row 51 = .ok (.putfield 170, 3) := by decide +kernel
theorem dX6_row_54 : decode cX6_row 54 = .ok (.aload_n 0, 1) := by decide +kernel
theorem dX6_row_55 : decode cX6_row 55 = .ok (.getfield 170, 3) := by decide +kernel
theorem dX6_row_58 : decode cX6_row 58 = .ok (.ireturn, 1) := by decide +kernel
set_option maxRecDepth 20000 in
theorem ggX6_judge_X6_isEngine : GoodIn wsX6_judge wsX6_isEngine := goodIn_r _ [8, 3, 9, 10, 7, 11, 29, 30, 31, 32, 33, 34, 35, 36, 37, 38, 39, 40, 41, 42] (by decide +kernel) (by decide +kernel)
set_option maxRecDepth 20000 in
theorem gX6_judge_X6_isEngine : GoodIn wsX6_judge (wsV RX6 110 RX6 yX6_isEngine wsX6_isEngine) := goodIn_app (goodIn_of _ (by decide +kernel)) ggX6_judge_X6_isEngine
set_option maxRecDepth 20000 in
theorem ggX6_judge_X6_refuse : GoodIn wsX6_judge wsX6_refuse := goodIn_r _ [15, 16, 29, 30, 31, 32, 33, 34, 35, 36, 37, 38, 39, 40, 41, 42] (by decide +kernel) (by decide +kernel)
set_option maxRecDepth 20000 in
theorem gX6_judge_X6_refuse : GoodIn wsX6_judge (wsV RX6 49 RX6 yX6_refuse wsX6_refuse) := goodIn_app (goodIn_of _ (by decide +kernel)) ggX6_judge_X6_refuse
set_option maxRecDepth 20000 in
theorem ggX6_judge_X6_isAt : GoodIn wsX6_judge wsX6_isAt := goodIn_r _ [20, 3, 21, 22, 23, 7, 24, 25, 26, 27, 28, 29, 30, 31, 32, 33, 34, 35, 36, 37, 38, 39, 40, 41, 42] (by decide +kernel) (by decide +kernel)
set_option maxRecDepth 20000 in
theorem gX6_judge_X6_isAt : GoodIn wsX6_judge (wsV RX6 97 RX6 yX6_isAt wsX6_isAt) := goodIn_app (goodIn_of _ (by decide +kernel)) ggX6_judge_X6_isAt
theorem dX6_judge_0 : decode cX6_judge 0 = .ok (.aload_n 0, 1) := by decide +kernel
theorem dX6_judge_1 : decode cX6_judge 1 = .ok (.iload_n 1, 1) := by decide +kernel
theorem dX6_judge_2 : decode cX6_judge 2 = .ok (.invokevirtual 110, 3) := by decide +kernel
theorem dX6_judge_5 : decode cX6_judge 5 = .ok (.ifCond .ne 9, 3) := by decide +kernel
theorem dX6_judge_8 : decode cX6_judge 8 = .ok (.aload_n 0, 1) := by decide +kernel
theorem dX6_judge_9 : decode cX6_judge 9 = .ok (.iconst (-1), 1) := by decide +kernel
theorem dX6_judge_10 : decode cX6_judge 10 = .ok (.invokevirtual 49, 3) := by decide +kernel
theorem dX6_judge_13 : decode cX6_judge 13 = .ok (.ireturn, 1) := by decide +kernel
theorem dX6_judge_14 : decode cX6_judge 14 = .ok (.aload_n 0, 1) := by decide +kernel
theorem dX6_judge_15 : decode cX6_judge 15 = .ok (.getfield 170, 3) := by decide +kernel
theorem dX6_judge_18 : decode cX6_judge 18 = .ok (.istore_n 2, 1) := by decide +kernel
theorem dX6_judge_19 : decode cX6_judge 19 = .ok (.aload_n 0, 1) := by decide +kernel
theorem dX6_judge_20 : decode cX6_judge 20 = .ok (.iconst 0, 1) := by decide +kernel
theorem dX6_judge_21 : decode cX6_judge 21 = .ok (.putfield 170, 3) := by decide +kernel
theorem dX6_judge_24 : decode cX6_judge 24 = .ok (.iconst 0, 1) := by decide +kernel
theorem dX6_judge_25 : decode cX6_judge 25 = .ok (.istore_n 3, 1) := by decide +kernel
theorem dX6_judge_26 : decode cX6_judge 26 = .ok (.iload_n 3, 1) := by decide +kernel
theorem dX6_judge_27 : decode cX6_judge 27 = .ok (.iload_n 2, 1) := by decide +kernel
theorem dX6_judge_28 : decode cX6_judge 28 = .ok (.if_icmp .ge 33, 3) := by decide +kernel
theorem dX6_judge_31 : decode cX6_judge 31 = .ok (.aload_n 0, 1) := by decide +kernel
theorem dX6_judge_32 : decode cX6_judge 32 = .ok (.getfield 34, 3) := by decide +kernel
theorem dX6_judge_35 : decode cX6_judge 35 = .ok (.iload_n 3, 1) := by decide +kernel
theorem dX6_judge_36 : decode cX6_judge 36 = .ok (.iaload, 1) := by decide +kernel
theorem dX6_judge_37 : decode cX6_judge 37 = .ok (.aload_n 0, 1) := by decide +kernel
theorem dX6_judge_38 : decode cX6_judge 38 = .ok (.iload_n 1, 1) := by decide +kernel
theorem dX6_judge_39 : decode cX6_judge 39 = .ok (.aload_n 0, 1) := by decide +kernel
theorem dX6_judge_40 : decode cX6_judge 40 = .ok (.getfield 13, 3) := by decide +kernel
theorem dX6_judge_43 : decode cX6_judge 43 = .ok (.iconst 1, 1) := by decide +kernel
theorem dX6_judge_44 : decode cX6_judge 44 = .ok (.iaload, 1) := by decide +kernel
theorem dX6_judge_45 : decode cX6_judge 45 = .ok (.iload_n 3, 1) := by decide +kernel
theorem dX6_judge_46 : decode cX6_judge 46 = .ok (.iadd, 1) := by decide +kernel
theorem dX6_judge_47 : decode cX6_judge 47 = .ok (.invokevirtual 97, 3) := by decide +kernel
theorem dX6_judge_50 : decode cX6_judge 50 = .ok (.if_icmp .eq 5, 3) := by decide +kernel
theorem dX6_judge_53 : decode cX6_judge 53 = .ok (.iload_n 3, 1) := by decide +kernel
theorem dX6_judge_54 : decode cX6_judge 54 = .ok (.ireturn, 1) := by decide +kernel
theorem dX6_judge_55 : decode cX6_judge 55 = .ok (.iinc 3 1, 3) := by decide +kernel
theorem dX6_judge_58 : decode cX6_judge 58 = .ok (.goto (-32), 3) := by decide +kernel
theorem dX6_judge_61 : decode cX6_judge 61 = .ok (.bipush (-9), 2) := by decide +kernel
theorem dX6_judge_63 : decode cX6_judge 63 = .ok (.ireturn, 1) := by decide +kernel
set_option maxRecDepth 20000 in
theorem ggX6_image_X6_copies : GoodIn wsX6_image wsX6_copies := goodIn_r _ [7] (by decide +kernel) (by decide +kernel)
set_option maxRecDepth 20000 in
theorem gX6_image_X6_copies : GoodIn wsX6_image (va_wsS RX6 79 yX6_copies wsX6_copies) := goodIn_app (goodIn_of _ (by decide +kernel)) ggX6_image_X6_copies
theorem dX6_image_0 : decode cX6_image 0 = .ok (.aload_n 0, 1) := by decide +kernel
theorem dX6_image_1 : decode cX6_image 1 = .ok (.getfield 13, 3) := by decide +kernel
theorem dX6_image_4 : decode cX6_image 4 = .ok (.aload_n 0, 1) := by decide +kernel
theorem dX6_image_5 : decode cX6_image 5 = .ok (.getfield 16, 3) := by decide +kernel
theorem dX6_image_8 : decode cX6_image 8 = .ok (.invokestatic 79, 3) := by decide +kernel
theorem dX6_image_11 : decode cX6_image 11 = .ok (.aload_n 0, 1) := by decide +kernel
theorem dX6_image_12 : decode cX6_image 12 = .ok (.iconst 1, 1) := by decide +kernel
theorem dX6_image_13 : decode cX6_image 13 = .ok (.putfield 173, 3) := by decide +kernel
theorem dX6_image_16 : decode cX6_image 16 = .ok (.aload_n 0, 1) := by decide +kernel
theorem dX6_image_17 : decode cX6_image 17 = .ok (.getfield 13, 3) := by decide +kernel
theorem dX6_image_20 : decode cX6_image 20 = .ok (.iconst 1, 1) := by decide +kernel
theorem dX6_image_21 : decode cX6_image 21 = .ok (.iaload, 1) := by decide +kernel
theorem dX6_image_22 : decode cX6_image 22 = .ok (.ireturn, 1) := by decide +kernel
set_option maxRecDepth 20000 in
theorem ggX6_on_X6_refuse : GoodIn wsX6_on wsX6_refuse := goodIn_r _ [8, 9, 13, 14, 15, 16, 17, 18, 19, 20, 21, 22, 23, 24, 25, 26] (by decide +kernel) (by decide +kernel)
set_option maxRecDepth 20000 in
theorem gX6_on_X6_refuse : GoodIn wsX6_on (wsV RX6 49 RX6 yX6_refuse wsX6_refuse) := goodIn_app (goodIn_of _ (by decide +kernel)) ggX6_on_X6_refuse
set_option maxRecDepth 20000 in
theorem ggX6_on_X6_copies : GoodIn wsX6_on wsX6_copies := goodIn_r _ [12] (by decide +kernel) (by decide +kernel)
set_option maxRecDepth 20000 in
theorem gX6_on_X6_copies : GoodIn wsX6_on (va_wsS RX6 79 yX6_copies wsX6_copies) := goodIn_app (goodIn_of _ (by decide +kernel)) ggX6_on_X6_copies
theorem dX6_on_0 : decode cX6_on 0 = .ok (.aload_n 0, 1) := by decide +kernel
theorem dX6_on_1 : decode cX6_on 1 = .ok (.getfield 173, 3) := by decide +kernel
theorem dX6_on_4 : decode cX6_on 4 = .ok (.ifCond .ne 10, 3) := by decide +kernel
theorem dX6_on_7 : decode cX6_on 7 = .ok (.aload_n 0, 1) := by decide +kernel
theorem dX6_on_8 : decode cX6_on 8 = .ok (.bipush (-3), 2) := by decide +kernel
theorem dX6_on_10 : decode cX6_on 10 = .ok (.invokevirtual 49, 3) := by decide +kernel
theorem dX6_on_13 : decode cX6_on 13 = .ok (.ireturn, 1) := by decide +kernel
theorem dX6_on_14 : decode cX6_on 14 = .ok (.aload_n 0, 1) := by decide +kernel
theorem dX6_on_15 : decode cX6_on 15 = .ok (.getfield 16, 3) := by decide +kernel
theorem dX6_on_18 : decode cX6_on 18 = .ok (.aload_n 0, 1) := by decide +kernel
theorem dX6_on_19 : decode cX6_on 19 = .ok (.getfield 13, 3) := by decide +kernel
theorem dX6_on_22 : decode cX6_on 22 = .ok (.invokestatic 79, 3) := by decide +kernel
theorem dX6_on_25 : decode cX6_on 25 = .ok (.aload_n 0, 1) := by decide +kernel
theorem dX6_on_26 : decode cX6_on 26 = .ok (.getfield 13, 3) := by decide +kernel
theorem dX6_on_29 : decode cX6_on 29 = .ok (.iconst 1, 1) := by decide +kernel
theorem dX6_on_30 : decode cX6_on 30 = .ok (.iaload, 1) := by decide +kernel
theorem dX6_on_31 : decode cX6_on 31 = .ok (.ireturn, 1) := by decide +kernel
set_option maxRecDepth 20000 in
theorem ggX6_count_X6_bits : GoodIn wsX6_count wsX6_bits := goodIn_r _ [8] (by decide +kernel) (by decide +kernel)
set_option maxRecDepth 20000 in
theorem gX6_count_X6_bits : GoodIn wsX6_count (va_wsS RX6 160 yX6_bits wsX6_bits) := goodIn_app (goodIn_of _ (by decide +kernel)) ggX6_count_X6_bits
set_option maxRecDepth 20000 in
theorem ggX6_count_X6_allNew : GoodIn wsX6_count wsX6_allNew := goodIn_r _ [12, 2, 13, 14, 15, 7, 16, 17, 18, 19, 20, 21, 22, 23, 24, 25, 26, 27, 28, 29, 30, 31, 32, 33, 34, 35, 36, 37, 38, 39, 40, 41, 42, 43, 44, 45, 46] (by decide +kernel) (by decide +kernel)
set_option maxRecDepth 20000 in
theorem gX6_count_X6_allNew : GoodIn wsX6_count (wsV RX6 142 RX6 yX6_allNew wsX6_allNew) := goodIn_app (goodIn_of _ (by decide +kernel)) ggX6_count_X6_allNew
theorem dX6_count_0 : decode cX6_count 0 = .ok (.iload_n 1, 1) := by decide +kernel
theorem dX6_count_1 : decode cX6_count 1 = .ok (.bipush 10, 2) := by decide +kernel
theorem dX6_count_3 : decode cX6_count 3 = .ok (.if_icmp .le 19, 3) := by decide +kernel
theorem dX6_count_6 : decode cX6_count 6 = .ok (.iload_n 1, 1) := by decide +kernel
theorem dX6_count_7 : decode cX6_count 7 = .ok (.bipush 17, 2) := by decide +kernel
theorem dX6_count_9 : decode cX6_count 9 = .ok (.if_icmp .ge 13, 3) := by decide +kernel
theorem dX6_count_12 : decode cX6_count 12 = .ok (.aload_n 0, 1) := by decide +kernel
theorem dX6_count_13 : decode cX6_count 13 = .ok (.getfield 7, 3) := by decide +kernel
theorem dX6_count_16 : decode cX6_count 16 = .ok (.iload_n 1, 1) := by decide +kernel
theorem dX6_count_17 : decode cX6_count 17 = .ok (.bipush 10, 2) := by decide +kernel
theorem dX6_count_19 : decode cX6_count 19 = .ok (.isub, 1) := by decide +kernel
theorem dX6_count_20 : decode cX6_count 20 = .ok (.iaload, 1) := by decide +kernel
theorem dX6_count_21 : decode cX6_count 21 = .ok (.ireturn, 1) := by decide +kernel
theorem dX6_count_22 : decode cX6_count 22 = .ok (.iload_n 1, 1) := by decide +kernel
theorem dX6_count_23 : decode cX6_count 23 = .ok (.tableswitch 101 0 7 #[45, 52, 59, 69, 74, 81, 86, 91], 45) := by decide +kernel
theorem dX6_count_68 : decode cX6_count 68 = .ok (.aload_n 0, 1) := by decide +kernel
theorem dX6_count_69 : decode cX6_count 69 = .ok (.getfield 13, 3) := by decide +kernel
theorem dX6_count_72 : decode cX6_count 72 = .ok (.iconst 0, 1) := by decide +kernel
theorem dX6_count_73 : decode cX6_count 73 = .ok (.iaload, 1) := by decide +kernel
theorem dX6_count_74 : decode cX6_count 74 = .ok (.ireturn, 1) := by decide +kernel
theorem dX6_count_75 : decode cX6_count 75 = .ok (.aload_n 0, 1) := by decide +kernel
theorem dX6_count_76 : decode cX6_count 76 = .ok (.getfield 13, 3) := by decide +kernel
theorem dX6_count_79 : decode cX6_count 79 = .ok (.iconst 1, 1) := by decide +kernel
theorem dX6_count_80 : decode cX6_count 80 = .ok (.iaload, 1) := by decide +kernel
theorem dX6_count_81 : decode cX6_count 81 = .ok (.ireturn, 1) := by decide +kernel
theorem dX6_count_82 : decode cX6_count 82 = .ok (.aload_n 0, 1) := by decide +kernel
theorem dX6_count_83 : decode cX6_count 83 = .ok (.getfield 13, 3) := by decide +kernel
theorem dX6_count_86 : decode cX6_count 86 = .ok (.iconst 2, 1) := by decide +kernel
theorem dX6_count_87 : decode cX6_count 87 = .ok (.iaload, 1) := by decide +kernel
theorem dX6_count_88 : decode cX6_count 88 = .ok (.invokestatic 160, 3) := by decide +kernel
theorem dX6_count_91 : decode cX6_count 91 = .ok (.ireturn, 1) := by decide +kernel
theorem dX6_count_92 : decode cX6_count 92 = .ok (.aload_n 0, 1) := by decide +kernel
theorem dX6_count_93 : decode cX6_count 93 = .ok (.invokevirtual 142, 3) := by decide +kernel
theorem dX6_count_96 : decode cX6_count 96 = .ok (.ireturn, 1) := by decide +kernel
theorem dX6_count_97 : decode cX6_count 97 = .ok (.aload_n 0, 1) := by decide +kernel
theorem dX6_count_98 : decode cX6_count 98 = .ok (.getfield 13, 3) := by decide +kernel
theorem dX6_count_101 : decode cX6_count 101 = .ok (.iconst 4, 1) := by decide +kernel
theorem dX6_count_102 : decode cX6_count 102 = .ok (.iaload, 1) := by decide +kernel
theorem dX6_count_103 : decode cX6_count 103 = .ok (.ireturn, 1) := by decide +kernel
theorem dX6_count_104 : decode cX6_count 104 = .ok (.aload_n 0, 1) := by decide +kernel
theorem dX6_count_105 : decode cX6_count 105 = .ok (.getfield 170, 3) := by decide +kernel
theorem dX6_count_108 : decode cX6_count 108 = .ok (.ireturn, 1) := by decide +kernel
theorem dX6_count_109 : decode cX6_count 109 = .ok (.aload_n 0, 1) := by decide +kernel
theorem dX6_count_110 : decode cX6_count 110 = .ok (.getfield 45, 3) := by decide +kernel
theorem dX6_count_113 : decode cX6_count 113 = .ok (.ireturn, 1) := by decide +kernel
theorem dX6_count_114 : decode cX6_count 114 = .ok (.aload_n 0, 1) := by decide +kernel
theorem dX6_count_115 : decode cX6_count 115 = .ok (.getfield 13, 3) := by decide +kernel
theorem dX6_count_118 : decode cX6_count 118 = .ok (.iconst 3, 1) := by decide +kernel
theorem dX6_count_119 : decode cX6_count 119 = .ok (.iaload, 1) := by decide +kernel
theorem dX6_count_120 : decode cX6_count 120 = .ok (.invokestatic 160, 3) := by decide +kernel
theorem dX6_count_123 : decode cX6_count 123 = .ok (.ireturn, 1) := by decide +kernel
theorem dX6_count_124 : decode cX6_count 124 = .ok (.bipush (-9), 2) := by decide +kernel
theorem dX6_count_126 : decode cX6_count 126 = .ok (.ireturn, 1) := by decide +kernel
