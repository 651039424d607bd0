theorem dX0_init_0 : decode cX0_init 0 = .ok (.aload_n 0, 1) := by decide +kernel
theorem dX0_init_1 : decode cX0_init 1 = .ok (.invokespecial 3, 3) := by decide +kernel
theorem dX0_init_4 : decode cX0_init 4 = .ok (.aload_n 0, 1) := by decide +kernel
theorem dX0_init_5 : decode cX0_init 5 = .ok (.bipush 12, 2) := by decide +kernel
theorem dX0_init_7 : decode cX0_init 7 = .ok (.newarray .int, 2) := by decide +kernel
theorem dX0_init_9 : decode cX0_init 9 = .ok (.putfield 9, 3) := by decide +kernel
theorem dX0_init_12 : decode cX0_init 12 = .ok (.aload_n 0, 1) := by decide +kernel
theorem dX0_init_13 : decode cX0_init 13 = .ok (.bipush 12, 2) := by decide +kernel
theorem dX0_init_15 : decode cX0_init 15 = .ok (.newarray .int, 2) := by decide +kernel
theorem dX0_init_17 : decode cX0_init 17 = .ok (.putfield 15, 3) := by decide +kernel
theorem dX0_init_20 : decode cX0_init 20 = .ok (.aload_n 0, 1) := by decide +kernel
theorem dX0_init_21 : decode cX0_init 21 = .ok (.bipush 12, 2) := by decide +kernel
theorem dX0_init_23 : decode cX0_init 23 = .ok (.newarray .int, 2) := by decide +kernel
theorem dX0_init_25 : decode cX0_init 25 = .ok (.putfield 18, 3) := by decide +kernel
theorem dX0_init_28 : decode cX0_init 28 = .ok (.aload_n 0, 1) := by decide +kernel
theorem dX0_init_29 : decode cX0_init 29 = .ok (.bipush 12, 2) := by decide +kernel
theorem dX0_init_31 : decode cX0_init 31 = .ok (.newarray .int, 2) := by decide +kernel
theorem dX0_init_33 : decode cX0_init 33 = .ok (.putfield 21, 3) := by decide +kernel
theorem dX0_init_36 : decode cX0_init 36 = .ok (.return_, 1) := by decide +kernel
theorem dX0_copyFrom_0 : decode cX0_copyFrom 0 = .ok (.aload_n 1, 1) := by decide +kernel
theorem dX0_copyFrom_1 : decode cX0_copyFrom 1 = .ok (.getfield 9, 3) := by decide +kernel
theorem dX0_copyFrom_4 : decode cX0_copyFrom 4 = .ok (.iconst 0, 1) := by decide +kernel
theorem dX0_copyFrom_5 : decode cX0_copyFrom 5 = .ok (.aload_n 0, 1) := by decide +kernel
theorem dX0_copyFrom_6 : decode cX0_copyFrom 6 = .ok (.getfield 9, 3) := by decide +kernel
theorem dX0_copyFrom_9 : decode cX0_copyFrom 9 = .ok (.iconst 0, 1) := by decide +kernel
theorem dX0_copyFrom_10 : decode cX0_copyFrom 10 = .ok (.bipush 12, 2) := by decide +kernel
theorem dX0_copyFrom_12 : decode cX0_copyFrom 12 = .ok (.invokestatic 24, 3) := by decide +kernel
theorem dX0_copyFrom_15 : decode cX0_copyFrom 15 = .ok (.aload_n 1, 1) := by decide +kernel
theorem dX0_copyFrom_16 : decode cX0_copyFrom 16 = .ok (.getfield 15, 3) := by decide +kernel
theorem dX0_copyFrom_19 : decode cX0_copyFrom 19 = .ok (.iconst 0, 1) := by decide +kernel
theorem dX0_copyFrom_20 : decode cX0_copyFrom 20 = .ok (.aload_n 0, 1) := by decide +kernel
theorem dX0_copyFrom_21 : decode cX0_copyFrom 21 = .ok (.getfield 15, 3) := by decide +kernel
theorem dX0_copyFrom_24 : decode cX0_copyFrom 24 = .ok (.iconst 0, 1) := by decide +kernel
theorem dX0_copyFrom_25 : decode cX0_copyFrom 25 = .ok (.bipush 12, 2) := by decide +kernel
theorem dX0_copyFrom_27 : decode cX0_copyFrom 27 = .ok (.invokestatic 24, 3) := by decide +kernel
theorem dX0_copyFrom_30 : decode cX0_copyFrom 30 = .ok (.aload_n 1, 1) := by decide +kernel
theorem dX0_copyFrom_31 : decode cX0_copyFrom 31 = .ok (.getfield 18, 3) := by decide +kernel
theorem dX0_copyFrom_34 : decode cX0_copyFrom 34 = .ok (.iconst 0, 1) := by decide +kernel
theorem dX0_copyFrom_35 : decode cX0_copyFrom 35 = .ok (.aload_n 0, 1) := by decide +kernel
theorem dX0_copyFrom_36 : decode cX0_copyFrom 36 = .ok (.getfield 18, 3) := by decide +kernel
theorem dX0_copyFrom_39 : decode cX0_copyFrom 39 = .ok (.iconst 0, 1) := by decide +kernel
theorem dX0_copyFrom_40 : decode cX0_copyFrom 40 = .ok (.bipush 12, 2) := by decide +kernel
theorem dX0_copyFrom_42 : decode cX0_copyFrom 42 = .ok (.invokestatic 24, 3) := by decide +kernel
theorem dX0_copyFrom_45 : decode cX0_copyFrom 45 = .ok (.aload_n 1, 1) := by decide +kernel
theorem dX0_copyFrom_46 : decode cX0_copyFrom 46 = .ok (.getfield 21, 3) := by decide +kernel
theorem dX0_copyFrom_49 : decode cX0_copyFrom 49 = .ok (.iconst 0, 1) := by decide +kernel
theorem dX0_copyFrom_50 : decode cX0_copyFrom 50 = .ok (.aload_n 0, 1) := by decide +kernel
theorem dX0_copyFrom_51 : decode cX0_copyFrom 51 = .ok (.getfield 21, 3) := by decide +kernel
theorem dX0_copyFrom_54 : decode cX0_copyFrom 54 = .ok (.iconst 0, 1) := by decide +kernel
theorem dX0_copyFrom_55 : decode cX0_copyFrom 55 = .ok (.bipush 12, 2) := by decide +kernel
theorem dX0_copyFrom_57 : decode cX0_copyFrom 57 = .ok (.invokestatic 24, 3) := by decide +kernel
theorem dX0_copyFrom_60 : decode cX0_copyFrom 60 = .ok (.aload_n 0, 1) := by decide +kernel
theorem dX0_copyFrom_61 : decode cX0_copyFrom 61 = .ok (.aload_n 1, 1) := by decide +kernel
theorem dX0_copyFrom_62 : decode cX0_copyFrom 62 = .ok (.getfield 30, 3) := by decide +kernel
theorem dX0_copyFrom_65 : decode cX0_copyFrom 65 = .ok (.putfield 30, 3) := by decide +kernel
theorem dX0_copyFrom_68 : decode cX0_copyFrom 68 = .ok (.return_, 1) := by decide +kernel
theorem dX0_holds_0 : decode cX0_holds 0 = .ok (.iload_n 1, 1) := by decide +kernel
theorem dX0_holds_1 : decode cX0_holds 1 = .ok (.ifCond .lt 21, 3) := by decide +kernel
theorem dX0_holds_4 : decode cX0_holds 4 = .ok (.iload_n 1, 1) := by decide +kernel
theorem dX0_holds_5 : decode cX0_holds 5 = .ok (.aload_n 0, 1) := by decide +kernel
theorem dX0_holds_6 : decode cX0_holds 6 = .ok (.getfield 30, 3) := by decide +kernel
theorem dX0_holds_9 : decode cX0_holds 9 = .ok (.if_icmp .ge 13, 3) := by decide +kernel
theorem dX0_holds_12 : decode cX0_holds 12 = .ok (.iload_n 1, 1) := by decide +kernel
theorem dX0_holds_13 : decode cX0_holds 13 = .ok (.bipush 12, 2) := by decide +kernel
theorem dX0_holds_15 : decode cX0_holds 15 = .ok (.if_icmp .ge 7, 3) := by decide +kernel
theorem dX0_holds_18 : decode cX0_holds 18 = .ok (.iconst 1, 1) := by decide +kernel
theorem dX0_holds_19 : decode cX0_holds 19 = .ok (.goto 4, 3) := by decide +kernel
theorem dX0_holds_22 : decode cX0_holds 22 = .ok (.iconst 0, 1) := by decide +kernel
theorem dX0_holds_23 : decode cX0_holds 23 = .ok (.ireturn, 1) := by decide +kernel
theorem dX0_add_0 : decode cX0_add 0 = .ok (.aload_n 0, 1) := by decide +kernel
theorem dX0_add_1 : decode cX0_add 1 = .ok (.getfield 30, 3) := by decide +kernel
theorem dX0_add_4 : decode cX0_add 4 = .ok (.bipush 12, 2) := by decide +kernel
theorem dX0_add_6 : decode cX0_add 6 = .ok (.if_icmp .lt 5, 3) := by decide +kernel
theorem dX0_add_9 : decode cX0_add 9 = .ok (.iconst 0, 1) := by decide +kernel
theorem dX0_add_10 : decode cX0_add 10 = .ok (.ireturn, 1) := by decide +kernel
theorem dX0_add_11 : decode cX0_add 11 = .ok (.aload_n 0, 1) := by decide +kernel
theorem dX0_add_12 : decode cX0_add 12 = .ok (.getfield 9, 3) := by decide +kernel
theorem dX0_add_15 : decode cX0_add 15 = .ok (.aload_n 0, 1) := by decide +kernel
theorem dX0_add_16 : decode cX0_add 16 = .ok (.getfield 30, 3) := by decide +kernel
theorem dX0_add_19 : decode cX0_add 19 = .ok (.iload_n 1, 1) := by decide +kernel
theorem dX0_add_20 : decode cX0_add 20 = .ok (.iastore, 1) := by decide +kernel
theorem dX0_add_21 : decode cX0_add 21 = .ok (.aload_n 0, 1) := by decide +kernel
theorem dX0_add_22 : decode cX0_add 22 = .ok (.getfield 15, 3) := by decide +kernel
theorem dX0_add_25 : decode cX0_add 25 = .ok (.aload_n 0, 1) := by decide +kernel
theorem dX0_add_26 : decode cX0_add 26 = .ok (.getfield 30, 3) := by decide +kernel
theorem dX0_add_29 : decode cX0_add 29 = .ok (.iload_n 2, 1) := by decide +kernel
theorem dX0_add_30 : decode cX0_add 30 = .ok (.iastore, 1) := by decide +kernel
theorem dX0_add_31 : decode cX0_add 31 = .ok (.aload_n 0, 1) := by decide +kernel
theorem dX0_add_32 : decode cX0_add 32 = .ok (.getfield 18, 3) := by decide +kernel
theorem dX0_add_35 : decode cX0_add 35 = .ok (.aload_n 0, 1) := by decide +kernel
theorem dX0_add_36 : decode cX0_add 36 = .ok (.getfield 30, 3) := by decide +kernel
theorem dX0_add_39 : decode cX0_add 39 = .ok (.iload_n 3, 1) := by decide +kernel
theorem dX0_add_40 : decode cX0_add 40 = .ok (.iastore, 1) := by decide +kernel
theorem dX0_add_41 : decode cX0_add 41 = .ok (.aload_n 0, 1) := by decide +kernel
theorem dX0_add_42 : decode cX0_add 42 = .ok (.getfield 21, 3) := by decide +kernel
theorem dX0_add_45 : decode cX0_add 45 = .ok (.aload_n 0, 1) := by decide +kernel
theorem dX0_add_46 : decode cX0_add 46 = .ok (.getfield 30, 3) := by decide +kernel
theorem dX0_add_49 : decode cX0_add 49 = .ok (.iload 4, 2) := by decide +kernel
theorem dX0_add_51 : decode cX0_add 51 = .ok (.iastore, 1) := by decide +kernel
theorem dX0_add_52 : decode cX0_add 52 = .ok (.aload_n 0, 1) := by decide +kernel
theorem dX0_add_53 : decode cX0_add 53 = .ok (.dup, 1) := by decide +kernel
theorem dX0_add_54 : decode cX0_add 54 = .ok (.getfield 30, 3) := by decide +kernel
theorem dX0_add_57 : decode cX0_add 57 = .ok (.iconst 1, 1) := by decide +kernel
theorem dX0_add_58 : decode cX0_add 58 = .ok (.iadd, 1) := by decide +kernel
theorem dX0_add_59 : decode cX0_add 59 = .ok (.putfield 30, 3) := by decide +kernel
theorem dX0_add_62 : decode cX0_add 62 = .ok (.iconst 1, 1) := by decide +kernel
theorem dX0_add_63 : decode cX0_add 63 = .ok (.ireturn, 1) := by decide +kernel
set_option maxRecDepth 20000 in
theorem ggX0_readBy_X0_holds : GoodIn wsX0_readBy wsX0_holds := goodIn_r _ [7, 1, 8, 9, 10, 11, 12] (by decide +kernel) (by decide +kernel)
set_option maxRecDepth 20000 in
theorem gX0_readBy_X0_holds : GoodIn wsX0_readBy (wsV RX0 34 RX0 yX0_holds wsX0_holds) := goodIn_app (goodIn_of _ (by decide +kernel)) ggX0_readBy_X0_holds
theorem dX0_readBy_0 : decode cX0_readBy 0 = .ok (.iconst 0, 1) := by decide +kernel
theorem dX0_readBy_1 : decode cX0_readBy 1 = .ok (.istore_n 2, 1) := by decide +kernel
theorem dX0_readBy_2 : decode cX0_readBy 2 = .ok (.iconst 0, 1) := by decide +kernel
theorem dX0_readBy_3 : decode cX0_readBy 3 = .ok (.istore_n 3, 1) := by decide +kernel
theorem dX0_readBy_4 : decode cX0_readBy 4 = .ok (.iload_n 3, 1) := by decide +kernel
theorem dX0_readBy_5 : decode cX0_readBy 5 = .ok (.aload_n 0, 1) := by decide +kernel
theorem dX0_readBy_6 : decode cX0_readBy 6 = .ok (.getfield 30, 3) := by decide +kernel
theorem dX0_readBy_9 : decode cX0_readBy 9 = .ok (.if_icmp .ge 33, 3) := by decide +kernel
theorem dX0_readBy_12 : decode cX0_readBy 12 = .ok (.aload_n 0, 1) := by decide +kernel
theorem dX0_readBy_13 : decode cX0_readBy 13 = .ok (.iload_n 3, 1) := by decide +kernel
theorem dX0_readBy_14 : decode cX0_readBy 14 = .ok (.invokevirtual 34, 3) := by decide +kernel
theorem dX0_readBy_17 : decode cX0_readBy 17 = .ok (.ifCond .eq 19, 3) := by decide +kernel
theorem dX0_readBy_20 : decode cX0_readBy 20 = .ok (.aload_n 0, 1) := by decide +kernel
theorem dX0_readBy_21 : decode cX0_readBy 21 = .ok (.getfield 21, 3) := by decide +kernel
theorem dX0_readBy_24 : decode cX0_readBy 24 = .ok (.iload_n 3, 1) := by decide +kernel
theorem dX0_readBy_25 : decode cX0_readBy 25 = .ok (.iaload, 1) := by decide +kernel
theorem dX0_readBy_26 : decode cX0_readBy 26 = .ok (.iload_n 1, 1) := by decide +kernel
theorem dX0_readBy_27 : decode cX0_readBy 27 = .ok (.if_icmp .ne 9, 3) := by decide +kernel
theorem dX0_readBy_30 : decode cX0_readBy 30 = .ok (.iload_n 2, 1) := by decide +kernel
theorem dX0_readBy_31 : decode cX0_readBy 31 = .ok (.iconst 1, 1) := by decide +kernel
theorem dX0_readBy_32 : decode cX0_readBy 32 = .ok (.iload_n 3, 1) := by decide +kernel
theorem dX0_readBy_33 : decode cX0_readBy 33 = .ok (.ishl, 1) := by decide +kernel
theorem dX0_readBy_34 : decode cX0_readBy 34 = .ok (.ior, 1) := by decide +kernel
theorem dX0_readBy_35 : decode cX0_readBy 35 = .ok (.istore_n 2, 1) := by decide +kernel
theorem dX0_readBy_36 : decode cX0_readBy 36 = .ok (.iinc 3 1, 3) := by decide +kernel
theorem dX0_readBy_39 : decode cX0_readBy 39 = .ok (.goto (-35), 3) := by decide +kernel
theorem dX0_readBy_42 : decode cX0_readBy 42 = .ok (.iload_n 2, 1) := by decide +kernel
theorem dX0_readBy_43 : decode cX0_readBy 43 = .ok (.ireturn, 1) := by decide +kernel
set_option maxRecDepth 20000 in
theorem ggX0_cannotBothBe_X0_holds : GoodIn wsX0_cannotBothBe wsX0_holds := goodIn_r _ [8, 9, 10, 11, 12, 13, 14] (by decide +kernel) (by decide +kernel)
set_option maxRecDepth 20000 in
theorem gX0_cannotBothBe_X0_holds : GoodIn wsX0_cannotBothBe (wsV RX0 34 RX0 yX0_holds wsX0_holds) := goodIn_app (goodIn_of _ (by decide +kernel)) ggX0_cannotBothBe_X0_holds
theorem dX0_cannotBothBe_0 : decode cX0_cannotBothBe 0 = .ok (.aload_n 0, 1) := by decide +kernel
theorem dX0_cannotBothBe_1 : decode cX0_cannotBothBe 1 = .ok (.iload_n 1, 1) := by decide +kernel
theorem dX0_cannotBothBe_2 : decode cX0_cannotBothBe 2 = .ok (.invokevirtual 34, 3) := by decide +kernel
theorem dX0_cannotBothBe_5 : decode cX0_cannotBothBe 5 = .ok (.ifCond .eq 60, 3) := by decide +kernel
theorem dX0_cannotBothBe_8 : decode cX0_cannotBothBe 8 = .ok (.aload_n 0, 1) := by decide +kernel
theorem dX0_cannotBothBe_9 : decode cX0_cannotBothBe 9 = .ok (.iload_n 2, 1) := by decide +kernel
theorem dX0_cannotBothBe_10 : decode cX0_cannotBothBe 10 = .ok (.invokevirtual 34, 3) := by decide +kernel
theorem dX0_cannotBothBe_13 : decode cX0_cannotBothBe 13 = .ok (.ifCond .eq 52, 3) := by decide +kernel
theorem dX0_cannotBothBe_16 : decode cX0_cannotBothBe 16 = .ok (.aload_n 0, 1) := by decide +kernel
theorem dX0_cannotBothBe_17 : decode cX0_cannotBothBe 17 = .ok (.getfield 18, 3) := by decide +kernel
theorem dX0_cannotBothBe_20 : decode cX0_cannotBothBe 20 = .ok (.iload_n 1, 1) := by decide +kernel
theorem dX0_cannotBothBe_21 : decode cX0_cannotBothBe 21 = .ok (.iaload, 1) := by decide +kernel
theorem dX0_cannotBothBe_22 : decode cX0_cannotBothBe 22 = .ok (.aload_n 0, 1) := by decide +kernel
theorem dX0_cannotBothBe_23 : decode cX0_cannotBothBe 23 = .ok (.getfield 18, 3) := by decide +kernel
theorem dX0_cannotBothBe_26 : decode cX0_cannotBothBe 26 = .ok (.iload_n 2, 1) := by decide +kernel
theorem dX0_cannotBothBe_27 : decode cX0_cannotBothBe 27 = .ok (.iaload, 1) := by decide +kernel
theorem dX0_cannotBothBe_28 : decode cX0_cannotBothBe 28 = .ok (.if_icmp .ne 37, 3) := by decide +kernel
theorem dX0_cannotBothBe_31 : decode cX0_cannotBothBe 31 = .ok (.aload_n 0, 1) := by decide +kernel
theorem dX0_cannotBothBe_32 : decode cX0_cannotBothBe 32 = .ok (.getfield 9, 3) := by decide +kernel
theorem dX0_cannotBothBe_35 : decode cX0_cannotBothBe 35 = .ok (.iload_n 1, 1) := by decide +kernel
theorem dX0_cannotBothBe_36 : decode cX0_cannotBothBe 36 = .ok (.iaload, 1) := by decide +kernel
theorem dX0_cannotBothBe_37 : decode cX0_cannotBothBe 37 = .ok (.aload_n 0, 1) := by decide +kernel
theorem dX0_cannotBothBe_38 : decode cX0_cannotBothBe 38 = .ok (.getfield 9, 3) := by decide +kernel
theorem dX0_cannotBothBe_41 : decode cX0_cannotBothBe 41 = .ok (.iload_n 2, 1) := by decide +kernel
theorem dX0_cannotBothBe_42 : decode cX0_cannotBothBe 42 = .ok (.iaload, 1) := by decide +kernel
theorem dX0_cannotBothBe_43 : decode cX0_cannotBothBe 43 = .ok (.if_icmp .ne 22, 3) := by decide +kernel
theorem dX0_cannotBothBe_46 : decode cX0_cannotBothBe 46 = .ok (.aload_n 0, 1) := by decide +kernel
theorem dX0_cannotBothBe_47 : decode cX0_cannotBothBe 47 = .ok (.getfield 15, 3) := by decide +kernel
theorem dX0_cannotBothBe_50 : decode cX0_cannotBothBe 50 = .ok (.iload_n 1, 1) := by decide +kernel
theorem dX0_cannotBothBe_51 : decode cX0_cannotBothBe 51 = .ok (.iaload, 1) := by decide +kernel
theorem dX0_cannotBothBe_52 : decode cX0_cannotBothBe 52 = .ok (.aload_n 0, 1) := by decide +kernel
theorem dX0_cannotBothBe_53 : decode cX0_cannotBothBe 53 = .ok (.getfield 15, 3) := by decide +kernel
theorem dX0_cannotBothBe_56 : decode cX0_cannotBothBe 56 = .ok (.iload_n 2, 1) := by decide +kernel
theorem dX0_cannotBothBe_57 : decode cX0_cannotBothBe 57 = .ok (.iaload, 1) := by decide +kernel
theorem dX0_cannotBothBe_58 : decode cX0_cannotBothBe 58 = .ok (.if_icmp .eq 7, 3) := by decide +kernel
theorem dX0_cannotBothBe_61 : decode cX0_cannotBothBe 61 = .ok (.iconst 1, 1) := by decide +kernel
theorem dX0_cannotBothBe_62 : decode cX0_cannotBothBe 62 = .ok (.goto 4, 3) := by decide +kernel
theorem dX0_cannotBothBe_65 : decode cX0_cannotBothBe 65 = .ok (.iconst 0, 1) := by decide +kernel
theorem dX0_cannotBothBe_66 : decode cX0_cannotBothBe 66 = .ok (.ireturn, 1) := by decide +kernel
set_option maxRecDepth 20000 in
theorem ggX0_number_X0_holds : GoodIn wsX0_number wsX0_holds := goodIn_r _ [6, 7, 8, 9, 10, 11, 12] (by decide +kernel) (by decide +kernel)
set_option maxRecDepth 20000 in
theorem gX0_number_X0_holds : GoodIn wsX0_number (wsV RX0 34 RX0 yX0_holds wsX0_holds) := goodIn_app (goodIn_of _ (by decide +kernel)) ggX0_number_X0_holds
theorem dX0_number_0 : decode cX0_number 0 = .ok (.aload_n 0, 1) := by decide +kernel
theorem dX0_number_1 : decode cX0_number 1 = .ok (.iload_n 1, 1) := by decide +kernel
theorem dX0_number_2 : decode cX0_number 2 = .ok (.invokevirtual 34, 3) := by decide +kernel
theorem dX0_number_5 : decode cX0_number 5 = .ok (.ifCond .eq 12, 3) := by decide +kernel
theorem dX0_number_8 : decode cX0_number 8 = .ok (.aload_n 0, 1) := by decide +kernel
theorem dX0_number_9 : decode cX0_number 9 = .ok (.getfield 18, 3) := by decide +kernel
theorem dX0_number_12 : decode cX0_number 12 = .ok (.iload_n 1, 1) := by decide +kernel
theorem dX0_number_13 : decode cX0_number 13 = .ok (.iaload, 1) := by decide +kernel
theorem dX0_number_14 : decode cX0_number 14 = .ok (.goto 4, 3) := by decide +kernel
theorem dX0_number_17 : decode cX0_number 17 = .ok (.iconst 0, 1) := by decide +kernel
theorem dX0_number_18 : decode cX0_number 18 = .ok (.ireturn, 1) := by decide +kernel
set_option maxRecDepth 20000 in
theorem ggX0_greatestNumber_X0_number : GoodIn wsX0_greatestNumber wsX0_number := goodIn_r _ [10, 11, 12, 13, 14, 9, 15, 1, 16, 17, 18, 19, 20] (by decide +kernel) (by decide +kernel)
set_option maxRecDepth 20000 in
theorem gX0_greatestNumber_X0_number : GoodIn wsX0_greatestNumber (wsV RX0 38 RX0 yX0_number wsX0_number) := goodIn_app (goodIn_of _ (by decide +kernel)) ggX0_greatestNumber_X0_number
theorem dX0_greatestNumber_0 : decode cX0_greatestNumber 0 = .ok (.iconst 0, 1) := by decide +kernel
theorem dX0_greatestNumber_1 : decode cX0_greatestNumber 1 = .ok (.istore_n 1, 1) := by decide +kernel
theorem dX0_greatestNumber_2 : decode cX0_greatestNumber 2 = .ok (.iconst 0, 1) := by decide +kernel
theorem dX0_greatestNumber_3 : decode cX0_greatestNumber 3 = .ok (.istore_n 2, 1) := by decide +kernel
theorem dX0_greatestNumber_4 : decode cX0_greatestNumber 4 = .ok (.iload_n 2, 1) := by decide +kernel
theorem dX0_greatestNumber_5 : decode cX0_greatestNumber 5 = .ok (.aload_n 0, 1) := by decide +kernel
theorem dX0_greatestNumber_6 : decode cX0_greatestNumber 6 = .ok (.getfield 30, 3) := by decide +kernel
theorem dX0_greatestNumber_9 : decode cX0_greatestNumber 9 = .ok (.if_icmp .ge 19, 3) := by decide +kernel
theorem dX0_greatestNumber_12 : decode cX0_greatestNumber 12 = .ok (.iload_n 1, 1) := by decide +kernel
theorem dX0_greatestNumber_13 : decode cX0_greatestNumber 13 = .ok (.aload_n 0, 1) := by decide +kernel
theorem dX0_greatestNumber_14 : decode cX0_greatestNumber 14 = .ok (.iload_n 2, 1) := by decide +kernel
theorem dX0_greatestNumber_15 : decode cX0_greatestNumber 15 = .ok (.invokevirtual 38, 3) := by decide +kernel
theorem dX0_greatestNumber_18 : decode cX0_greatestNumber 18 = .ok (.invokestatic 42, 3) := by decide +kernel
theorem dX0_greatestNumber_21 : decode cX0_greatestNumber 21 = .ok (.istore_n 1, 1) := by decide +kernel
theorem dX0_greatestNumber_22 : decode cX0_greatestNumber 22 = .ok (.iinc 2 1, 3) := by decide +kernel
theorem dX0_greatestNumber_25 : decode cX0_greatestNumber 25 = .ok (.goto (-21), 3) := by decide +kernel
theorem dX0_greatestNumber_28 : decode cX0_greatestNumber 28 = .ok (.iload_n 1, 1) := by decide +kernel
theorem dX0_greatestNumber_29 : decode cX0_greatestNumber 29 = .ok (.ireturn, 1) := by decide +kernel
set_option maxRecDepth 20000 in
theorem ggX0_unlikeNumbers_X0_isFirstOfItsNumber : GoodIn wsX0_unlikeNumbers wsX0_isFirstOfItsNumber := goodIn_r _ [6, 7, 8, 9, 5, 10, 11, 12, 13, 14, 15, 1, 16, 17, 18, 19, 20] (by decide +kernel) (by decide +kernel)
set_option maxRecDepth 20000 in
theorem gX0_unlikeNumbers_X0_isFirstOfItsNumber : GoodIn wsX0_unlikeNumbers (wsV RX0 48 RX0 yX0_isFirstOfItsNumber wsX0_isFirstOfItsNumber) := goodIn_app (goodIn_of _ (by decide +kernel)) ggX0_unlikeNumbers_X0_isFirstOfItsNumber
theorem dX0_unlikeNumbers_0 : decode cX0_unlikeNumbers 0 = .ok (.iconst 0, 1) := by decide +kernel
theorem dX0_unlikeNumbers_1 : decode cX0_unlikeNumbers 1 = .ok (.istore_n 1, 1) := by decide +kernel
theorem dX0_unlikeNumbers_2 : decode cX0_unlikeNumbers 2 = .ok (.iconst 0, 1) := by decide +kernel
theorem dX0_unlikeNumbers_3 : decode cX0_unlikeNumbers 3 = .ok (.istore_n 2, 1) := by decide +kernel
theorem dX0_unlikeNumbers_4 : decode cX0_unlikeNumbers 4 = .ok (.iload_n 2, 1) := by decide +kernel
theorem dX0_unlikeNumbers_5 : decode cX0_unlikeNumbers 5 = .ok (.aload_n 0, 1) := by decide +kernel
theorem dX0_unlikeNumbers_6 : decode cX0_unlikeNumbers 6 = .ok (.getfield 30, 3) := by decide +kernel
theorem dX0_unlikeNumbers_9 : decode cX0_unlikeNumbers 9 = .ok (.if_icmp .ge 20, 3) := by decide +kernel
theorem dX0_unlikeNumbers_12 : decode cX0_unlikeNumbers 12 = .ok (.aload_n 0, 1) := by decide +kernel
theorem dX0_unlikeNumbers_13 : decode cX0_unlikeNumbers 13 = .ok (.iload_n 2, 1) := by decide +kernel
theorem dX0_unlikeNumbers_14 : decode cX0_unlikeNumbers 14 = .ok (.invokevirtual 48, 3) := by decide +kernel
theorem dX0_unlikeNumbers_17 : decode cX0_unlikeNumbers 17 = .ok (.ifCond .eq 6, 3) := by decide +kernel
theorem dX0_unlikeNumbers_20 : decode cX0_unlikeNumbers 20 = .ok (.iinc 1 1, 3) := by decide +kernel
theorem dX0_unlikeNumbers_23 : decode cX0_unlikeNumbers 23 = .ok (.iinc 2 1, 3) := by decide +kernel
theorem dX0_unlikeNumbers_26 : decode cX0_unlikeNumbers 26 = .ok (.goto (-22), 3) := by decide +kernel
theorem dX0_unlikeNumbers_29 : decode cX0_unlikeNumbers 29 = .ok (.iload_n 1, 1) := by decide +kernel
theorem dX0_unlikeNumbers_30 : decode cX0_unlikeNumbers 30 = .ok (.ireturn, 1) := by decide +kernel
set_option maxRecDepth 20000 in
theorem ggX0_isFirstOfItsNumber_X0_number : GoodIn wsX0_isFirstOfItsNumber wsX0_number := goodIn_r _ [5, 6, 7, 8, 9, 4, 10, 11, 12, 13, 14, 15, 16] (by decide +kernel) (by decide +kernel)
set_option maxRecDepth 20000 in
theorem gX0_isFirstOfItsNumber_X0_number : GoodIn wsX0_isFirstOfItsNumber (wsV RX0 38 RX0 yX0_number wsX0_number) := goodIn_app (goodIn_of _ (by decide +kernel)) ggX0_isFirstOfItsNumber_X0_number
theorem dX0_isFirstOfItsNumber_0 : decode cX0_isFirstOfItsNumber 0 = .ok (.iconst 0, 1) := by decide +kernel
theorem dX0_isFirstOfItsNumber_1 : decode cX0_isFirstOfItsNumber 1 = .ok (.istore_n 2, 1) := by decide +kernel
theorem dX0_isFirstOfItsNumber_2 : decode cX0_isFirstOfItsNumber 2 = .ok (.iload_n 2, 1) := by decide +kernel
theorem dX0_isFirstOfItsNumber_3 : decode cX0_isFirstOfItsNumber 3 = .ok (.iload_n 1, 1) := by decide +kernel
theorem dX0_isFirstOfItsNumber_4 : decode cX0_isFirstOfItsNumber 4 = .ok (.if_icmp .ge 24, 3) := by decide +kernel
theorem dX0_isFirstOfItsNumber_7 : decode cX0_isFirstOfItsNumber 7 = .ok (.aload_n 0, 1) := by decide +kernel
theorem dX0_isFirstOfItsNumber_8 : decode cX0_isFirstOfItsNumber 8 = .ok (.iload_n 2, 1) := by decide +kernel
theorem dX0_isFirstOfItsNumber_9 : decode cX0_isFirstOfItsNumber 9 = .ok (.invokevirtual 38, 3) := by decide +kernel
theorem dX0_isFirstOfItsNumber_12 : decode cX0_isFirstOfItsNumber 12 = .ok (.aload_n 0, 1) := by decide +kernel
theorem dX0_isFirstOfItsNumber_13 : decode cX0_isFirstOfItsNumber 13 = .ok (.iload_n 1, 1) := by decide +kernel
theorem dX0_isFirstOfItsNumber_14 : decode cX0_isFirstOfItsNumber 14 = .ok (.invokevirtual 38, 3) := by decide +kernel
theorem dX0_isFirstOfItsNumber_17 : decode cX0_isFirstOfItsNumber 17 = .ok (.if_icmp .ne 5, 3) := by decide +kernel
theorem dX0_isFirstOfItsNumber_20 : decode cX0_isFirstOfItsNumber 20 = .ok (.iconst 0, 1) := by decide +kernel
theorem dX0_isFirstOfItsNumber_21 : decode cX0_isFirstOfItsNumber 21 = .ok (.ireturn, 1) := by decide +kernel
theorem dX0_isFirstOfItsNumber_22 : decode cX0_isFirstOfItsNumber 22 = .ok (.iinc 2 1, 3) := by decide +kernel
theorem dX0_isFirstOfItsNumber_25 : decode cX0_isFirstOfItsNumber 25 = .ok (.goto (-23), 3) := by decide +kernel
theorem dX0_isFirstOfItsNumber_28 : decode cX0_isFirstOfItsNumber 28 = .ok (.iconst 1, 1) := by decide +kernel
theorem dX0_isFirstOfItsNumber_29 : decode cX0_isFirstOfItsNumber 29 = .ok (.ireturn, 1) := by decide +kernel
theorem dX1_init_0 : decode cX1_init 0 = .ok (.aload_n 0, 1) := by decide +kernel
theorem dX1_init_1 : decode cX1_init 1 = .ok (.invokespecial 3, 3) := by decide +kernel
theorem dX1_init_4 : decode cX1_init 4 = .ok (.aload_n 0, 1) := by decide +kernel
theorem dX1_init_5 : decode cX1_init 5 = .ok (.bipush 7, 2) := by decide +kernel
theorem dX1_init_7 : decode cX1_init 7 = .ok (.newarray .int, 2) := by decide +kernel
theorem dX1_init_9 : decode cX1_init 9 = .ok (.putfield 9, 3) := by decide +kernel
theorem dX1_init_12 : decode cX1_init 12 = .ok (.aload_n 0, 1) := by decide +kernel
theorem dX1_init_13 : decode cX1_init 13 = .ok (.bipush 7, 2) := by decide +kernel
theorem dX1_init_15 : decode cX1_init 15 = .ok (.newarray .int, 2) := by decide +kernel
theorem dX1_init_17 : decode cX1_init 17 = .ok (.putfield 15, 3) := by decide +kernel
theorem dX1_init_20 : decode cX1_init 20 = .ok (.aload_n 0, 1) := by decide +kernel
theorem dX1_init_21 : decode cX1_init 21 = .ok (.bipush 7, 2) := by decide +kernel
theorem dX1_init_23 : decode cX1_init 23 = .ok (.newarray .int, 2) := by decide +kernel
theorem dX1_init_25 : decode cX1_init 25 = .ok (.putfield 18, 3) := by decide +kernel
theorem dX1_init_28 : decode cX1_init 28 = .ok (.aload_n 0, 1) := by decide +kernel
theorem dX1_init_29 : decode cX1_init 29 = .ok (.bipush 7, 2) := by decide +kernel
theorem dX1_init_31 : decode cX1_init 31 = .ok (.newarray .int, 2) := by decide +kernel
theorem dX1_init_33 : decode cX1_init 33 = .ok (.putfield 21, 3) := by decide +kernel
theorem dX1_init_36 : decode cX1_init 36 = .ok (.aload_n 0, 1) := by decide +kernel
theorem dX1_init_37 : decode cX1_init 37 = .ok (.bipush 49, 2) := by decide +kernel
theorem dX1_init_39 : decode cX1_init 39 = .ok (.newarray .int, 2) := by decide +kernel
theorem dX1_init_41 : decode cX1_init 41 = .ok (.putfield 24, 3) := by decide +kernel
theorem dX1_init_44 : decode cX1_init 44 = .ok (.return_, 1) := by decide +kernel
theorem dX1_copyFrom_0 : decode cX1_copyFrom 0 = .ok (.aload_n 1, 1) := by decide +kernel
theorem dX1_copyFrom_1 : decode cX1_copyFrom 1 = .ok (.getfield 9, 3) := by decide +kernel
theorem dX1_copyFrom_4 : decode cX1_copyFrom 4 = .ok (.iconst 0, 1) := by decide +kernel
theorem dX1_copyFrom_5 : decode cX1_copyFrom 5 = .ok (.aload_n 0, 1) := by decide +kernel
theorem dX1_copyFrom_6 : decode cX1_copyFrom 6 = .ok (.getfield 9, 3) := by decide +kernel
theorem dX1_copyFrom_9 : decode cX1_copyFrom 9 = .ok (.iconst 0, 1) := by decide +kernel
theorem dX1_copyFrom_10 : decode cX1_copyFrom 10 = .ok (.bipush 7, 2) := by decide +kernel
theorem dX1_copyFrom_12 : decode cX1_copyFrom 12 = .ok (.invokestatic 27, 3) := by decide +kernel
theorem dX1_copyFrom_15 : decode cX1_copyFrom 15 = .ok (.aload_n 1, 1) := by decide +kernel
theorem dX1_copyFrom_16 : decode cX1_copyFrom 16 = .ok (.getfield 15, 3) := by decide +kernel
theorem dX1_copyFrom_19 : decode cX1_copyFrom 19 = .ok (.iconst 0, 1) := by decide +kernel
theorem dX1_copyFrom_20 : decode cX1_copyFrom 20 = .ok (.aload_n 0, 1) := by decide +kernel
theorem dX1_copyFrom_21 : decode cX1_copyFrom 21 = .ok (.getfield 15, 3) := by decide +kernel
theorem dX1_copyFrom_24 : decode cX1_copyFrom 24 = .ok (.iconst 0, 1) := by decide +kernel
theorem dX1_copyFrom_25 : decode cX1_copyFrom 25 = .ok (.bipush 7, 2) := by decide +kernel
theorem dX1_copyFrom_27 : decode cX1_copyFrom 27 = .ok (.invokestatic 27, 3) := by decide +kernel
theorem dX1_copyFrom_30 : decode cX1_copyFrom 30 = .ok (.aload_n 1, 1) := by decide +kernel
theorem dX1_copyFrom_31 : decode cX1_copyFrom 31 = .ok (.getfield 18, 3) := by decide +kernel
theorem dX1_copyFrom_34 : decode cX1_copyFrom 34 = .ok (.iconst 0, 1) := by decide +kernel
theorem dX1_copyFrom_35 : decode cX1_copyFrom 35 = .ok (.aload_n 0, 1) := by decide +kernel
theorem dX1_copyFrom_36 : decode cX1_copyFrom 36 = .ok (.getfield 18, 3) := by decide +kernel
theorem dX1_copyFrom_39 : decode cX1_copyFrom 39 = .ok (.iconst 0, 1) := by decide +kernel
theorem dX1_copyFrom_40 : decode cX1_copyFrom 40 = .ok (.bipush 7, 2) := by decide +kernel
theorem dX1_copyFrom_42 : decode cX1_copyFrom 42 = .ok (.invokestatic 27, 3) := by decide +kernel
theorem dX1_copyFrom_45 : decode cX1_copyFrom 45 = .ok (.aload_n 1, 1) := by decide +kernel
theorem dX1_copyFrom_46 : decode cX1_copyFrom 46 = .ok (.getfield 21, 3) := by decide +kernel
theorem dX1_copyFrom_49 : decode cX1_copyFrom 49 = .ok (.iconst 0, 1) := by decide +kernel
theorem dX1_copyFrom_50 : decode cX1_copyFrom 50 = .ok (.aload_n 0, 1) := by decide +kernel
theorem dX1_copyFrom_51 : decode cX1_copyFrom 51 = .ok (.getfield 21, 3) := by decide +kernel
theorem dX1_copyFrom_54 : decode cX1_copyFrom 54 = .ok (.iconst 0, 1) := by decide +kernel
theorem dX1_copyFrom_55 : decode cX1_copyFrom 55 = .ok (.bipush 7, 2) := by decide +kernel
theorem dX1_copyFrom_57 : decode cX1_copyFrom 57 = .ok (.invokestatic 27, 3) := by decide +kernel
theorem dX1_copyFrom_60 : decode cX1_copyFrom 60 = .ok (.aload_n 1, 1) := by decide +kernel
theorem dX1_copyFrom_61 : decode cX1_copyFrom 61 = .ok (.getfield 24, 3) := by decide +kernel
theorem dX1_copyFrom_64 : decode cX1_copyFrom 64 = .ok (.iconst 0, 1) := by decide +kernel
theorem dX1_copyFrom_65 : decode cX1_copyFrom 65 = .ok (.aload_n 0, 1) := by decide +kernel
theorem dX1_copyFrom_66 : decode cX1_copyFrom 66 = .ok (.getfield 24, 3) := by decide +kernel
theorem dX1_copyFrom_69 : decode cX1_copyFrom 69 = .ok (.iconst 0, 1) := by decide +kernel
theorem dX1_copyFrom_70 : decode cX1_copyFrom 70 = .ok (.bipush 49, 2) := by decide +kernel
theorem dX1_copyFrom_72 : decode cX1_copyFrom 72 = .ok (.invokestatic 27, 3) := by decide +kernel
theorem dX1_copyFrom_75 : decode cX1_copyFrom 75 = .ok (.aload_n 0, 1) := by decide +kernel
theorem dX1_copyFrom_76 : decode cX1_copyFrom 76 = .ok (.aload_n 1, 1) := by decide +kernel
theorem dX1_copyFrom_77 : decode cX1_copyFrom 77 = .ok (.getfield 33, 3) := by decide +kernel
theorem dX1_copyFrom_80 : decode cX1_copyFrom 80 = .ok (.putfield 33, 3) := by decide +kernel
theorem dX1_copyFrom_83 : decode cX1_copyFrom 83 = .ok (.aload_n 0, 1) := by decide +kernel
theorem dX1_copyFrom_84 : decode cX1_copyFrom 84 = .ok (.aload_n 1, 1) := by decide +kernel
theorem dX1_copyFrom_85 : decode cX1_copyFrom 85 = .ok (.getfield 37, 3) := by decide +kernel
theorem dX1_copyFrom_88 : decode cX1_copyFrom 88 = .ok (.putfield 37, 3) := by decide +kernel
theorem dX1_copyFrom_91 : decode cX1_copyFrom 91 = .ok (.aload_n 0, 1) := by decide +kernel
theorem dX1_copyFrom_92 : decode cX1_copyFrom 92 = .ok (.aload_n 1, 1) := by decide +kernel
theorem dX1_copyFrom_93 : decode cX1_copyFrom 93 = .ok (.getfield 40, 3) := by decide +kernel
theorem dX1_copyFrom_96 : decode cX1_copyFrom 96 = .ok (.putfield 40, 3) := by decide +kernel
theorem dX1_copyFrom_99 : decode cX1_copyFrom 99 = .ok (.aload_n 0, 1) := by decide +kernel
theorem dX1_copyFrom_100 : decode cX1_copyFrom 100 = .ok (.aload_n 1, 1) := by decide +kernel
theorem dX1_copyFrom_101 : decode cX1_copyFrom 101 = .ok (.getfield 43, 3) := by decide +kernel
theorem dX1_copyFrom_104 : decode cX1_copyFrom 104 = .ok (.putfield 43, 3) := by decide +kernel
theorem dX1_copyFrom_107 : decode cX1_copyFrom 107 = .ok (.return_, 1) := by decide +kernel
theorem dX1_knows_0 : decode cX1_knows 0 = .ok (.iload_n 1, 1) := by decide +kernel
theorem dX1_knows_1 : decode cX1_knows 1 = .ok (.ifCond .lt 21, 3) := by decide +kernel
theorem dX1_knows_4 : decode cX1_knows 4 = .ok (.iload_n 1, 1) := by decide +kernel
theorem dX1_knows_5 : decode cX1_knows 5 = .ok (.aload_n 0, 1) := by decide +kernel
theorem dX1_knows_6 : decode cX1_knows 6 = .ok (.getfield 33, 3) := by decide +kernel
theorem dX1_knows_9 : decode cX1_knows 9 = .ok (.if_icmp .ge 13, 3) := by decide +kernel
theorem dX1_knows_12 : decode cX1_knows 12 = .ok (.iload_n 1, 1) := by decide +kernel
theorem dX1_knows_13 : decode cX1_knows 13 = .ok (.bipush 7, 2) := by decide +kernel
theorem dX1_knows_15 : decode cX1_knows 15 = .ok (.if_icmp .ge 7, 3) := by decide +kernel
theorem dX1_knows_18 : decode cX1_knows 18 = .ok (.iconst 1, 1) := by decide +kernel
theorem dX1_knows_19 : decode cX1_knows 19 = .ok (.goto 4, 3) := by decide +kernel
theorem dX1_knows_22 : decode cX1_knows 22 = .ok (.iconst 0, 1) := by decide +kernel
theorem dX1_knows_23 : decode cX1_knows 23 = .ok (.ireturn, 1) := by decide +kernel
set_option maxRecDepth 20000 in
theorem ggX1_number_X1_knows : GoodIn wsX1_number wsX1_knows := goodIn_r _ [6, 7, 8, 9, 10, 11, 12, 13, 14, 15, 16] (by decide +kernel) (by decide +kernel)
set_option maxRecDepth 20000 in
theorem gX1_number_X1_knows : GoodIn wsX1_number (wsV RX1 46 RX1 yX1_knows wsX1_knows) := goodIn_app (goodIn_of _ (by decide +kernel)) ggX1_number_X1_knows
theorem dX1_number_0 : decode cX1_number 0 = .ok (.aload_n 0, 1) := by decide +kernel
theorem dX1_number_1 : decode cX1_number 1 = .ok (.iload_n 1, 1) := by decide +kernel
theorem dX1_number_2 : decode cX1_number 2 = .ok (.invokevirtual 46, 3) := by decide +kernel
theorem dX1_number_5 : decode cX1_number 5 = .ok (.ifCond .eq 12, 3) := by decide +kernel
theorem dX1_number_8 : decode cX1_number 8 = .ok (.aload_n 0, 1) := by decide +kernel
theorem dX1_number_9 : decode cX1_number 9 = .ok (.getfield 9, 3) := by decide +kernel
theorem dX1_number_12 : decode cX1_number 12 = .ok (.iload_n 1, 1) := by decide +kernel
theorem dX1_number_13 : decode cX1_number 13 = .ok (.iaload, 1) := by decide +kernel
theorem dX1_number_14 : decode cX1_number 14 = .ok (.goto 5, 3) := by decide +kernel
theorem dX1_number_17 : decode cX1_number 17 = .ok (.bipush (-9), 2) := by decide +kernel
theorem dX1_number_19 : decode cX1_number 19 = .ok (.ireturn, 1) := by decide +kernel
set_option maxRecDepth 20000 in
theorem ggX1_numbered_X1_number : GoodIn wsX1_numbered wsX1_number := goodIn_r _ [6, 7, 8, 9, 10, 5, 11, 1, 12, 13, 14, 15, 16, 17, 18, 19, 20] (by decide +kernel) (by decide +kernel)
set_option maxRecDepth 20000 in
theorem gX1_numbered_X1_number : GoodIn wsX1_numbered (wsV RX1 50 RX1 yX1_number wsX1_number) := goodIn_app (goodIn_of _ (by decide +kernel)) ggX1_numbered_X1_number
theorem dX1_numbered_0 : decode cX1_numbered 0 = .ok (.iconst 0, 1) := by decide +kernel
theorem dX1_numbered_1 : decode cX1_numbered 1 = .ok (.istore_n 2, 1) := by decide +kernel
theorem dX1_numbered_2 : decode cX1_numbered 2 = .ok (.iload_n 2, 1) := by decide +kernel
theorem dX1_numbered_3 : decode cX1_numbered 3 = .ok (.aload_n 0, 1) := by decide +kernel
theorem dX1_numbered_4 : decode cX1_numbered 4 = .ok (.getfield 33, 3) := by decide +kernel
theorem dX1_numbered_7 : decode cX1_numbered 7 = .ok (.if_icmp .ge 20, 3) := by decide +kernel
theorem dX1_numbered_10 : decode cX1_numbered 10 = .ok (.aload_n 0, 1) := by decide +kernel
theorem dX1_numbered_11 : decode cX1_numbered 11 = .ok (.iload_n 2, 1) := by decide +kernel
theorem dX1_numbered_12 : decode cX1_numbered 12 = .ok (.invokevirtual 50, 3) := by decide +kernel
theorem dX1_numbered_15 : decode cX1_numbered 15 = .ok (.iload_n 1, 1) := by decide +kernel
theorem dX1_numbered_16 : decode cX1_numbered 16 = .ok (.if_icmp .ne 5, 3) := by decide +kernel
theorem dX1_numbered_19 : decode cX1_numbered 19 = .ok (.iload_n 2, 1) := by decide +kernel
theorem dX1_numbered_20 : decode cX1_numbered 20 = .ok (.ireturn, 1) := by decide +kernel
theorem dX1_numbered_21 : decode cX1_numbered 21 = .ok (.iinc 2 1, 3) := by decide +kernel
theorem dX1_numbered_24 : decode cX1_numbered 24 = .ok (.goto (-22), 3) := by decide +kernel
theorem dX1_numbered_27 : decode cX1_numbered 27 = .ok (.bipush (-9), 2) := by decide +kernel
theorem dX1_numbered_29 : decode cX1_numbered 29 = .ok (.ireturn, 1) := by decide +kernel
set_option maxRecDepth 20000 in
theorem ggX1_takes_X2_number : GoodIn wsX1_takes wsX2_number := goodIn_r _ [6, 7, 8, 9, 4, 10, 11, 12, 13, 14, 15, 16, 153, 154] (by decide +kernel) (by decide +kernel)
set_option maxRecDepth 20000 in
theorem gX1_takes_X2_number_n54 : GoodIn wsX1_takes (wsX2_number) := ggX1_takes_X2_number
set_option maxRecDepth 20000 in
theorem ggX1_takes_X1_numbered : GoodIn wsX1_takes wsX1_numbered := goodIn_r _ [21, 22, 23, 24, 25, 20, 26, 27, 28, 29, 30, 31, 144, 145, 146, 147, 148, 149, 150, 151, 152] (by decide +kernel) (by decide +kernel)
set_option maxRecDepth 20000 in
theorem gX1_takes_X1_numbered : GoodIn wsX1_takes (wsV RX1 57 RX1 yX1_numbered wsX1_numbered) := goodIn_app (goodIn_of _ (by decide +kernel)) ggX1_takes_X1_numbered
set_option maxRecDepth 20000 in
theorem ggX1_takes_X2_sign : GoodIn wsX1_takes wsX2_sign := goodIn_r _ [14, 15, 16, 153, 154] (by decide +kernel) (by decide +kernel)
set_option maxRecDepth 20000 in
theorem gX1_takes_X2_sign_n60 : GoodIn wsX1_takes (wsX2_sign) := ggX1_takes_X2_sign
set_option maxRecDepth 20000 in
theorem ggX1_takes_X1_takesEngine : GoodIn wsX1_takes wsX1_takesEngine := goodIn_r _ [35, 22, 36, 27, 37, 38, 39, 40, 3, 4, 5, 6, 7, 8, 9, 10, 11, 12, 13, 14, 15, 16, 41, 42, 43, 44, 45, 46, 47, 48, 49, 50, 51, 52, 53, 54, 55, 56, 57, 58, 59, 60, 61, 62, 63, 64, 65, 66, 67, 68, 69, 70, 71, 72, 73, 74, 75, 76, 77, 78, 79, 80, 81, 82, 83, 84, 85, 86, 87, 88, 89, 90, 91, 92, 93, 94, 95, 96, 97, 98, 99, 100, 101, 102, 103, 104, 105, 106, 107, 108, 109, 110, 111, 112, 113, 114, 115, 116, 117, 118, 119, 120, 121, 122, 123, 124, 125, 126, 127, 128, 129, 130, 131, 132, 133, 134, 135, 144, 145, 146, 147, 148, 149, 150, 151, 152, 153, 154] (by decide +kernel) (by decide +kernel)
set_option maxRecDepth 20000 in
theorem gX1_takes_X1_takesEngine : GoodIn wsX1_takes (wsV RX1 63 RX1 yX1_takesEngine wsX1_takesEngine) := goodIn_app (goodIn_of _ (by decide +kernel)) ggX1_takes_X1_takesEngine
set_option maxRecDepth 20000 in
theorem ggX1_takes_X1_joins : GoodIn wsX1_takes wsX1_joins := goodIn_r _ [139, 39, 28, 29, 30, 20, 31, 22, 144, 145, 146, 147, 148, 149, 150, 151, 152] (by decide +kernel) (by decide +kernel)
set_option maxRecDepth 20000 in
theorem gX1_takes_X1_joins : GoodIn wsX1_takes (wsV RX1 67 RX1 yX1_joins wsX1_joins) := goodIn_app (goodIn_of _ (by decide +kernel)) ggX1_takes_X1_joins
set_option maxRecDepth 20000 in
theorem ggX1_takes_X1_bit : GoodIn wsX1_takes wsX1_bit := goodIn_r _ [143, 28, 29, 30, 20, 31, 22, 144, 145, 146, 147, 148, 149, 150, 151, 152] (by decide +kernel) (by decide +kernel)
set_option maxRecDepth 20000 in
theorem gX1_takes_X1_bit : GoodIn wsX1_takes (wsV RX1 71 RX1 yX1_bit wsX1_bit) := goodIn_app (goodIn_of _ (by decide +kernel)) ggX1_takes_X1_bit
theorem dX1_takes_0 : decode cX1_takes 0 = .ok (.aload_n 0, 1) := by decide +kernel
theorem dX1_takes_1 : decode cX1_takes 1 = .ok (.aload_n 1, 1) := by decide +kernel
theorem dX1_takes_2 : decode cX1_takes 2 = .ok (.iload_n 2, 1) := by decide +kernel
theorem dX1_takes_3 : decode cX1_takes 3 = .ok (.iconst 1, 1) := by decide +kernel
theorem dX1_takes_4 : decode cX1_takes 4 = .ok (.iadd, 1) := by decide +kernel
theorem dX1_takes_5 : decode cX1_takes 5 = .ok (.invokevirtual 54, 3) := by decide +kernel
theorem dX1_takes_8 : decode cX1_takes 8 = .ok (.invokevirtual 57, 3) := by decide +kernel
theorem dX1_takes_11 : decode cX1_takes 11 = .ok (.istore_n 3, 1) := by decide +kernel
theorem dX1_takes_12 : decode cX1_takes 12 = .ok (.aload_n 1, 1) := by decide +kernel
theorem dX1_takes_13 : decode cX1_takes 13 = .ok (.iload_n 2, 1) := by decide +kernel
theorem dX1_takes_14 : decode cX1_takes 14 = .ok (.invokevirtual 60, 3) := by decide +kernel
theorem dX1_takes_17 : decode cX1_takes 17 = .ok (.lookupswitch 133 #[(101, 43), (102, 107), (106, 64), (117, 81)], 43) := by decide +kernel
theorem dX1_takes_60 : decode cX1_takes 60 = .ok (.iload_n 3, 1) := by decide +kernel
theorem dX1_takes_61 : decode cX1_takes 61 = .ok (.bipush (-9), 2) := by decide +kernel
theorem dX1_takes_63 : decode cX1_takes 63 = .ok (.if_icmp .ne 16, 3) := by decide +kernel
theorem dX1_takes_66 : decode cX1_takes 66 = .ok (.aload_n 0, 1) := by decide +kernel
theorem dX1_takes_67 : decode cX1_takes 67 = .ok (.aload_n 1, 1) := by decide +kernel
theorem dX1_takes_68 : decode cX1_takes 68 = .ok (.iload_n 2, 1) := by decide +kernel
theorem dX1_takes_69 : decode cX1_takes 69 = .ok (.invokevirtual 63, 3) := by decide +kernel
theorem dX1_takes_72 : decode cX1_takes 72 = .ok (.ifCond .eq 7, 3) := by decide +kernel
theorem dX1_takes_75 : decode cX1_takes 75 = .ok (.iconst 1, 1) := by decide +kernel
theorem dX1_takes_76 : decode cX1_takes 76 = .ok (.goto 4, 3) := by decide +kernel
theorem dX1_takes_79 : decode cX1_takes 79 = .ok (.iconst 0, 1) := by decide +kernel
theorem dX1_takes_80 : decode cX1_takes 80 = .ok (.ireturn, 1) := by decide +kernel
theorem dX1_takes_81 : decode cX1_takes 81 = .ok (.aload_n 0, 1) := by decide +kernel
theorem dX1_takes_82 : decode cX1_takes 82 = .ok (.iload_n 3, 1) := by decide +kernel
theorem dX1_takes_83 : decode cX1_takes 83 = .ok (.aload_n 0, 1) := by decide +kernel
theorem dX1_takes_84 : decode cX1_takes 84 = .ok (.aload_n 1, 1) := by decide +kernel
theorem dX1_takes_85 : decode cX1_takes 85 = .ok (.iload_n 2, 1) := by decide +kernel
theorem dX1_takes_86 : decode cX1_takes 86 = .ok (.iconst 3, 1) := by decide +kernel
theorem dX1_takes_87 : decode cX1_takes 87 = .ok (.iadd, 1) := by decide +kernel
theorem dX1_takes_88 : decode cX1_takes 88 = .ok (.invokevirtual 54, 3) := by decide +kernel
theorem dX1_takes_91 : decode cX1_takes 91 = .ok (.invokevirtual 57, 3) := by decide +kernel
theorem dX1_takes_94 : decode cX1_takes 94 = .ok (.invokevirtual 67, 3) := by decide +kernel
theorem dX1_takes_97 : decode cX1_takes 97 = .ok (.ireturn, 1) := by decide +kernel
theorem dX1_takes_98 : decode cX1_takes 98 = .ok (.aload_n 0, 1) := by decide +kernel
theorem dX1_takes_99 : decode cX1_takes 99 = .ok (.dup, 1) := by decide +kernel
theorem dX1_takes_100 : decode cX1_takes 100 = .ok (.getfield 40, 3) := by decide +kernel
theorem dX1_takes_103 : decode cX1_takes 103 = .ok (.aload_n 0, 1) := by decide +kernel
theorem dX1_takes_104 : decode cX1_takes 104 = .ok (.iload_n 3, 1) := by decide +kernel
theorem dX1_takes_105 : decode cX1_takes 105 = .ok (.invokevirtual 71, 3) := by decide +kernel
theorem dX1_takes_108 : decode cX1_takes 108 = .ok (.ior, 1) := by decide +kernel
theorem dX1_takes_109 : decode cX1_takes 109 = .ok (.putfield 40, 3) := by decide +kernel
theorem dX1_takes_112 : decode cX1_takes 112 = .ok (.iload_n 3, 1) := by decide +kernel
theorem dX1_takes_113 : decode cX1_takes 113 = .ok (.bipush (-9), 2) := by decide +kernel
theorem dX1_takes_115 : decode cX1_takes 115 = .ok (.if_icmp .eq 7, 3) := by decide +kernel
theorem dX1_takes_118 : decode cX1_takes 118 = .ok (.iconst 1, 1) := by decide +kernel
theorem dX1_takes_119 : decode cX1_takes 119 = .ok (.goto 4, 3) := by decide +kernel
theorem dX1_takes_122 : decode cX1_takes 122 = .ok (.iconst 0, 1) := by decide +kernel
theorem dX1_takes_123 : decode cX1_takes 123 = .ok (.ireturn, 1) := by decide +kernel
theorem dX1_takes_124 : decode cX1_takes 124 = .ok (.aload_n 0, 1) := by decide +kernel
theorem dX1_takes_125 : decode cX1_takes 125 = .ok (.dup, 1) := by decide +kernel
theorem dX1_takes_126 : decode cX1_takes 126 = .ok (.getfield 43, 3) := by decide +kernel
theorem dX1_takes_129 : decode cX1_takes 129 = .ok (.aload_n 0, 1) := by decide +kernel
theorem dX1_takes_130 : decode cX1_takes 130 = .ok (.iload_n 3, 1) := by decide +kernel
theorem dX1_takes_131 : decode cX1_takes 131 = .ok (.invokevirtual 71, 3) := by decide +kernel
theorem dX1_takes_134 : decode cX1_takes 134 = .ok (.ior, 1) := by decide +kernel
theorem dX1_takes_135 : decode cX1_takes 135 = .ok (.putfield 43, 3) := by decide +kernel
theorem dX1_takes_138 : decode cX1_takes 138 = .ok (.iload_n 3, 1) := by decide +kernel
theorem dX1_takes_139 : decode cX1_takes 139 = .ok (.bipush (-9), 2) := by decide +kernel
theorem dX1_takes_141 : decode cX1_takes 141 = .ok (.if_icmp .eq 7, 3) := by decide +kernel
theorem dX1_takes_144 : decode cX1_takes 144 = .ok (.iconst 1, 1) := by decide +kernel
theorem dX1_takes_145 : decode cX1_takes 145 = .ok (.goto 4, 3) := by decide +kernel
theorem dX1_takes_148 : decode cX1_takes 148 = .ok (.iconst 0, 1) := by decide +kernel
theorem dX1_takes_149 : decode cX1_takes 149 = .ok (.ireturn, 1) := by decide +kernel
theorem dX1_takes_150 : decode cX1_takes 150 = .ok (.iconst 0, 1) := by decide +kernel
theorem dX1_takes_151 : decode cX1_takes 151 = .ok (.ireturn, 1) := by decide +kernel
set_option maxRecDepth 20000 in
theorem ggX1_takesEngine_X2_number : GoodIn wsX1_takesEngine wsX2_number := goodIn_r _ [11, 12, 13, 14, 9, 15, 16, 17, 18, 19, 20, 21, 126, 127] (by decide +kernel) (by decide +kernel)
set_option maxRecDepth 20000 in
theorem gX1_takesEngine_X2_number_n54 : GoodIn wsX1_takesEngine (wsX2_number) := ggX1_takesEngine_X2_number
set_option maxRecDepth 20000 in
theorem ggX1_takesEngine_X2_digit : GoodIn wsX1_takesEngine wsX2_digit := goodIn_r _ [15, 16, 17, 18, 9, 19, 20, 21, 126, 127] (by decide +kernel) (by decide +kernel)
set_option maxRecDepth 20000 in
theorem gX1_takesEngine_X2_digit_n74 : GoodIn wsX1_takesEngine (wsX2_digit) := ggX1_takesEngine_X2_digit
set_option maxRecDepth 20000 in
theorem ggX1_takesEngine_X5_isPlace : GoodIn wsX1_takesEngine wsX5_isPlace := goodIn_r _ [24] (by decide +kernel) (by decide +kernel)
set_option maxRecDepth 20000 in
theorem gX1_takesEngine_X5_isPlace_n77 : GoodIn wsX1_takesEngine (wsX5_isPlace) := ggX1_takesEngine_X5_isPlace
set_option maxRecDepth 20000 in
theorem ggX1_takesEngine_X2_kind : GoodIn wsX1_takesEngine wsX2_kind := goodIn_r _ [27, 16, 17, 18, 9, 19, 20, 21, 28, 29, 30, 31, 32, 33, 34, 35, 36, 37, 38, 39, 40, 41, 42, 43, 44, 45, 46, 47, 48, 49, 50, 51, 52, 53, 54, 55, 56, 57, 58, 59, 60, 61, 62, 63, 64, 65, 66, 67, 68, 69, 70, 71, 72, 73, 74, 75, 76, 77, 78, 79, 80, 81, 82, 83, 84, 85, 86, 87, 88, 89, 90, 91, 92, 93, 94, 95, 96, 97, 98, 99, 100, 101, 102, 103, 104, 105, 106, 107, 108, 109, 110, 111, 112, 113, 114, 115, 116, 126, 127] (by decide +kernel) (by decide +kernel)
set_option maxRecDepth 20000 in
theorem gX1_takesEngine_X2_kind_n80 : GoodIn wsX1_takesEngine (wsX2_kind) := ggX1_takesEngine_X2_kind
theorem dX1_takesEngine_0 : decode cX1_takesEngine 0 = .ok (.aload_n 1, 1) := by decide +kernel
theorem dX1_takesEngine_1 : decode cX1_takesEngine 1 = .ok (.iload_n 2, 1) := by decide +kernel
theorem dX1_takesEngine_2 : decode cX1_takesEngine 2 = .ok (.iconst 1, 1) := by decide +kernel
theorem dX1_takesEngine_3 : decode cX1_takesEngine 3 = .ok (.iadd, 1) := by decide +kernel
theorem dX1_takesEngine_4 : decode cX1_takesEngine 4 = .ok (.invokevirtual 54, 3) := by decide +kernel
theorem dX1_takesEngine_7 : decode cX1_takesEngine 7 = .ok (.istore_n 3, 1) := by decide +kernel
theorem dX1_takesEngine_8 : decode cX1_takesEngine 8 = .ok (.aload_n 0, 1) := by decide +kernel
theorem dX1_takesEngine_9 : decode cX1_takesEngine 9 = .ok (.getfield 33, 3) := by decide +kernel
theorem dX1_takesEngine_12 : decode cX1_takesEngine 12 = .ok (.bipush 7, 2) := by decide +kernel
theorem dX1_takesEngine_14 : decode cX1_takesEngine 14 = .ok (.if_icmp .ge 15, 3) := by decide +kernel
theorem dX1_takesEngine_17 : decode cX1_takesEngine 17 = .ok (.iload_n 3, 1) := by decide +kernel
theorem dX1_takesEngine_18 : decode cX1_takesEngine 18 = .ok (.bipush 10, 2) := by decide +kernel
theorem dX1_takesEngine_20 : decode cX1_takesEngine 20 = .ok (.if_icmp .lt 9, 3) := by decide +kernel
theorem dX1_takesEngine_23 : decode cX1_takesEngine 23 = .ok (.iload_n 3, 1) := by decide +kernel
theorem dX1_takesEngine_24 : decode cX1_takesEngine 24 = .ok (.bipush 99, 2) := by decide +kernel
theorem dX1_takesEngine_26 : decode cX1_takesEngine 26 = .ok (.if_icmp .le 5, 3) := by decide +kernel
theorem dX1_takesEngine_29 : decode cX1_takesEngine 29 = .ok (.iconst 0, 1) := by decide +kernel
theorem dX1_takesEngine_30 : decode cX1_takesEngine 30 = .ok (.ireturn, 1) := by decide +kernel
theorem dX1_takesEngine_31 : decode cX1_takesEngine 31 = .ok (.iconst 0, 1) := by decide +kernel
theorem dX1_takesEngine_32 : decode cX1_takesEngine 32 = .ok (.istore 4, 2) := by decide +kernel
theorem dX1_takesEngine_34 : decode cX1_takesEngine 34 = .ok (.iload 4, 2) := by decide +kernel
theorem dX1_takesEngine_36 : decode cX1_takesEngine 36 = .ok (.bipush 7, 2) := by decide +kernel
theorem dX1_takesEngine_38 : decode cX1_takesEngine 38 = .ok (.if_icmp .ge 55, 3) := by decide +kernel
theorem dX1_takesEngine_41 : decode cX1_takesEngine 41 = .ok (.aload_n 1, 1) := by decide +kernel
theorem dX1_takesEngine_42 : decode cX1_takesEngine 42 = .ok (.iload_n 2, 1) := by decide +kernel
theorem dX1_takesEngine_43 : decode cX1_takesEngine 43 = .ok (.iconst 5, 1) := by decide +kernel
theorem dX1_takesEngine_44 : decode cX1_takesEngine 44 = .ok (.iadd, 1) := by decide +kernel
theorem dX1_takesEngine_45 : decode cX1_takesEngine 45 = .ok (.iload 4, 2) := by decide +kernel
theorem dX1_takesEngine_47 : decode cX1_takesEngine 47 = .ok (.iadd, 1) := by decide +kernel
theorem dX1_takesEngine_48 : decode cX1_takesEngine 48 = .ok (.invokevirtual 74, 3) := by decide +kernel
theorem dX1_takesEngine_51 : decode cX1_takesEngine 51 = .ok (.istore 5, 2) := by decide +kernel
theorem dX1_takesEngine_53 : decode cX1_takesEngine 53 = .ok (.iload 5, 2) := by decide +kernel
theorem dX1_takesEngine_55 : decode cX1_takesEngine 55 = .ok (.invokestatic 77, 3) := by decide +kernel
theorem dX1_takesEngine_58 : decode cX1_takesEngine 58 = .ok (.ifCond .ne 12, 3) := by decide +kernel
theorem dX1_takesEngine_61 : decode cX1_takesEngine 61 = .ok (.iload 5, 2) := by decide +kernel
theorem dX1_takesEngine_63 : decode cX1_takesEngine 63 = .ok (.bipush 9, 2) := by decide +kernel
theorem dX1_takesEngine_65 : decode cX1_takesEngine 65 = .ok (.if_icmp .eq 5, 3) := by decide +kernel
theorem dX1_takesEngine_68 : decode cX1_takesEngine 68 = .ok (.iconst 0, 1) := by decide +kernel
theorem dX1_takesEngine_69 : decode cX1_takesEngine 69 = .ok (.ireturn, 1) := by decide +kernel
theorem dX1_takesEngine_70 : decode cX1_takesEngine 70 = .ok (.aload_n 0, 1) := by decide +kernel
theorem dX1_takesEngine_71 : decode cX1_takesEngine 71 = .ok (.getfield 24, 3) := by decide +kernel
theorem dX1_takesEngine_74 : decode cX1_takesEngine 74 = .ok (.aload_n 0, 1) := by decide +kernel
theorem dX1_takesEngine_75 : decode cX1_takesEngine 75 = .ok (.getfield 33, 3) := by decide +kernel
theorem dX1_takesEngine_78 : decode cX1_takesEngine 78 = .ok (.bipush 7, 2) := by decide +kernel
theorem dX1_takesEngine_80 : decode cX1_takesEngine 80 = .ok (.imul, 1) := by decide +kernel
theorem dX1_takesEngine_81 : decode cX1_takesEngine 81 = .ok (.iload 4, 2) := by decide +kernel
theorem dX1_takesEngine_83 : decode cX1_takesEngine 83 = .ok (.iadd, 1) := by decide +kernel
theorem dX1_takesEngine_84 : decode cX1_takesEngine 84 = .ok (.iload 5, 2) := by decide +kernel
theorem dX1_takesEngine_86 : decode cX1_takesEngine 86 = .ok (.iastore, 1) := by decide +kernel
theorem dX1_takesEngine_87 : decode cX1_takesEngine 87 = .ok (.iinc 4 1, 3) := by decide +kernel
theorem dX1_takesEngine_90 : decode cX1_takesEngine 90 = .ok (.goto (-56), 3) := by decide +kernel
theorem dX1_takesEngine_93 : decode cX1_takesEngine 93 = .ok (.aload_n 0, 1) := by decide +kernel
theorem dX1_takesEngine_94 : decode cX1_takesEngine 94 = .ok (.getfield 9, 3) := by decide +kernel
theorem dX1_takesEngine_97 : decode cX1_takesEngine 97 = .ok (.aload_n 0, 1) := by decide +kernel
theorem dX1_takesEngine_98 : decode cX1_takesEngine 98 = .ok (.getfield 33, 3) := by decide +kernel
theorem dX1_takesEngine_101 : decode cX1_takesEngine 101 = .ok (.iload_n 3, 1) := by decide +kernel
theorem dX1_takesEngine_102 : decode cX1_takesEngine 102 = .ok (.iastore, 1) := by decide +kernel
theorem dX1_takesEngine_103 : decode cX1_takesEngine 103 = .ok (.aload_n 0, 1) := by decide +kernel
theorem dX1_takesEngine_104 : decode cX1_takesEngine 104 = .ok (.getfield 15, 3) := by decide +kernel
theorem dX1_takesEngine_107 : decode cX1_takesEngine 107 = .ok (.aload_n 0, 1) := by decide +kernel
theorem dX1_takesEngine_108 : decode cX1_takesEngine 108 = .ok (.getfield 33, 3) := by decide +kernel
theorem dX1_takesEngine_111 : decode cX1_takesEngine 111 = .ok (.aload_n 1, 1) := by decide +kernel
theorem dX1_takesEngine_112 : decode cX1_takesEngine 112 = .ok (.iload_n 2, 1) := by decide +kernel
theorem dX1_takesEngine_113 : decode cX1_takesEngine 113 = .ok (.iconst 3, 1) := by decide +kernel
theorem dX1_takesEngine_114 : decode cX1_takesEngine 114 = .ok (.iadd, 1) := by decide +kernel
theorem dX1_takesEngine_115 : decode cX1_takesEngine 115 = .ok (.invokevirtual 80, 3) := by decide +kernel
theorem dX1_takesEngine_118 : decode cX1_takesEngine 118 = .ok (.iastore, 1) := by decide +kernel
theorem dX1_takesEngine_119 : decode cX1_takesEngine 119 = .ok (.aload_n 0, 1) := by decide +kernel
theorem dX1_takesEngine_120 : decode cX1_takesEngine 120 = .ok (.getfield 18, 3) := by decide +kernel
theorem dX1_takesEngine_123 : decode cX1_takesEngine 123 = .ok (.aload_n 0, 1) := by decide +kernel
theorem dX1_takesEngine_124 : decode cX1_takesEngine 124 = .ok (.getfield 33, 3) := by decide +kernel
theorem dX1_takesEngine_127 : decode cX1_takesEngine 127 = .ok (.aload_n 1, 1) := by decide +kernel
theorem dX1_takesEngine_128 : decode cX1_takesEngine 128 = .ok (.iload_n 2, 1) := by decide +kernel
theorem dX1_takesEngine_129 : decode cX1_takesEngine 129 = .ok (.iconst 4, 1) := by decide +kernel
theorem dX1_takesEngine_130 : decode cX1_takesEngine 130 = .ok (.iadd, 1) := by decide +kernel
theorem dX1_takesEngine_131 : decode cX1_takesEngine 131 = .ok (.invokevirtual 74, 3) := by decide +kernel
theorem dX1_takesEngine_134 : decode cX1_takesEngine 134 = .ok (.iastore, 1) := by decide +kernel
theorem dX1_takesEngine_135 : decode cX1_takesEngine 135 = .ok (.aload_n 0, 1) := by decide +kernel
theorem dX1_takesEngine_136 : decode cX1_takesEngine 136 = .ok (.getfield 21, 3) := by decide +kernel
theorem dX1_takesEngine_139 : decode cX1_takesEngine 139 = .ok (.aload_n 0, 1) := by decide +kernel
theorem dX1_takesEngine_140 : decode cX1_takesEngine 140 = .ok (.getfield 33, 3) := by decide +kernel
theorem dX1_takesEngine_143 : decode cX1_takesEngine 143 = .ok (.bipush (-9), 2) := by decide +kernel
theorem dX1_takesEngine_145 : decode cX1_takesEngine 145 = .ok (.iastore, 1) := by decide +kernel
theorem dX1_takesEngine_146 : decode cX1_takesEngine 146 = .ok (.aload_n 0, 1) := by decide +kernel
theorem dX1_takesEngine_147 : decode cX1_takesEngine 147 = .ok (.getfield 15, 3) := by decide +kernel
theorem dX1_takesEngine_150 : decode cX1_takesEngine 150 = .ok (.aload_n 0, 1) := by decide +kernel
theorem dX1_takesEngine_151 : decode cX1_takesEngine 151 = .ok (.getfield 33, 3) := by decide +kernel
theorem dX1_takesEngine_154 : decode cX1_takesEngine 154 = .ok (.iaload, 1) := by decide +kernel
theorem dX1_takesEngine_155 : decode cX1_takesEngine 155 = .ok (.bipush 6, 2) := by decide +kernel
theorem dX1_takesEngine_157 : decode cX1_takesEngine 157 = .ok (.if_icmp .ne 18, 3) := by decide +kernel
theorem dX1_takesEngine_160 : decode cX1_takesEngine 160 = .ok (.aload_n 0, 1) := by decide +kernel
theorem dX1_takesEngine_161 : decode cX1_takesEngine 161 = .ok (.dup, 1) := by decide +kernel
theorem dX1_takesEngine_162 : decode cX1_takesEngine 162 = .ok (.getfield 37, 3) := by decide +kernel
theorem dX1_takesEngine_165 : decode cX1_takesEngine 165 = .ok (.iconst 1, 1) := by decide +kernel
theorem dX1_takesEngine_166 : decode cX1_takesEngine 166 = .ok (.aload_n 0, 1) := by decide +kernel
theorem dX1_takesEngine_167 : decode cX1_takesEngine 167 = .ok (.getfield 33, 3) := by decide +kernel
theorem dX1_takesEngine_170 : decode cX1_takesEngine 170 = .ok (.ishl, 1) := by decide +kernel
theorem dX1_takesEngine_171 : decode cX1_takesEngine 171 = .ok (.ior, 1) := by decide +kernel
theorem dX1_takesEngine_172 : decode cX1_takesEngine 172 = .ok (.putfield 37, 3) := by decide +kernel
theorem dX1_takesEngine_175 : decode cX1_takesEngine 175 = .ok (.aload_n 0, 1) := by decide +kernel
theorem dX1_takesEngine_176 : decode cX1_takesEngine 176 = .ok (.dup, 1) := by decide +kernel
theorem dX1_takesEngine_177 : decode cX1_takesEngine 177 = .ok (.getfield 33, 3) := by decide +kernel
theorem dX1_takesEngine_180 : decode cX1_takesEngine 180 = .ok (.iconst 1, 1) := by decide +kernel
theorem dX1_takesEngine_181 : decode cX1_takesEngine 181 = .ok (.iadd, 1) := by decide +kernel
theorem dX1_takesEngine_182 : decode cX1_takesEngine 182 = .ok (.putfield 33, 3) := by decide +kernel
theorem dX1_takesEngine_185 : decode cX1_takesEngine 185 = .ok (.iconst 1, 1) := by decide +kernel
theorem dX1_takesEngine_186 : decode cX1_takesEngine 186 = .ok (.ireturn, 1) := by decide +kernel
set_option maxRecDepth 20000 in
theorem ggX1_joins_X1_knows : GoodIn wsX1_joins wsX1_knows := goodIn_r _ [6, 7, 8, 9, 10, 11, 12, 13, 14, 15, 16] (by decide +kernel) (by decide +kernel)
set_option maxRecDepth 20000 in
theorem gX1_joins_X1_knows : GoodIn wsX1_joins (wsV RX1 46 RX1 yX1_knows wsX1_knows) := goodIn_app (goodIn_of _ (by decide +kernel)) ggX1_joins_X1_knows
theorem dX1_joins_0 : decode cX1_joins 0 = .ok (.aload_n 0, 1) := by decide +kernel
theorem dX1_joins_1 : decode cX1_joins 1 = .ok (.iload_n 1, 1) := by decide +kernel
theorem dX1_joins_2 : decode cX1_joins 2 = .ok (.invokevirtual 46, 3) := by decide +kernel
theorem dX1_joins_5 : decode cX1_joins 5 = .ok (.ifCond .eq 38, 3) := by decide +kernel
theorem dX1_joins_8 : decode cX1_joins 8 = .ok (.aload_n 0, 1) := by decide +kernel
theorem dX1_joins_9 : decode cX1_joins 9 = .ok (.iload_n 2, 1) := by decide +kernel
theorem dX1_joins_10 : decode cX1_joins 10 = .ok (.invokevirtual 46, 3) := by decide +kernel
theorem dX1_joins_13 : decode cX1_joins 13 = .ok (.ifCond .eq 30, 3) := by decide +kernel
theorem dX1_joins_16 : decode cX1_joins 16 = .ok (.iload_n 1, 1) := by decide +kernel
theorem dX1_joins_17 : decode cX1_joins 17 = .ok (.iload_n 2, 1) := by decide +kernel
theorem dX1_joins_18 : decode cX1_joins 18 = .ok (.if_icmp .eq 25, 3) := by decide +kernel
theorem dX1_joins_21 : decode cX1_joins 21 = .ok (.aload_n 0, 1) := by decide +kernel
theorem dX1_joins_22 : decode cX1_joins 22 = .ok (.getfield 21, 3) := by decide +kernel
theorem dX1_joins_25 : decode cX1_joins 25 = .ok (.iload_n 1, 1) := by decide +kernel
theorem dX1_joins_26 : decode cX1_joins 26 = .ok (.iaload, 1) := by decide +kernel
theorem dX1_joins_27 : decode cX1_joins 27 = .ok (.bipush (-9), 2) := by decide +kernel
theorem dX1_joins_29 : decode cX1_joins 29 = .ok (.if_icmp .ne 14, 3) := by decide +kernel
theorem dX1_joins_32 : decode cX1_joins 32 = .ok (.aload_n 0, 1) := by decide +kernel
theorem dX1_joins_33 : decode cX1_joins 33 = .ok (.getfield 21, 3) := by decide +kernel
theorem dX1_joins_36 : decode cX1_joins 36 = .ok (.iload_n 2, 1) := by decide +kernel
theorem dX1_joins_37 : decode cX1_joins 37 = .ok (.iaload, 1) := by decide +kernel
theorem dX1_joins_38 : decode cX1_joins 38 = .ok (.bipush (-9), 2) := by decide +kernel
theorem dX1_joins_40 : decode cX1_joins 40 = .ok (.if_icmp .eq 5, 3) := by decide +kernel
theorem dX1_joins_43 : decode cX1_joins 43 = .ok (.iconst 0, 1) := by decide +kernel
theorem dX1_joins_44 : decode cX1_joins 44 = .ok (.ireturn, 1) := by decide +kernel
theorem dX1_joins_45 : decode cX1_joins 45 = .ok (.aload_n 0, 1) := by decide +kernel
theorem dX1_joins_46 : decode cX1_joins 46 = .ok (.getfield 21, 3) := by decide +kernel
theorem dX1_joins_49 : decode cX1_joins 49 = .ok (.iload_n 1, 1) := by decide +kernel
theorem dX1_joins_50 : decode cX1_joins 50 = .ok (.iload_n 2, 1) := by decide +kernel
theorem dX1_joins_51 : decode cX1_joins 51 = .ok (.iastore, 1) := by decide +kernel
theorem dX1_joins_52 : decode cX1_joins 52 = .ok (.aload_n 0, 1) := by decide +kernel
theorem dX1_joins_53 : decode cX1_joins 53 = .ok (.getfield 21, 3) := by decide +kernel
theorem dX1_joins_56 : decode cX1_joins 56 = .ok (.iload_n 2, 1) := by decide +kernel
theorem dX1_joins_57 : decode cX1_joins 57 = .ok (.iload_n 1, 1) := by decide +kernel
theorem dX1_joins_58 : decode cX1_joins 58 = .ok (.iastore, 1) := by decide +kernel
theorem dX1_joins_59 : decode cX1_joins 59 = .ok (.iconst 1, 1) := by decide +kernel
theorem dX1_joins_60 : decode cX1_joins 60 = .ok (.ireturn, 1) := by decide +kernel
set_option maxRecDepth 20000 in
theorem ggX1_bit_X1_knows : GoodIn wsX1_bit wsX1_knows := goodIn_r _ [5, 6, 7, 8, 9, 10, 11, 12, 13, 14, 15] (by decide +kernel) (by decide +kernel)
set_option maxRecDepth 20000 in
theorem gX1_bit_X1_knows : GoodIn wsX1_bit (wsV RX1 46 RX1 yX1_knows wsX1_knows) := goodIn_app (goodIn_of _ (by decide +kernel)) ggX1_bit_X1_knows
theorem dX1_bit_0 : decode cX1_bit 0 = .ok (.aload_n 0, 1) := by decide +kernel
theorem dX1_bit_1 : decode cX1_bit 1 = .ok (.iload_n 1, 1) := by decide +kernel
theorem dX1_bit_2 : decode cX1_bit 2 = .ok (.invokevirtual 46, 3) := by decide +kernel
theorem dX1_bit_5 : decode cX1_bit 5 = .ok (.ifCond .eq 9, 3) := by decide +kernel
theorem dX1_bit_8 : decode cX1_bit 8 = .ok (.iconst 1, 1) := by decide +kernel
theorem dX1_bit_9 : decode cX1_bit 9 = .ok (.iload_n 1, 1) := by decide +kernel
theorem dX1_bit_10 : decode cX1_bit 10 = .ok (.ishl, 1) := by decide +kernel
theorem dX1_bit_11 : decode cX1_bit 11 = .ok (.goto 4, 3) := by decide +kernel
theorem dX1_bit_14 : decode cX1_bit 14 = .ok (.iconst 0, 1) := by decide +kernel
theorem dX1_bit_15 : decode cX1_bit 15 = .ok (.ireturn, 1) := by decide +kernel
set_option maxRecDepth 20000 in
theorem ggX1_turnOf_X1_knows : GoodIn wsX1_turnOf wsX1_knows := goodIn_r _ [6, 7, 8, 9, 10, 11, 12, 13, 14, 15, 16] (by decide +kernel) (by decide +kernel)
set_option maxRecDepth 20000 in
theorem gX1_turnOf_X1_knows : GoodIn wsX1_turnOf (wsV RX1 46 RX1 yX1_knows wsX1_knows) := goodIn_app (goodIn_of _ (by decide +kernel)) ggX1_turnOf_X1_knows
theorem dX1_turnOf_0 : decode cX1_turnOf 0 = .ok (.aload_n 0, 1) := by decide +kernel
theorem dX1_turnOf_1 : decode cX1_turnOf 1 = .ok (.iload_n 1, 1) := by decide +kernel
theorem dX1_turnOf_2 : decode cX1_turnOf 2 = .ok (.invokevirtual 46, 3) := by decide +kernel
theorem dX1_turnOf_5 : decode cX1_turnOf 5 = .ok (.ifCond .eq 27, 3) := by decide +kernel
theorem dX1_turnOf_8 : decode cX1_turnOf 8 = .ok (.iload_n 2, 1) := by decide +kernel
theorem dX1_turnOf_9 : decode cX1_turnOf 9 = .ok (.ifCond .lt 23, 3) := by decide +kernel
theorem dX1_turnOf_12 : decode cX1_turnOf 12 = .ok (.iload_n 2, 1) := by decide +kernel
theorem dX1_turnOf_13 : decode cX1_turnOf 13 = .ok (.bipush 7, 2) := by decide +kernel
theorem dX1_turnOf_15 : decode cX1_turnOf 15 = .ok (.if_icmp .ge 17, 3) := by decide +kernel
theorem dX1_turnOf_18 : decode cX1_turnOf 18 = .ok (.aload_n 0, 1) := by decide +kernel
theorem dX1_turnOf_19 : decode cX1_turnOf 19 = .ok (.getfield 24, 3) := by decide +kernel
theorem dX1_turnOf_22 : decode cX1_turnOf 22 = .ok (.iload_n 1, 1) := by decide +kernel
theorem dX1_turnOf_23 : decode cX1_turnOf 23 = .ok (.bipush 7, 2) := by decide +kernel
theorem dX1_turnOf_25 : decode cX1_turnOf 25 = .ok (.imul, 1) := by decide +kernel
theorem dX1_turnOf_26 : decode cX1_turnOf 26 = .ok (.iload_n 2, 1) := by decide +kernel
theorem dX1_turnOf_27 : decode cX1_turnOf 27 = .ok (.iadd, 1) := by decide +kernel
theorem dX1_turnOf_28 : decode cX1_turnOf 28 = .ok (.iaload, 1) := by decide +kernel
theorem dX1_turnOf_29 : decode cX1_turnOf 29 = .ok (.goto 5, 3) := by decide +kernel
theorem dX1_turnOf_32 : decode cX1_turnOf 32 = .ok (.bipush 9, 2) := by decide +kernel
theorem dX1_turnOf_34 : decode cX1_turnOf 34 = .ok (.ireturn, 1) := by decide +kernel
set_option maxRecDepth 20000 in
theorem ggX1_placeOn_X1_knows : GoodIn wsX1_placeOn wsX1_knows := goodIn_r _ [7, 8, 14, 15, 16, 17, 18, 19, 20, 21, 22] (by decide +kernel) (by decide +kernel)
set_option maxRecDepth 20000 in
theorem gX1_placeOn_X1_knows : GoodIn wsX1_placeOn (wsV RX1 46 RX1 yX1_knows wsX1_knows) := goodIn_app (goodIn_of _ (by decide +kernel)) ggX1_placeOn_X1_knows
set_option maxRecDepth 20000 in
theorem ggX1_placeOn_X1_turnOf : GoodIn wsX1_placeOn wsX1_turnOf := goodIn_r _ [12, 13, 3, 4, 5, 6, 7, 8, 14, 15, 16, 17, 18, 19, 20, 21, 22] (by decide +kernel) (by decide +kernel)
set_option maxRecDepth 20000 in
theorem gX1_placeOn_X1_turnOf : GoodIn wsX1_placeOn (wsV RX1 83 RX1 yX1_turnOf wsX1_turnOf) := goodIn_app (goodIn_of _ (by decide +kernel)) ggX1_placeOn_X1_turnOf
theorem dX1_placeOn_0 : decode cX1_placeOn 0 = .ok (.aload_n 0, 1) := by decide +kernel
theorem dX1_placeOn_1 : decode cX1_placeOn 1 = .ok (.iload_n 1, 1) := by decide +kernel
theorem dX1_placeOn_2 : decode cX1_placeOn 2 = .ok (.invokevirtual 46, 3) := by decide +kernel
theorem dX1_placeOn_5 : decode cX1_placeOn 5 = .ok (.ifCond .eq 7, 3) := by decide +kernel
theorem dX1_placeOn_8 : decode cX1_placeOn 8 = .ok (.iload_n 2, 1) := by decide +kernel
theorem dX1_placeOn_9 : decode cX1_placeOn 9 = .ok (.ifCond .ge 6, 3) := by decide +kernel
theorem dX1_placeOn_12 : decode cX1_placeOn 12 = .ok (.bipush 9, 2) := by decide +kernel
theorem dX1_placeOn_14 : decode cX1_placeOn 14 = .ok (.ireturn, 1) := by decide +kernel
theorem dX1_placeOn_15 : decode cX1_placeOn 15 = .ok (.iload_n 2, 1) := by decide +kernel
theorem dX1_placeOn_16 : decode cX1_placeOn 16 = .ok (.bipush 7, 2) := by decide +kernel
theorem dX1_placeOn_18 : decode cX1_placeOn 18 = .ok (.idiv, 1) := by decide +kernel
theorem dX1_placeOn_19 : decode cX1_placeOn 19 = .ok (.istore_n 3, 1) := by decide +kernel
theorem dX1_placeOn_20 : decode cX1_placeOn 20 = .ok (.iload_n 2, 1) := by decide +kernel
theorem dX1_placeOn_21 : decode cX1_placeOn 21 = .ok (.bipush 7, 2) := by decide +kernel
theorem dX1_placeOn_23 : decode cX1_placeOn 23 = .ok (.irem, 1) := by decide +kernel
theorem dX1_placeOn_24 : decode cX1_placeOn 24 = .ok (.istore 4, 2) := by decide +kernel
theorem dX1_placeOn_26 : decode cX1_placeOn 26 = .ok (.aload_n 0, 1) := by decide +kernel
theorem dX1_placeOn_27 : decode cX1_placeOn 27 = .ok (.getfield 18, 3) := by decide +kernel
theorem dX1_placeOn_30 : decode cX1_placeOn 30 = .ok (.iload_n 1, 1) := by decide +kernel
theorem dX1_placeOn_31 : decode cX1_placeOn 31 = .ok (.iaload, 1) := by decide +kernel
theorem dX1_placeOn_32 : decode cX1_placeOn 32 = .ok (.istore 5, 2) := by decide +kernel
theorem dX1_placeOn_34 : decode cX1_placeOn 34 = .ok (.aload_n 0, 1) := by decide +kernel
theorem dX1_placeOn_35 : decode cX1_placeOn 35 = .ok (.iload_n 1, 1) := by decide +kernel
theorem dX1_placeOn_36 : decode cX1_placeOn 36 = .ok (.iload 4, 2) := by decide +kernel
theorem dX1_placeOn_38 : decode cX1_placeOn 38 = .ok (.invokevirtual 83, 3) := by decide +kernel
theorem dX1_placeOn_41 : decode cX1_placeOn 41 = .ok (.istore 6, 2) := by decide +kernel
theorem dX1_placeOn_43 : decode cX1_placeOn 43 = .ok (.aload_n 0, 1) := by decide +kernel
theorem dX1_placeOn_44 : decode cX1_placeOn 44 = .ok (.getfield 15, 3) := by decide +kernel
theorem dX1_placeOn_47 : decode cX1_placeOn 47 = .ok (.iload_n 1, 1) := by decide +kernel
theorem dX1_placeOn_48 : decode cX1_placeOn 48 = .ok (.iaload, 1) := by decide +kernel
theorem dX1_placeOn_49 : decode cX1_placeOn 49 = .ok (.tableswitch 126 1 5 #[35, 50, 72, 77, 91], 35) := by decide +kernel
theorem dX1_placeOn_84 : decode cX1_placeOn 84 = .ok (.iload 4, 2) := by decide +kernel
theorem dX1_placeOn_86 : decode cX1_placeOn 86 = .ok (.iload 5, 2) := by decide +kernel
theorem dX1_placeOn_88 : decode cX1_placeOn 88 = .ok (.if_icmp .lt 8, 3) := by decide +kernel
theorem dX1_placeOn_91 : decode cX1_placeOn 91 = .ok (.bipush 9, 2) := by decide +kernel
theorem dX1_placeOn_93 : decode cX1_placeOn 93 = .ok (.goto 5, 3) := by decide +kernel
theorem dX1_placeOn_96 : decode cX1_placeOn 96 = .ok (.iload 6, 2) := by decide +kernel
theorem dX1_placeOn_98 : decode cX1_placeOn 98 = .ok (.ireturn, 1) := by decide +kernel
theorem dX1_placeOn_99 : decode cX1_placeOn 99 = .ok (.iload 5, 2) := by decide +kernel
theorem dX1_placeOn_101 : decode cX1_placeOn 101 = .ok (.ifCond .lt 17, 3) := by decide +kernel
theorem dX1_placeOn_104 : decode cX1_placeOn 104 = .ok (.iload_n 3, 1) := by decide +kernel
theorem dX1_placeOn_105 : decode cX1_placeOn 105 = .ok (.iload 5, 2) := by decide +kernel
theorem dX1_placeOn_107 : decode cX1_placeOn 107 = .ok (.iconst 2, 1) := by decide +kernel
theorem dX1_placeOn_108 : decode cX1_placeOn 108 = .ok (.iadd, 1) := by decide +kernel
theorem dX1_placeOn_109 : decode cX1_placeOn 109 = .ok (.irem, 1) := by decide +kernel
theorem dX1_placeOn_110 : decode cX1_placeOn 110 = .ok (.ifCond .ne 8, 3) := by decide +kernel
theorem dX1_placeOn_113 : decode cX1_placeOn 113 = .ok (.bipush 9, 2) := by decide +kernel
theorem dX1_placeOn_115 : decode cX1_placeOn 115 = .ok (.goto 5, 3) := by decide +kernel
theorem dX1_placeOn_118 : decode cX1_placeOn 118 = .ok (.iload 6, 2) := by decide +kernel
theorem dX1_placeOn_120 : decode cX1_placeOn 120 = .ok (.ireturn, 1) := by decide +kernel
theorem dX1_placeOn_121 : decode cX1_placeOn 121 = .ok (.iload 5, 2) := by decide +kernel
theorem dX1_placeOn_123 : decode cX1_placeOn 123 = .ok (.iconst 5, 1) := by decide +kernel
theorem dX1_placeOn_124 : decode cX1_placeOn 124 = .ok (.irem, 1) := by decide +kernel
theorem dX1_placeOn_125 : decode cX1_placeOn 125 = .ok (.ireturn, 1) := by decide +kernel
theorem dX1_placeOn_126 : decode cX1_placeOn 126 = .ok (.iload_n 3, 1) := by decide +kernel
theorem dX1_placeOn_127 : decode cX1_placeOn 127 = .ok (.iload 5, 2) := by decide +kernel
theorem dX1_placeOn_129 : decode cX1_placeOn 129 = .ok (.if_icmp .ge 8, 3) := by decide +kernel
theorem dX1_placeOn_132 : decode cX1_placeOn 132 = .ok (.iload 6, 2) := by decide +kernel
theorem dX1_placeOn_134 : decode cX1_placeOn 134 = .ok (.goto 5, 3) := by decide +kernel
theorem dX1_placeOn_137 : decode cX1_placeOn 137 = .ok (.bipush 9, 2) := by decide +kernel
theorem dX1_placeOn_139 : decode cX1_placeOn 139 = .ok (.ireturn, 1) := by decide +kernel
theorem dX1_placeOn_140 : decode cX1_placeOn 140 = .ok (.iload_n 3, 1) := by decide +kernel
theorem dX1_placeOn_141 : decode cX1_placeOn 141 = .ok (.iconst 2, 1) := by decide +kernel
theorem dX1_placeOn_142 : decode cX1_placeOn 142 = .ok (.irem, 1) := by decide +kernel
theorem dX1_placeOn_143 : decode cX1_placeOn 143 = .ok (.ifCond .ne 8, 3) := by decide +kernel
theorem dX1_placeOn_146 : decode cX1_placeOn 146 = .ok (.iload 6, 2) := by decide +kernel
theorem dX1_placeOn_148 : decode cX1_placeOn 148 = .ok (.goto 26, 3) := by decide +kernel
theorem dX1_placeOn_151 : decode cX1_placeOn 151 = .ok (.aload_n 0, 1) := by decide +kernel
theorem dX1_placeOn_152 : decode cX1_placeOn 152 = .ok (.aload_n 0, 1) := by decide +kernel
theorem dX1_placeOn_153 : decode cX1_placeOn 153 = .ok (.iload_n 1, 1) := by decide +kernel
theorem dX1_placeOn_154 : decode cX1_placeOn 154 = .ok (.iconst 1, 1) := by decide +kernel
theorem dX1_placeOn_155 : decode cX1_placeOn 155 = .ok (.iadd, 1) := by decide +kernel
theorem dX1_placeOn_156 : decode cX1_placeOn 156 = .ok (.invokevirtual 46, 3) := by decide +kernel
theorem dX1_placeOn_159 : decode cX1_placeOn 159 = .ok (.ifCond .eq 9, 3) := by decide +kernel
theorem dX1_placeOn_162 : decode cX1_placeOn 162 = .ok (.iload_n 1, 1) := by decide +kernel
theorem dX1_placeOn_163 : decode cX1_placeOn 163 = .ok (.iconst 1, 1) := by decide +kernel
theorem dX1_placeOn_164 : decode cX1_placeOn 164 = .ok (.iadd, 1) := by decide +kernel
theorem dX1_placeOn_165 : decode cX1_placeOn 165 = .ok (.goto 4, 3) := by decide +kernel
theorem dX1_placeOn_168 : decode cX1_placeOn 168 = .ok (.iconst 0, 1) := by decide +kernel
theorem dX1_placeOn_169 : decode cX1_placeOn 169 = .ok (.iload 4, 2) := by decide +kernel
theorem dX1_placeOn_171 : decode cX1_placeOn 171 = .ok (.invokevirtual 83, 3) := by decide +kernel
theorem dX1_placeOn_174 : decode cX1_placeOn 174 = .ok (.ireturn, 1) := by decide +kernel
theorem dX1_placeOn_175 : decode cX1_placeOn 175 = .ok (.iload 6, 2) := by decide +kernel
theorem dX1_placeOn_177 : decode cX1_placeOn 177 = .ok (.ireturn, 1) := by decide +kernel
set_option maxRecDepth 20000 in
theorem ggX1_passing_X1_placeOn : GoodIn wsX1_passing wsX1_placeOn := goodIn_r _ [6, 7, 8, 9, 10, 11, 5, 12, 1, 13, 14, 15, 16, 17, 22, 23, 24, 25, 26, 27, 28, 29, 30] (by decide +kernel) (by decide +kernel)
set_option maxRecDepth 20000 in
theorem gX1_passing_X1_placeOn : GoodIn wsX1_passing (wsV RX1 87 RX1 yX1_placeOn wsX1_placeOn) := goodIn_app (goodIn_of _ (by decide +kernel)) ggX1_passing_X1_placeOn
set_option maxRecDepth 20000 in
theorem ggX1_passing_X1_bit : GoodIn wsX1_passing wsX1_bit := goodIn_r _ [21, 9, 10, 11, 5, 12, 1, 22, 23, 24, 25, 26, 27, 28, 29, 30] (by decide +kernel) (by decide +kernel)
set_option maxRecDepth 20000 in
theorem gX1_passing_X1_bit : GoodIn wsX1_passing (wsV RX1 71 RX1 yX1_bit wsX1_bit) := goodIn_app (goodIn_of _ (by decide +kernel)) ggX1_passing_X1_bit
theorem dX1_passing_0 : decode cX1_passing 0 = .ok (.iconst 0, 1) := by decide +kernel
theorem dX1_passing_1 : decode cX1_passing 1 = .ok (.istore_n 3, 1) := by decide +kernel
theorem dX1_passing_2 : decode cX1_passing 2 = .ok (.iconst 0, 1) := by decide +kernel
theorem dX1_passing_3 : decode cX1_passing 3 = .ok (.istore 4, 2) := by decide +kernel
theorem dX1_passing_5 : decode cX1_passing 5 = .ok (.iload 4, 2) := by decide +kernel
theorem dX1_passing_7 : decode cX1_passing 7 = .ok (.aload_n 0, 1) := by decide +kernel
theorem dX1_passing_8 : decode cX1_passing 8 = .ok (.getfield 33, 3) := by decide +kernel
theorem dX1_passing_11 : decode cX1_passing 11 = .ok (.if_icmp .ge 29, 3) := by decide +kernel
theorem dX1_passing_14 : decode cX1_passing 14 = .ok (.aload_n 0, 1) := by decide +kernel
theorem dX1_passing_15 : decode cX1_passing 15 = .ok (.iload 4, 2) := by decide +kernel
theorem dX1_passing_17 : decode cX1_passing 17 = .ok (.iload_n 2, 1) := by decide +kernel
theorem dX1_passing_18 : decode cX1_passing 18 = .ok (.invokevirtual 87, 3) := by decide +kernel
theorem dX1_passing_21 : decode cX1_passing 21 = .ok (.iload_n 1, 1) := by decide +kernel
theorem dX1_passing_22 : decode cX1_passing 22 = .ok (.if_icmp .ne 12, 3) := by decide +kernel
theorem dX1_passing_25 : decode cX1_passing 25 = .ok (.iload_n 3, 1) := by decide +kernel
theorem dX1_passing_26 : decode cX1_passing 26 = .ok (.aload_n 0, 1) := by decide +kernel
theorem dX1_passing_27 : decode cX1_passing 27 = .ok (.iload 4, 2) := by decide +kernel
theorem dX1_passing_29 : decode cX1_passing 29 = .ok (.invokevirtual 71, 3) := by decide +kernel
theorem dX1_passing_32 : decode cX1_passing 32 = .ok (.ior, 1) := by decide +kernel
theorem dX1_passing_33 : decode cX1_passing 33 = .ok (.istore_n 3, 1) := by decide +kernel
theorem dX1_passing_34 : decode cX1_passing 34 = .ok (.iinc 4 1, 3) := by decide +kernel
theorem dX1_passing_37 : decode cX1_passing 37 = .ok (.goto (-32), 3) := by decide +kernel
theorem dX1_passing_40 : decode cX1_passing 40 = .ok (.iload_n 3, 1) := by decide +kernel
theorem dX1_passing_41 : decode cX1_passing 41 = .ok (.ireturn, 1) := by decide +kernel
set_option maxRecDepth 20000 in
theorem ggX1_isOn_X1_knows : GoodIn wsX1_isOn wsX1_knows := goodIn_r _ [6, 7, 12, 13, 14, 15, 16, 17, 18, 19, 20] (by decide +kernel) (by decide +kernel)
set_option maxRecDepth 20000 in
theorem gX1_isOn_X1_knows : GoodIn wsX1_isOn (wsV RX1 46 RX1 yX1_knows wsX1_knows) := goodIn_app (goodIn_of _ (by decide +kernel)) ggX1_isOn_X1_knows
set_option maxRecDepth 20000 in
theorem ggX1_isOn_X1_bit : GoodIn wsX1_isOn wsX1_bit := goodIn_r _ [11, 2, 3, 4, 5, 6, 7, 12, 13, 14, 15, 16, 17, 18, 19, 20] (by decide +kernel) (by decide +kernel)
set_option maxRecDepth 20000 in
theorem gX1_isOn_X1_bit : GoodIn wsX1_isOn (wsV RX1 71 RX1 yX1_bit wsX1_bit) := goodIn_app (goodIn_of _ (by decide +kernel)) ggX1_isOn_X1_bit
theorem dX1_isOn_0 : decode cX1_isOn 0 = .ok (.aload_n 0, 1) := by decide +kernel
theorem dX1_isOn_1 : decode cX1_isOn 1 = .ok (.iload_n 2, 1) := by decide +kernel
theorem dX1_isOn_2 : decode cX1_isOn 2 = .ok (.invokevirtual 46, 3) := by decide +kernel
theorem dX1_isOn_5 : decode cX1_isOn 5 = .ok (.ifCond .eq 28, 3) := by decide +kernel
theorem dX1_isOn_8 : decode cX1_isOn 8 = .ok (.iload_n 1, 1) := by decide +kernel
theorem dX1_isOn_9 : decode cX1_isOn 9 = .ok (.aload_n 0, 1) := by decide +kernel
theorem dX1_isOn_10 : decode cX1_isOn 10 = .ok (.iload_n 2, 1) := by decide +kernel
theorem dX1_isOn_11 : decode cX1_isOn 11 = .ok (.invokevirtual 71, 3) := by decide +kernel
theorem dX1_isOn_14 : decode cX1_isOn 14 = .ok (.aload_n 0, 1) := by decide +kernel
theorem dX1_isOn_15 : decode cX1_isOn 15 = .ok (.aload_n 0, 1) := by decide +kernel
theorem dX1_isOn_16 : decode cX1_isOn 16 = .ok (.getfield 21, 3) := by decide +kernel
theorem dX1_isOn_19 : decode cX1_isOn 19 = .ok (.iload_n 2, 1) := by decide +kernel
theorem dX1_isOn_20 : decode cX1_isOn 20 = .ok (.iaload, 1) := by decide +kernel
theorem dX1_isOn_21 : decode cX1_isOn 21 = .ok (.invokevirtual 71, 3) := by decide +kernel
theorem dX1_isOn_24 : decode cX1_isOn 24 = .ok (.ior, 1) := by decide +kernel
theorem dX1_isOn_25 : decode cX1_isOn 25 = .ok (.iand, 1) := by decide +kernel
theorem dX1_isOn_26 : decode cX1_isOn 26 = .ok (.ifCond .eq 7, 3) := by decide +kernel
theorem dX1_isOn_29 : decode cX1_isOn 29 = .ok (.iconst 1, 1) := by decide +kernel
theorem dX1_isOn_30 : decode cX1_isOn 30 = .ok (.goto 4, 3) := by decide +kernel
theorem dX1_isOn_33 : decode cX1_isOn 33 = .ok (.iconst 0, 1) := by decide +kernel
theorem dX1_isOn_34 : decode cX1_isOn 34 = .ok (.ireturn, 1) := by decide +kernel
set_option maxRecDepth 20000 in
theorem ggX1_standIn_X1_knows : GoodIn wsX1_standIn wsX1_knows := goodIn_r _ [10, 11, 12, 13, 14, 15, 16, 17, 18, 19, 20] (by decide +kernel) (by decide +kernel)
set_option maxRecDepth 20000 in
theorem gX1_standIn_X1_knows : GoodIn wsX1_standIn (wsV RX1 46 RX1 yX1_knows wsX1_knows) := goodIn_app (goodIn_of _ (by decide +kernel)) ggX1_standIn_X1_knows
theorem dX1_standIn_0 : decode cX1_standIn 0 = .ok (.aload_n 0, 1) := by decide +kernel
theorem dX1_standIn_1 : decode cX1_standIn 1 = .ok (.iload_n 1, 1) := by decide +kernel
theorem dX1_standIn_2 : decode cX1_standIn 2 = .ok (.invokevirtual 46, 3) := by decide +kernel
theorem dX1_standIn_5 : decode cX1_standIn 5 = .ok (.ifCond .eq 29, 3) := by decide +kernel
theorem dX1_standIn_8 : decode cX1_standIn 8 = .ok (.aload_n 0, 1) := by decide +kernel
theorem dX1_standIn_9 : decode cX1_standIn 9 = .ok (.aload_n 0, 1) := by decide +kernel
theorem dX1_standIn_10 : decode cX1_standIn 10 = .ok (.getfield 21, 3) := by decide +kernel
theorem dX1_standIn_13 : decode cX1_standIn 13 = .ok (.iload_n 1, 1) := by decide +kernel
theorem dX1_standIn_14 : decode cX1_standIn 14 = .ok (.iaload, 1) := by decide +kernel
theorem dX1_standIn_15 : decode cX1_standIn 15 = .ok (.invokevirtual 46, 3) := by decide +kernel
theorem dX1_standIn_18 : decode cX1_standIn 18 = .ok (.ifCond .eq 16, 3) := by decide +kernel
theorem dX1_standIn_21 : decode cX1_standIn 21 = .ok (.iload_n 1, 1) := by decide +kernel
theorem dX1_standIn_22 : decode cX1_standIn 22 = .ok (.aload_n 0, 1) := by decide +kernel
theorem dX1_standIn_23 : decode cX1_standIn 23 = .ok (.getfield 21, 3) := by decide +kernel
theorem dX1_standIn_26 : decode cX1_standIn 26 = .ok (.iload_n 1, 1) := by decide +kernel
theorem dX1_standIn_27 : decode cX1_standIn 27 = .ok (.iaload, 1) := by decide +kernel
theorem dX1_standIn_28 : decode cX1_standIn 28 = .ok (.invokestatic 90, 3) := by decide +kernel
theorem dX1_standIn_31 : decode cX1_standIn 31 = .ok (.goto 4, 3) := by decide +kernel
theorem dX1_standIn_34 : decode cX1_standIn 34 = .ok (.iload_n 1, 1) := by decide +kernel
theorem dX1_standIn_35 : decode cX1_standIn 35 = .ok (.ireturn, 1) := by decide +kernel
set_option maxRecDepth 20000 in
theorem ggX1_newOf_X1_bit : GoodIn wsX1_newOf wsX1_bit := goodIn_r _ [7, 8, 9, 10, 6, 11, 1, 25, 26, 27, 28, 29, 30, 31, 32, 33] (by decide +kernel) (by decide +kernel)
set_option maxRecDepth 20000 in
theorem gX1_newOf_X1_bit : GoodIn wsX1_newOf (wsV RX1 71 RX1 yX1_bit wsX1_bit) := goodIn_app (goodIn_of _ (by decide +kernel)) ggX1_newOf_X1_bit
set_option maxRecDepth 20000 in
theorem ggX1_newOf_X1_isOn : GoodIn wsX1_newOf wsX1_isOn := goodIn_r _ [15, 16, 8, 9, 10, 6, 11, 1, 3, 4, 5, 7, 25, 26, 27, 28, 29, 30, 31, 32, 33] (by decide +kernel) (by decide +kernel)
set_option maxRecDepth 20000 in
theorem gX1_newOf_X1_isOn : GoodIn wsX1_newOf (wsV RX1 95 RX1 yX1_isOn wsX1_isOn) := goodIn_app (goodIn_of _ (by decide +kernel)) ggX1_newOf_X1_isOn
set_option maxRecDepth 20000 in
theorem ggX1_newOf_X1_standIn : GoodIn wsX1_newOf wsX1_standIn := goodIn_r _ [20, 16, 21, 22, 23, 24, 8, 9, 10, 6, 11, 1, 25, 26, 27, 28, 29, 30, 31, 32, 33] (by decide +kernel) (by decide +kernel)
set_option maxRecDepth 20000 in
theorem gX1_newOf_X1_standIn : GoodIn wsX1_newOf (wsV RX1 98 RX1 yX1_standIn wsX1_standIn) := goodIn_app (goodIn_of _ (by decide +kernel)) ggX1_newOf_X1_standIn
theorem dX1_newOf_0 : decode cX1_newOf 0 = .ok (.iconst 0, 1) := by decide +kernel
theorem dX1_newOf_1 : decode cX1_newOf 1 = .ok (.istore_n 2, 1) := by decide +kernel
theorem dX1_newOf_2 : decode cX1_newOf 2 = .ok (.iconst 0, 1) := by decide +kernel
theorem dX1_newOf_3 : decode cX1_newOf 3 = .ok (.istore_n 3, 1) := by decide +kernel
theorem dX1_newOf_4 : decode cX1_newOf 4 = .ok (.iload_n 3, 1) := by decide +kernel
theorem dX1_newOf_5 : decode cX1_newOf 5 = .ok (.aload_n 0, 1) := by decide +kernel
theorem dX1_newOf_6 : decode cX1_newOf 6 = .ok (.getfield 33, 3) := by decide +kernel
theorem dX1_newOf_9 : decode cX1_newOf 9 = .ok (.if_icmp .ge 43, 3) := by decide +kernel
theorem dX1_newOf_12 : decode cX1_newOf 12 = .ok (.iload_n 1, 1) := by decide +kernel
theorem dX1_newOf_13 : decode cX1_newOf 13 = .ok (.aload_n 0, 1) := by decide +kernel
theorem dX1_newOf_14 : decode cX1_newOf 14 = .ok (.iload_n 3, 1) := by decide +kernel
theorem dX1_newOf_15 : decode cX1_newOf 15 = .ok (.invokevirtual 71, 3) := by decide +kernel
theorem dX1_newOf_18 : decode cX1_newOf 18 = .ok (.iand, 1) := by decide +kernel
theorem dX1_newOf_19 : decode cX1_newOf 19 = .ok (.ifCond .eq 27, 3) := by decide +kernel
theorem dX1_newOf_22 : decode cX1_newOf 22 = .ok (.aload_n 0, 1) := by decide +kernel
theorem dX1_newOf_23 : decode cX1_newOf 23 = .ok (.aload_n 0, 1) := by decide +kernel
theorem dX1_newOf_24 : decode cX1_newOf 24 = .ok (.getfield 40, 3) := by decide +kernel
theorem dX1_newOf_27 : decode cX1_newOf 27 = .ok (.iload_n 3, 1) := by decide +kernel
theorem dX1_newOf_28 : decode cX1_newOf 28 = .ok (.invokevirtual 95, 3) := by decide +kernel
theorem dX1_newOf_31 : decode cX1_newOf 31 = .ok (.ifCond .ne 15, 3) := by decide +kernel
theorem dX1_newOf_34 : decode cX1_newOf 34 = .ok (.iload_n 2, 1) := by decide +kernel
theorem dX1_newOf_35 : decode cX1_newOf 35 = .ok (.aload_n 0, 1) := by decide +kernel
theorem dX1_newOf_36 : decode cX1_newOf 36 = .ok (.aload_n 0, 1) := by decide +kernel
theorem dX1_newOf_37 : decode cX1_newOf 37 = .ok (.iload_n 3, 1) := by decide +kernel
theorem dX1_newOf_38 : decode cX1_newOf 38 = .ok (.invokevirtual 98, 3) := by decide +kernel
theorem dX1_newOf_41 : decode cX1_newOf 41 = .ok (.invokevirtual 71, 3) := by decide +kernel
theorem dX1_newOf_44 : decode cX1_newOf 44 = .ok (.ior, 1) := by decide +kernel
theorem dX1_newOf_45 : decode cX1_newOf 45 = .ok (.istore_n 2, 1) := by decide +kernel
theorem dX1_newOf_46 : decode cX1_newOf 46 = .ok (.iinc 3 1, 3) := by decide +kernel
theorem dX1_newOf_49 : decode cX1_newOf 49 = .ok (.goto (-45), 3) := by decide +kernel
theorem dX1_newOf_52 : decode cX1_newOf 52 = .ok (.iload_n 2, 1) := by decide +kernel
theorem dX1_newOf_53 : decode cX1_newOf 53 = .ok (.ireturn, 1) := by decide +kernel
set_option maxRecDepth 20000 in
theorem ggX1_worth_J6_bitCount_0f7a4 : GoodIn wsX1_worth wsJ6_bitCount_0f7a4 := goodIn_r _ [5, 6, 7, 8] (by decide +kernel) (by decide +kernel)
set_option maxRecDepth 20000 in
theorem gX1_worth_J6_bitCount_0f7a4 : GoodIn wsX1_worth (va_wsS RX1 101 yJ6_bitCount_0f7a4 wsJ6_bitCount_0f7a4) := goodIn_app (goodIn_of _ (by decide +kernel)) ggX1_worth_J6_bitCount_0f7a4
theorem dX1_worth_0 : decode cX1_worth 0 = .ok (.iload_n 1, 1) := by decide +kernel
theorem dX1_worth_1 : decode cX1_worth 1 = .ok (.invokestatic 101, 3) := by decide +kernel
theorem dX1_worth_4 : decode cX1_worth 4 = .ok (.iload_n 1, 1) := by decide +kernel
theorem dX1_worth_5 : decode cX1_worth 5 = .ok (.aload_n 0, 1) := by decide +kernel
theorem dX1_worth_6 : decode cX1_worth 6 = .ok (.getfield 37, 3) := by decide +kernel
theorem dX1_worth_9 : decode cX1_worth 9 = .ok (.iand, 1) := by decide +kernel
theorem dX1_worth_10 : decode cX1_worth 10 = .ok (.invokestatic 101, 3) := by decide +kernel
theorem dX1_worth_13 : decode cX1_worth 13 = .ok (.iadd, 1) := by decide +kernel
theorem dX1_worth_14 : decode cX1_worth 14 = .ok (.ireturn, 1) := by decide +kernel
set_option maxRecDepth 20000 in
theorem ggX1_worthOfAllNew_X1_newOf : GoodIn wsX1_worthOfAllNew wsX1_newOf := goodIn_r _ [5, 6, 7, 8, 9, 10, 4, 11, 12, 13, 14, 15, 16, 17, 18, 19, 20, 21, 22, 23, 24, 25, 26, 27, 28, 41, 42, 43, 44, 45, 46, 47, 48, 49] (by decide +kernel) (by decide +kernel)
set_option maxRecDepth 20000 in
theorem gX1_worthOfAllNew_X1_newOf : GoodIn wsX1_worthOfAllNew (wsV RX1 106 RX1 yX1_newOf wsX1_newOf) := goodIn_app (goodIn_of _ (by decide +kernel)) ggX1_worthOfAllNew_X1_newOf
set_option maxRecDepth 20000 in
theorem ggX1_worthOfAllNew_X1_worth : GoodIn wsX1_worthOfAllNew wsX1_worth := goodIn_r _ [32, 33, 34, 35, 36, 37, 38, 39, 40, 41, 42, 43, 44, 45, 46, 47, 48, 49] (by decide +kernel) (by decide +kernel)
set_option maxRecDepth 20000 in
theorem gX1_worthOfAllNew_X1_worth : GoodIn wsX1_worthOfAllNew (wsV RX1 109 RX1 yX1_worth wsX1_worth) := goodIn_app (goodIn_of _ (by decide +kernel)) ggX1_worthOfAllNew_X1_worth
theorem dX1_worthOfAllNew_0 : decode cX1_worthOfAllNew 0 = .ok (.aload_n 0, 1) := by decide +kernel
theorem dX1_worthOfAllNew_1 : decode cX1_worthOfAllNew 1 = .ok (.aload_n 0, 1) := by decide +kernel
theorem dX1_worthOfAllNew_2 : decode cX1_worthOfAllNew 2 = .ok (.bipush 127, 2) := by decide +kernel
theorem dX1_worthOfAllNew_4 : decode cX1_worthOfAllNew 4 = .ok (.invokevirtual 106, 3) := by decide +kernel
theorem dX1_worthOfAllNew_7 : decode cX1_worthOfAllNew 7 = .ok (.invokevirtual 109, 3) := by decide +kernel
theorem dX1_worthOfAllNew_10 : decode cX1_worthOfAllNew 10 = .ok (.ireturn, 1) := by decide +kernel
set_option maxRecDepth 20000 in
theorem ggX1_worthBeyondFriend_X1_isOn : GoodIn wsX1_worthBeyondFriend wsX1_isOn := goodIn_r _ [8, 9, 10, 11, 12, 7, 13, 1, 14, 15, 16, 17, 38, 39, 40, 41, 42, 43, 44, 45, 46] (by decide +kernel) (by decide +kernel)
set_option maxRecDepth 20000 in
theorem gX1_worthBeyondFriend_X1_isOn : GoodIn wsX1_worthBeyondFriend (wsV RX1 95 RX1 yX1_isOn wsX1_isOn) := goodIn_app (goodIn_of _ (by decide +kernel)) ggX1_worthBeyondFriend_X1_isOn
set_option maxRecDepth 20000 in
theorem ggX1_worthBeyondFriend_X1_standIn : GoodIn wsX1_worthBeyondFriend wsX1_standIn := goodIn_r _ [21, 9, 22, 23, 24, 25, 10, 11, 12, 7, 13, 1, 38, 39, 40, 41, 42, 43, 44, 45, 46] (by decide +kernel) (by decide +kernel)
set_option maxRecDepth 20000 in
theorem gX1_worthBeyondFriend_X1_standIn : GoodIn wsX1_worthBeyondFriend (wsV RX1 98 RX1 yX1_standIn wsX1_standIn) := goodIn_app (goodIn_of _ (by decide +kernel)) ggX1_worthBeyondFriend_X1_standIn
set_option maxRecDepth 20000 in
theorem ggX1_worthBeyondFriend_X1_bit : GoodIn wsX1_worthBeyondFriend wsX1_bit := goodIn_r _ [17, 10, 11, 12, 7, 13, 1, 38, 39, 40, 41, 42, 43, 44, 45, 46] (by decide +kernel) (by decide +kernel)
set_option maxRecDepth 20000 in
theorem gX1_worthBeyondFriend_X1_bit : GoodIn wsX1_worthBeyondFriend (wsV RX1 71 RX1 yX1_bit wsX1_bit) := goodIn_app (goodIn_of _ (by decide +kernel)) ggX1_worthBeyondFriend_X1_bit
set_option maxRecDepth 20000 in
theorem ggX1_worthBeyondFriend_X1_worth : GoodIn wsX1_worthBeyondFriend wsX1_worth := goodIn_r _ [29, 30, 31, 32, 33, 34, 35, 36, 37, 38, 39, 40, 41, 42, 43, 44, 45, 46] (by decide +kernel) (by decide +kernel)
set_option maxRecDepth 20000 in
theorem gX1_worthBeyondFriend_X1_worth : GoodIn wsX1_worthBeyondFriend (wsV RX1 109 RX1 yX1_worth wsX1_worth) := goodIn_app (goodIn_of _ (by decide +kernel)) ggX1_worthBeyondFriend_X1_worth
theorem dX1_worthBeyondFriend_0 : decode cX1_worthBeyondFriend 0 = .ok (.iconst 0, 1) := by decide +kernel
theorem dX1_worthBeyondFriend_1 : decode cX1_worthBeyondFriend 1 = .ok (.istore_n 1, 1) := by decide +kernel
theorem dX1_worthBeyondFriend_2 : decode cX1_worthBeyondFriend 2 = .ok (.iconst 0, 1) := by decide +kernel
theorem dX1_worthBeyondFriend_3 : decode cX1_worthBeyondFriend 3 = .ok (.istore_n 2, 1) := by decide +kernel
theorem dX1_worthBeyondFriend_4 : decode cX1_worthBeyondFriend 4 = .ok (.iload_n 2, 1) := by decide +kernel
theorem dX1_worthBeyondFriend_5 : decode cX1_worthBeyondFriend 5 = .ok (.aload_n 0, 1) := by decide +kernel
theorem dX1_worthBeyondFriend_6 : decode cX1_worthBeyondFriend 6 = .ok (.getfield 33, 3) := by decide +kernel
theorem dX1_worthBeyondFriend_9 : decode cX1_worthBeyondFriend 9 = .ok (.if_icmp .ge 45, 3) := by decide +kernel
theorem dX1_worthBeyondFriend_12 : decode cX1_worthBeyondFriend 12 = .ok (.aload_n 0, 1) := by decide +kernel
theorem dX1_worthBeyondFriend_13 : decode cX1_worthBeyondFriend 13 = .ok (.aload_n 0, 1) := by decide +kernel
theorem dX1_worthBeyondFriend_14 : decode cX1_worthBeyondFriend 14 = .ok (.getfield 40, 3) := by decide +kernel
theorem dX1_worthBeyondFriend_17 : decode cX1_worthBeyondFriend 17 = .ok (.iload_n 2, 1) := by decide +kernel
theorem dX1_worthBeyondFriend_18 : decode cX1_worthBeyondFriend 18 = .ok (.invokevirtual 95, 3) := by decide +kernel
theorem dX1_worthBeyondFriend_21 : decode cX1_worthBeyondFriend 21 = .ok (.ifCond .eq 27, 3) := by decide +kernel
theorem dX1_worthBeyondFriend_24 : decode cX1_worthBeyondFriend 24 = .ok (.aload_n 0, 1) := by decide +kernel
theorem dX1_worthBeyondFriend_25 : decode cX1_worthBeyondFriend 25 = .ok (.aload_n 0, 1) := by decide +kernel
theorem dX1_worthBeyondFriend_26 : decode cX1_worthBeyondFriend 26 = .ok (.getfield 43, 3) := by decide +kernel
theorem dX1_worthBeyondFriend_29 : decode cX1_worthBeyondFriend 29 = .ok (.iload_n 2, 1) := by decide +kernel
theorem dX1_worthBeyondFriend_30 : decode cX1_worthBeyondFriend 30 = .ok (.invokevirtual 95, 3) := by decide +kernel
theorem dX1_worthBeyondFriend_33 : decode cX1_worthBeyondFriend 33 = .ok (.ifCond .ne 15, 3) := by decide +kernel
theorem dX1_worthBeyondFriend_36 : decode cX1_worthBeyondFriend 36 = .ok (.iload_n 1, 1) := by decide +kernel
theorem dX1_worthBeyondFriend_37 : decode cX1_worthBeyondFriend 37 = .ok (.aload_n 0, 1) := by decide +kernel
theorem dX1_worthBeyondFriend_38 : decode cX1_worthBeyondFriend 38 = .ok (.aload_n 0, 1) := by decide +kernel
theorem dX1_worthBeyondFriend_39 : decode cX1_worthBeyondFriend 39 = .ok (.iload_n 2, 1) := by decide +kernel
theorem dX1_worthBeyondFriend_40 : decode cX1_worthBeyondFriend 40 = .ok (.invokevirtual 98, 3) := by decide +kernel
theorem dX1_worthBeyondFriend_43 : decode cX1_worthBeyondFriend 43 = .ok (.invokevirtual 71, 3) := by decide +kernel
theorem dX1_worthBeyondFriend_46 : decode cX1_worthBeyondFriend 46 = .ok (.ior, 1) := by decide +kernel
theorem dX1_worthBeyondFriend_47 : decode cX1_worthBeyondFriend 47 = .ok (.istore_n 1, 1) := by decide +kernel
theorem dX1_worthBeyondFriend_48 : decode cX1_worthBeyondFriend 48 = .ok (.iinc 2 1, 3) := by decide +kernel
theorem dX1_worthBeyondFriend_51 : decode cX1_worthBeyondFriend 51 = .ok (.goto (-47), 3) := by decide +kernel
theorem dX1_worthBeyondFriend_54 : decode cX1_worthBeyondFriend 54 = .ok (.aload_n 0, 1) := by decide +kernel
theorem dX1_worthBeyondFriend_55 : decode cX1_worthBeyondFriend 55 = .ok (.iload_n 1, 1) := by decide +kernel
theorem dX1_worthBeyondFriend_56 : decode cX1_worthBeyondFriend 56 = .ok (.invokevirtual 109, 3) := by decide +kernel
theorem dX1_worthBeyondFriend_59 : decode cX1_worthBeyondFriend 59 = .ok (.ireturn, 1) := by decide +kernel
theorem dX2_init_0 : decode cX2_init 0 = .ok (.aload_n 0, 1) := by decide +kernel
theorem dX2_init_1 : decode cX2_init 1 = .ok (.invokespecial 3, 3) := by decide +kernel
theorem dX2_init_4 : decode cX2_init 4 = .ok (.aload_n 0, 1) := by decide +kernel
theorem dX2_init_5 : decode cX2_init 5 = .ok (.bipush 64, 2) := by decide +kernel
theorem dX2_init_7 : decode cX2_init 7 = .ok (.newarray .int, 2) := by decide +kernel
theorem dX2_init_9 : decode cX2_init 9 = .ok (.putfield 9, 3) := by decide +kernel
theorem dX2_init_12 : decode cX2_init 12 = .ok (.return_, 1) := by decide +kernel
theorem dX2_add_0 : decode cX2_add 0 = .ok (.aload_n 0, 1) := by decide +kernel
theorem dX2_add_1 : decode cX2_add 1 = .ok (.getfield 15, 3) := by decide +kernel
theorem dX2_add_4 : decode cX2_add 4 = .ok (.bipush 64, 2) := by decide +kernel
theorem dX2_add_6 : decode cX2_add 6 = .ok (.if_icmp .lt 5, 3) := by decide +kernel
theorem dX2_add_9 : decode cX2_add 9 = .ok (.iconst 0, 1) := by decide +kernel
theorem dX2_add_10 : decode cX2_add 10 = .ok (.ireturn, 1) := by decide +kernel
theorem dX2_add_11 : decode cX2_add 11 = .ok (.aload_n 0, 1) := by decide +kernel
theorem dX2_add_12 : decode cX2_add 12 = .ok (.getfield 9, 3) := by decide +kernel
theorem dX2_add_15 : decode cX2_add 15 = .ok (.aload_n 0, 1) := by decide +kernel
theorem dX2_add_16 : decode cX2_add 16 = .ok (.getfield 15, 3) := by decide +kernel
theorem dX2_add_19 : decode cX2_add 19 = .ok (.iload_n 1, 1) := by decide +kernel
theorem dX2_add_20 : decode cX2_add 20 = .ok (.iastore, 1) := by decide +kernel
theorem dX2_add_21 : decode cX2_add 21 = .ok (.aload_n 0, 1) := by decide +kernel
theorem dX2_add_22 : decode cX2_add 22 = .ok (.dup, 1) := by decide +kernel
theorem dX2_add_23 : decode cX2_add 23 = .ok (.getfield 15, 3) := by decide +kernel
theorem dX2_add_26 : decode cX2_add 26 = .ok (.iconst 1, 1) := by decide +kernel
theorem dX2_add_27 : decode cX2_add 27 = .ok (.iadd, 1) := by decide +kernel
theorem dX2_add_28 : decode cX2_add 28 = .ok (.putfield 15, 3) := by decide +kernel
theorem dX2_add_31 : decode cX2_add 31 = .ok (.iconst 1, 1) := by decide +kernel
theorem dX2_add_32 : decode cX2_add 32 = .ok (.ireturn, 1) := by decide +kernel
theorem dX2_sign_0 : decode cX2_sign 0 = .ok (.iload_n 1, 1) := by decide +kernel
theorem dX2_sign_1 : decode cX2_sign 1 = .ok (.ifCond .lt 26, 3) := by decide +kernel
theorem dX2_sign_4 : decode cX2_sign 4 = .ok (.iload_n 1, 1) := by decide +kernel
theorem dX2_sign_5 : decode cX2_sign 5 = .ok (.aload_n 0, 1) := by decide +kernel
theorem dX2_sign_6 : decode cX2_sign 6 = .ok (.getfield 15, 3) := by decide +kernel
theorem dX2_sign_9 : decode cX2_sign 9 = .ok (.if_icmp .ge 18, 3) := by decide +kernel
theorem dX2_sign_12 : decode cX2_sign 12 = .ok (.iload_n 1, 1) := by decide +kernel
theorem dX2_sign_13 : decode cX2_sign 13 = .ok (.bipush 64, 2) := by decide +kernel
theorem dX2_sign_15 : decode cX2_sign 15 = .ok (.if_icmp .ge 12, 3) := by decide +kernel
theorem dX2_sign_18 : decode cX2_sign 18 = .ok (.aload_n 0, 1) := by decide +kernel
theorem dX2_sign_19 : decode cX2_sign 19 = .ok (.getfield 9, 3) := by decide +kernel
theorem dX2_sign_22 : decode cX2_sign 22 = .ok (.iload_n 1, 1) := by decide +kernel
theorem dX2_sign_23 : decode cX2_sign 23 = .ok (.iaload, 1) := by decide +kernel
theorem dX2_sign_24 : decode cX2_sign 24 = .ok (.goto 4, 3) := by decide +kernel
theorem dX2_sign_27 : decode cX2_sign 27 = .ok (.iconst (-1), 1) := by decide +kernel
theorem dX2_sign_28 : decode cX2_sign 28 = .ok (.ireturn, 1) := by decide +kernel
set_option maxRecDepth 20000 in
theorem ggX2_digit_X2_sign : GoodIn wsX2_digit wsX2_sign := goodIn_r _ [5, 6, 7, 8, 9] (by decide +kernel) (by decide +kernel)
set_option maxRecDepth 20000 in
theorem gX2_digit_X2_sign : GoodIn wsX2_digit (wsV RX2 19 RX2 yX2_sign wsX2_sign) := goodIn_app (goodIn_of _ (by decide +kernel)) ggX2_digit_X2_sign
theorem dX2_digit_0 : decode cX2_digit 0 = .ok (.aload_n 0, 1) := by decide +kernel
theorem dX2_digit_1 : decode cX2_digit 1 = .ok (.iload_n 1, 1) := by decide +kernel
theorem dX2_digit_2 : decode cX2_digit 2 = .ok (.invokevirtual 19, 3) := by decide +kernel
theorem dX2_digit_5 : decode cX2_digit 5 = .ok (.bipush 48, 2) := by decide +kernel
theorem dX2_digit_7 : decode cX2_digit 7 = .ok (.isub, 1) := by decide +kernel
theorem dX2_digit_8 : decode cX2_digit 8 = .ok (.ireturn, 1) := by decide +kernel
set_option maxRecDepth 20000 in
theorem ggX2_number_X2_digit : GoodIn wsX2_number wsX2_digit := goodIn_r _ [5, 6, 7, 8, 4, 9, 10, 11, 12, 13] (by decide +kernel) (by decide +kernel)
set_option maxRecDepth 20000 in
theorem gX2_number_X2_digit : GoodIn wsX2_number (wsV RX2 23 RX2 yX2_digit wsX2_digit) := goodIn_app (goodIn_of _ (by decide +kernel)) ggX2_number_X2_digit
theorem dX2_number_0 : decode cX2_number 0 = .ok (.bipush 10, 2) := by decide +kernel
theorem dX2_number_2 : decode cX2_number 2 = .ok (.aload_n 0, 1) := by decide +kernel
theorem dX2_number_3 : decode cX2_number 3 = .ok (.iload_n 1, 1) := by decide +kernel
theorem dX2_number_4 : decode cX2_number 4 = .ok (.invokevirtual 23, 3) := by decide +kernel
theorem dX2_number_7 : decode cX2_number 7 = .ok (.imul, 1) := by decide +kernel
theorem dX2_number_8 : decode cX2_number 8 = .ok (.aload_n 0, 1) := by decide +kernel
theorem dX2_number_9 : decode cX2_number 9 = .ok (.iload_n 1, 1) := by decide +kernel
theorem dX2_number_10 : decode cX2_number 10 = .ok (.iconst 1, 1) := by decide +kernel
theorem dX2_number_11 : decode cX2_number 11 = .ok (.iadd, 1) := by decide +kernel
theorem dX2_number_12 : decode cX2_number 12 = .ok (.invokevirtual 23, 3) := by decide +kernel
theorem dX2_number_15 : decode cX2_number 15 = .ok (.iadd, 1) := by decide +kernel
theorem dX2_number_16 : decode cX2_number 16 = .ok (.ireturn, 1) := by decide +kernel
set_option maxRecDepth 20000 in
theorem ggX2_kind_X2_sign : GoodIn wsX2_kind wsX2_sign := goodIn_r _ [5, 6, 7, 97, 98] (by decide +kernel) (by decide +kernel)
set_option maxRecDepth 20000 in
theorem gX2_kind_X2_sign : GoodIn wsX2_kind (wsV RX2 19 RX2 yX2_sign wsX2_sign) := goodIn_app (goodIn_of _ (by decide +kernel)) ggX2_kind_X2_sign
set_option maxRecDepth 20000 in
theorem ggX2_kind_J0_indexOf_0f7a4 : GoodIn wsX2_kind wsJ0_indexOf_0f7a4 := goodIn_r _ [12, 13, 14, 15, 11, 16, 17, 18, 19, 20, 21, 22, 23, 24, 25, 26, 27, 28, 29, 30, 31, 32, 33, 34, 35, 36, 37, 38, 39, 40, 41, 42, 43, 44, 45, 46, 47, 48, 49, 50, 51, 52, 53, 54, 55, 56, 57, 58, 59, 60, 61, 62, 63, 64, 65, 66, 67, 68, 69, 70, 71, 72, 73, 74, 75, 76, 77, 78, 79, 80, 81, 82, 83, 84, 85, 86, 87, 88, 89, 90, 91, 92, 93, 94, 95, 96] (by decide +kernel) (by decide +kernel)
set_option maxRecDepth 20000 in
theorem gX2_kind_J0_indexOf_0f7a4 : GoodIn wsX2_kind (wsV RX2 28 RJ0 yJ0_indexOf_0f7a4 wsJ0_indexOf_0f7a4) := goodIn_app (goodIn_of _ (by decide +kernel)) ggX2_kind_J0_indexOf_0f7a4
theorem dX2_kind_0 : decode cX2_kind 0 = .ok (.aload_n 0, 1) := by decide +kernel
theorem dX2_kind_1 : decode cX2_kind 1 = .ok (.iload_n 1, 1) := by decide +kernel
theorem dX2_kind_2 : decode cX2_kind 2 = .ok (.invokevirtual 19, 3) := by decide +kernel
theorem dX2_kind_5 : decode cX2_kind 5 = .ok (.istore_n 2, 1) := by decide +kernel
theorem dX2_kind_6 : decode cX2_kind 6 = .ok (.iload_n 2, 1) := by decide +kernel
theorem dX2_kind_7 : decode cX2_kind 7 = .ok (.ifCond .ge 7, 3) := by decide +kernel
theorem dX2_kind_10 : decode cX2_kind 10 = .ok (.iconst (-1), 1) := by decide +kernel
theorem dX2_kind_11 : decode cX2_kind 11 = .ok (.goto 10, 3) := by decide +kernel
theorem dX2_kind_14 : decode cX2_kind 14 = .ok (.ldc 26, 2) := by decide +kernel
theorem dX2_kind_16 : decode cX2_kind 16 = .ok (.iload_n 2, 1) := by decide +kernel
theorem dX2_kind_17 : decode cX2_kind 17 = .ok (.i2c, 1) := by decide +kernel
theorem dX2_kind_18 : decode cX2_kind 18 = .ok (.invokevirtual 28, 3) := by decide +kernel
theorem dX2_kind_21 : decode cX2_kind 21 = .ok (.ireturn, 1) := by decide +kernel
set_option maxRecDepth 20000 in
theorem ggX2_stuckPlace_X2_sign : GoodIn wsX2_stuckPlace wsX2_sign := goodIn_r _ [6, 1, 7, 137, 138] (by decide +kernel) (by decide +kernel)
set_option maxRecDepth 20000 in
theorem gX2_stuckPlace_X2_sign : GoodIn wsX2_stuckPlace (wsV RX2 19 RX2 yX2_sign wsX2_sign) := goodIn_app (goodIn_of _ (by decide +kernel)) ggX2_stuckPlace_X2_sign
set_option maxRecDepth 20000 in
theorem ggX2_stuckPlace_X2_shapeFrom : GoodIn wsX2_stuckPlace wsX2_shapeFrom := goodIn_r _ [10] (by decide +kernel) (by decide +kernel)
set_option maxRecDepth 20000 in
theorem gX2_stuckPlace_X2_shapeFrom : GoodIn wsX2_stuckPlace (va_wsS RX2 33 yX2_shapeFrom wsX2_shapeFrom) := goodIn_app (goodIn_of _ (by decide +kernel)) ggX2_stuckPlace_X2_shapeFrom
set_option maxRecDepth 20000 in
theorem ggX2_stuckPlace_J0_isEmpty_aae02 : GoodIn wsX2_stuckPlace wsJ0_isEmpty_aae02 := goodIn_r _ [15, 16] (by decide +kernel) (by decide +kernel)
set_option maxRecDepth 20000 in
theorem gX2_stuckPlace_J0_isEmpty_aae02 : GoodIn wsX2_stuckPlace (wsV RX2 37 RJ0 yJ0_isEmpty_aae02 wsJ0_isEmpty_aae02) := goodIn_app (goodIn_of _ (by decide +kernel)) ggX2_stuckPlace_J0_isEmpty_aae02
set_option maxRecDepth 20000 in
theorem ggX2_stuckPlace_J0_length_8abf5 : GoodIn wsX2_stuckPlace wsJ0_length_8abf5 := goodIn_r _ [20, 16, 21, 22, 23, 14, 24, 25, 26] (by decide +kernel) (by decide +kernel)
set_option maxRecDepth 20000 in
theorem gX2_stuckPlace_J0_length_8abf5 : GoodIn wsX2_stuckPlace (wsV RX2 41 RJ0 yJ0_length_8abf5 wsJ0_length_8abf5) := goodIn_app (goodIn_of _ (by decide +kernel)) ggX2_stuckPlace_J0_length_8abf5
set_option maxRecDepth 20000 in
theorem ggX2_stuckPlace_J0_charAt_5068e : GoodIn wsX2_stuckPlace wsJ0_charAt_5068e := goodIn_r _ [30, 16, 31, 32, 33, 14, 34, 25, 26, 35, 36, 37, 38, 39, 40, 41, 42, 43, 44, 45, 46, 47, 48, 49, 50, 51, 52, 53, 54, 55, 56, 57, 58, 59, 60, 61, 62, 63] (by decide +kernel) (by decide +kernel)
set_option maxRecDepth 20000 in
theorem gX2_stuckPlace_J0_charAt_5068e : GoodIn wsX2_stuckPlace (wsV RX2 45 RJ0 yJ0_charAt_5068e wsJ0_charAt_5068e) := goodIn_app (goodIn_of _ (by decide +kernel)) ggX2_stuckPlace_J0_charAt_5068e
set_option maxRecDepth 20000 in
theorem ggX2_stuckPlace_X2_suits : GoodIn wsX2_stuckPlace wsX2_suits := goodIn_r _ [67, 68, 69, 70, 5, 71, 2, 3, 4, 6, 1, 7, 72, 73, 74, 75, 76, 77, 78, 14, 79, 80, 81, 82, 83, 16, 31, 32, 33, 34, 25, 26, 84, 18, 19, 20, 21, 22, 23, 24, 85, 86, 37, 87, 88, 89, 90, 91, 92, 93, 94, 95, 96, 97, 98, 99, 100, 101, 102, 49, 103, 104, 105, 106, 107, 108, 109, 110, 111, 112, 54, 55, 56, 113, 114, 115, 42, 116, 117, 45, 118, 119, 120, 121, 58, 59, 60, 61, 62, 63, 122, 123, 124, 125, 126, 127, 128, 129, 130, 131, 132, 133, 134, 135, 136, 137, 138] (by decide +kernel) (by decide +kernel)
set_option maxRecDepth 20000 in
theorem gX2_stuckPlace_X2_suits : GoodIn wsX2_stuckPlace (wsV RX2 49 RX2 yX2_suits wsX2_suits) := goodIn_app (goodIn_of _ (by decide +kernel)) ggX2_stuckPlace_X2_suits
theorem dX2_stuckPlace_0 : decode cX2_stuckPlace 0 = .ok (.iconst 0, 1) := by decide +kernel
theorem dX2_stuckPlace_1 : decode cX2_stuckPlace 1 = .ok (.istore_n 1, 1) := by decide +kernel
theorem dX2_stuckPlace_2 : decode cX2_stuckPlace 2 = .ok (.aload_n 0, 1) := by decide +kernel
theorem dX2_stuckPlace_3 : decode cX2_stuckPlace 3 = .ok (.iload_n 1, 1) := by decide +kernel
theorem dX2_stuckPlace_4 : decode cX2_stuckPlace 4 = .ok (.invokevirtual 19, 3) := by decide +kernel
theorem dX2_stuckPlace_7 : decode cX2_stuckPlace 7 = .ok (.invokestatic 33, 3) := by decide +kernel
theorem dX2_stuckPlace_10 : decode cX2_stuckPlace 10 = .ok (.astore_n 2, 1) := by decide +kernel
theorem dX2_stuckPlace_11 : decode cX2_stuckPlace 11 = .ok (.aload_n 2, 1) := by decide +kernel
theorem dX2_stuckPlace_12 : decode cX2_stuckPlace 12 = .ok (.invokevirtual 37, 3) := by decide +kernel
theorem dX2_stuckPlace_15 : decode cX2_stuckPlace 15 = .ok (.ifCond .eq 5, 3) := by decide +kernel
theorem dX2_stuckPlace_18 : decode cX2_stuckPlace 18 = .ok (.iload_n 1, 1) := by decide +kernel
theorem dX2_stuckPlace_19 : decode cX2_stuckPlace 19 = .ok (.ireturn, 1) := by decide +kernel
theorem dX2_stuckPlace_20 : decode cX2_stuckPlace 20 = .ok (.iconst 1, 1) := by decide +kernel
theorem dX2_stuckPlace_21 : decode cX2_stuckPlace 21 = .ok (.istore_n 3, 1) := by decide +kernel
theorem dX2_stuckPlace_22 : decode cX2_stuckPlace 22 = .ok (.iload_n 3, 1) := by decide +kernel
theorem dX2_stuckPlace_23 : decode cX2_stuckPlace 23 = .ok (.aload_n 2, 1) := by decide +kernel
theorem dX2_stuckPlace_24 : decode cX2_stuckPlace 24 = .ok (.invokevirtual 41, 3) := by decide +kernel
theorem dX2_stuckPlace_27 : decode cX2_stuckPlace 27 = .ok (.if_icmp .ge 27, 3) := by decide +kernel
theorem dX2_stuckPlace_30 : decode cX2_stuckPlace 30 = .ok (.iinc 1 1, 3) := by decide +kernel
theorem dX2_stuckPlace_33 : decode cX2_stuckPlace 33 = .ok (.aload_n 0, 1) := by decide +kernel
theorem dX2_stuckPlace_34 : decode cX2_stuckPlace 34 = .ok (.iload_n 1, 1) := by decide +kernel
theorem dX2_stuckPlace_35 : decode cX2_stuckPlace 35 = .ok (.aload_n 2, 1) := by decide +kernel
theorem dX2_stuckPlace_36 : decode cX2_stuckPlace 36 = .ok (.iload_n 3, 1) := by decide +kernel
theorem dX2_stuckPlace_37 : decode cX2_stuckPlace 37 = .ok (.invokevirtual 45, 3) := by decide +kernel
theorem dX2_stuckPlace_40 : decode cX2_stuckPlace 40 = .ok (.invokevirtual 49, 3) := by decide +kernel
theorem dX2_stuckPlace_43 : decode cX2_stuckPlace 43 = .ok (.ifCond .ne 5, 3) := by decide +kernel
theorem dX2_stuckPlace_46 : decode cX2_stuckPlace 46 = .ok (.iload_n 1, 1) := by decide +kernel
theorem dX2_stuckPlace_47 : decode cX2_stuckPlace 47 = .ok (.ireturn, 1) := by decide +kernel
theorem dX2_stuckPlace_48 : decode cX2_stuckPlace 48 = .ok (.iinc 3 1, 3) := by decide +kernel
theorem dX2_stuckPlace_51 : decode cX2_stuckPlace 51 = .ok (.goto (-29), 3) := by decide +kernel
theorem dX2_stuckPlace_54 : decode cX2_stuckPlace 54 = .ok (.iinc 1 1, 3) := by decide +kernel
theorem dX2_stuckPlace_57 : decode cX2_stuckPlace 57 = .ok (.iload_n 1, 1) := by decide +kernel
theorem dX2_stuckPlace_58 : decode cX2_stuckPlace 58 = .ok (.aload_n 0, 1) := by decide +kernel
theorem dX2_stuckPlace_59 : decode cX2_stuckPlace 59 = .ok (.getfield 15, 3) := by decide +kernel
theorem dX2_stuckPlace_62 : decode cX2_stuckPlace 62 = .ok (.if_icmp .lt (-60), 3) := by decide +kernel
theorem dX2_stuckPlace_65 : decode cX2_stuckPlace 65 = .ok (.iconst (-1), 1) := by decide +kernel
theorem dX2_stuckPlace_66 : decode cX2_stuckPlace 66 = .ok (.ireturn, 1) := by decide +kernel
theorem dX2_shapeFrom_0 : decode cX2_shapeFrom 0 = .ok (.iload_n 0, 1) := by decide +kernel
theorem dX2_shapeFrom_1 : decode cX2_shapeFrom 1 = .ok (.lookupswitch 55 #[(101, 43), (102, 52), (106, 46), (117, 49)], 43) := by decide +kernel
theorem dX2_shapeFrom_44 : decode cX2_shapeFrom 44 = .ok (.ldc 53, 2) := by decide +kernel
theorem dX2_shapeFrom_46 : decode cX2_shapeFrom 46 = .ok (.areturn, 1) := by decide +kernel
theorem dX2_shapeFrom_47 : decode cX2_shapeFrom 47 = .ok (.ldc 55, 2) := by decide +kernel
theorem dX2_shapeFrom_49 : decode cX2_shapeFrom 49 = .ok (.areturn, 1) := by decide +kernel
theorem dX2_shapeFrom_50 : decode cX2_shapeFrom 50 = .ok (.ldc 57, 2) := by decide +kernel
theorem dX2_shapeFrom_52 : decode cX2_shapeFrom 52 = .ok (.areturn, 1) := by decide +kernel
theorem dX2_shapeFrom_53 : decode cX2_shapeFrom 53 = .ok (.ldc 59, 2) := by decide +kernel
theorem dX2_shapeFrom_55 : decode cX2_shapeFrom 55 = .ok (.areturn, 1) := by decide +kernel
theorem dX2_shapeFrom_56 : decode cX2_shapeFrom 56 = .ok (.ldc 61, 2) := by decide +kernel
theorem dX2_shapeFrom_58 : decode cX2_shapeFrom 58 = .ok (.areturn, 1) := by decide +kernel
set_option maxRecDepth 20000 in
theorem ggX2_suits_X2_digit : GoodIn wsX2_suits wsX2_digit := goodIn_r _ [5, 6, 7, 8, 4, 9, 10, 11, 105, 106] (by decide +kernel) (by decide +kernel)
set_option maxRecDepth 20000 in
theorem gX2_suits_X2_digit : GoodIn wsX2_suits (wsV RX2 23 RX2 yX2_digit wsX2_digit) := goodIn_app (goodIn_of _ (by decide +kernel)) ggX2_suits_X2_digit
set_option maxRecDepth 20000 in
theorem ggX2_suits_X2_kind : GoodIn wsX2_suits wsX2_kind := goodIn_r _ [15, 6, 7, 8, 4, 9, 10, 11, 16, 17, 18, 19, 20, 21, 22, 23, 24, 25, 26, 27, 28, 29, 30, 31, 32, 33, 34, 35, 36, 37, 38, 39, 40, 41, 42, 43, 44, 45, 46, 47, 48, 49, 50, 51, 52, 53, 54, 55, 56, 57, 58, 59, 60, 61, 62, 63, 64, 65, 66, 67, 68, 69, 70, 71, 72, 73, 74, 75, 76, 77, 78, 79, 80, 81, 82, 83, 84, 85, 86, 87, 88, 89, 90, 91, 92, 93, 94, 95, 96, 97, 98, 99, 100, 101, 102, 103, 104, 105, 106] (by decide +kernel) (by decide +kernel)
set_option maxRecDepth 20000 in
theorem gX2_suits_X2_kind : GoodIn wsX2_suits (wsV RX2 63 RX2 yX2_kind wsX2_kind) := goodIn_app (goodIn_of _ (by decide +kernel)) ggX2_suits_X2_kind
set_option maxRecDepth 20000 in
theorem ggX2_suits_X2_sign : GoodIn wsX2_suits wsX2_sign := goodIn_r _ [9, 10, 11, 105, 106] (by decide +kernel) (by decide +kernel)
set_option maxRecDepth 20000 in
theorem gX2_suits_X2_sign : GoodIn wsX2_suits (wsV RX2 19 RX2 yX2_sign wsX2_sign) := goodIn_app (goodIn_of _ (by decide +kernel)) ggX2_suits_X2_sign
theorem dX2_suits_0 : decode cX2_suits 0 = .ok (.iload_n 2, 1) := by decide +kernel
theorem dX2_suits_1 : decode cX2_suits 1 = .ok (.lookupswitch 65 #[(48, 27), (99, 51)], 27) := by decide +kernel
theorem dX2_suits_28 : decode cX2_suits 28 = .ok (.aload_n 0, 1) := by decide +kernel
theorem dX2_suits_29 : decode cX2_suits 29 = .ok (.iload_n 1, 1) := by decide +kernel
theorem dX2_suits_30 : decode cX2_suits 30 = .ok (.invokevirtual 23, 3) := by decide +kernel
theorem dX2_suits_33 : decode cX2_suits 33 = .ok (.ifCond .lt 17, 3) := by decide +kernel
theorem dX2_suits_36 : decode cX2_suits 36 = .ok (.aload_n 0, 1) := by decide +kernel
theorem dX2_suits_37 : decode cX2_suits 37 = .ok (.iload_n 1, 1) := by decide +kernel
theorem dX2_suits_38 : decode cX2_suits 38 = .ok (.invokevirtual 23, 3) := by decide +kernel
theorem dX2_suits_41 : decode cX2_suits 41 = .ok (.bipush 9, 2) := by decide +kernel
theorem dX2_suits_43 : decode cX2_suits 43 = .ok (.if_icmp .gt 7, 3) := by decide +kernel
theorem dX2_suits_46 : decode cX2_suits 46 = .ok (.iconst 1, 1) := by decide +kernel
theorem dX2_suits_47 : decode cX2_suits 47 = .ok (.goto 4, 3) := by decide +kernel
theorem dX2_suits_50 : decode cX2_suits 50 = .ok (.iconst 0, 1) := by decide +kernel
theorem dX2_suits_51 : decode cX2_suits 51 = .ok (.ireturn, 1) := by decide +kernel
theorem dX2_suits_52 : decode cX2_suits 52 = .ok (.aload_n 0, 1) := by decide +kernel
theorem dX2_suits_53 : decode cX2_suits 53 = .ok (.iload_n 1, 1) := by decide +kernel
theorem dX2_suits_54 : decode cX2_suits 54 = .ok (.invokevirtual 63, 3) := by decide +kernel
theorem dX2_suits_57 : decode cX2_suits 57 = .ok (.ifCond .lt 7, 3) := by decide +kernel
theorem dX2_suits_60 : decode cX2_suits 60 = .ok (.iconst 1, 1) := by decide +kernel
theorem dX2_suits_61 : decode cX2_suits 61 = .ok (.goto 4, 3) := by decide +kernel
theorem dX2_suits_64 : decode cX2_suits 64 = .ok (.iconst 0, 1) := by decide +kernel
theorem dX2_suits_65 : decode cX2_suits 65 = .ok (.ireturn, 1) := by decide +kernel
theorem dX2_suits_66 : decode cX2_suits 66 = .ok (.aload_n 0, 1) := by decide +kernel
theorem dX2_suits_67 : decode cX2_suits 67 = .ok (.iload_n 1, 1) := by decide +kernel
theorem dX2_suits_68 : decode cX2_suits 68 = .ok (.invokevirtual 19, 3) := by decide +kernel
theorem dX2_suits_71 : decode cX2_suits 71 = .ok (.iload_n 2, 1) := by decide +kernel
theorem dX2_suits_72 : decode cX2_suits 72 = .ok (.if_icmp .ne 7, 3) := by decide +kernel
theorem dX2_suits_75 : decode cX2_suits 75 = .ok (.iconst 1, 1) := by decide +kernel
theorem dX2_suits_76 : decode cX2_suits 76 = .ok (.goto 4, 3) := by decide +kernel
theorem dX2_suits_79 : decode cX2_suits 79 = .ok (.iconst 0, 1) := by decide +kernel
theorem dX2_suits_80 : decode cX2_suits 80 = .ok (.ireturn, 1) := by decide +kernel
theorem dX3_init_0 : decode cX3_init 0 = .ok (.aload_n 0, 1) := by decide +kernel
theorem dX3_init_1 : decode cX3_init 1 = .ok (.invokespecial 3, 3) := by decide +kernel
theorem dX3_init_4 : decode cX3_init 4 = .ok (.aload_n 0, 1) := by decide +kernel
theorem dX3_init_5 : decode cX3_init 5 = .ok (.bipush 25, 2) := by decide +kernel
theorem dX3_init_7 : decode cX3_init 7 = .ok (.newarray .int, 2) := by decide +kernel
theorem dX3_init_9 : decode cX3_init 9 = .ok (.putfield 9, 3) := by decide +kernel
theorem dX3_init_12 : decode cX3_init 12 = .ok (.aload_n 0, 1) := by decide +kernel
theorem dX3_init_13 : decode cX3_init 13 = .ok (.iconst 5, 1) := by decide +kernel
theorem dX3_init_14 : decode cX3_init 14 = .ok (.newarray .int, 2) := by decide +kernel
theorem dX3_init_16 : decode cX3_init 16 = .ok (.putfield 15, 3) := by decide +kernel
theorem dX3_init_19 : decode cX3_init 19 = .ok (.aload_n 0, 1) := by decide +kernel
theorem dX3_init_20 : decode cX3_init 20 = .ok (.iconst 5, 1) := by decide +kernel
theorem dX3_init_21 : decode cX3_init 21 = .ok (.newarray .int, 2) := by decide +kernel
theorem dX3_init_23 : decode cX3_init 23 = .ok (.putfield 18, 3) := by decide +kernel
theorem dX3_init_26 : decode cX3_init 26 = .ok (.return_, 1) := by decide +kernel
set_option maxRecDepth 20000 in
theorem ggX3_search_X4_newAt : GoodIn wsX3_search wsX4_newAt := goodIn_r _ [7, 8, 9, 10, 11, 12, 13, 14, 15, 16, 17, 18, 19, 20, 21, 22, 23, 24, 25, 26, 27, 28, 29, 30, 31, 32, 33, 34, 35, 36, 37, 38, 39, 40, 41, 42, 43, 44, 45, 46, 47, 48, 49, 83, 84, 85, 86, 87, 88, 89, 90, 91, 92, 93, 94] (by decide +kernel) (by decide +kernel)
set_option maxRecDepth 20000 in
theorem gX3_search_X4_newAt_n27 : GoodIn wsX3_search (wsX4_newAt) := ggX3_search_X4_newAt
set_option maxRecDepth 20000 in
theorem ggX3_search_X1_worth : GoodIn wsX3_search wsX1_worth := goodIn_r _ [52, 53, 54, 55, 56, 57, 58, 59, 60, 86, 87, 88, 89, 90, 91, 92, 93, 94] (by decide +kernel) (by decide +kernel)
set_option maxRecDepth 20000 in
theorem gX3_search_X1_worth_n38 : GoodIn wsX3_search (wsX1_worth) := ggX3_search_X1_worth
set_option maxRecDepth 20000 in
theorem ggX3_search_X3_extend : GoodIn wsX3_search wsX3_extend := goodIn_r _ [64, 2, 3, 65, 66, 67, 48, 68, 1, 50, 10, 51, 52, 53, 54, 55, 56, 57, 58, 59, 60, 69, 70, 71, 63, 72, 73, 74, 75, 76, 77, 61, 62, 78, 79, 80, 81, 82, 86, 87, 88, 89, 90, 91, 92, 93, 94] (by decide +kernel) (by decide +kernel)
set_option maxRecDepth 20000 in
theorem gX3_search_X3_extend : GoodIn wsX3_search (va_wsS RX3 47 yX3_extend wsX3_extend) := goodIn_app (goodIn_of _ (by decide +kernel)) ggX3_search_X3_extend
theorem dX3_search_0 : decode cX3_search 0 = .ok (.iconst 0, 1) := by decide +kernel
theorem dX3_search_1 : decode cX3_search 1 = .ok (.istore 4, 2) := by decide +kernel
theorem dX3_search_3 : decode cX3_search 3 = .ok (.iconst 0, 1) := by decide +kernel
theorem dX3_search_4 : decode cX3_search 4 = .ok (.istore 5, 2) := by decide +kernel
theorem dX3_search_6 : decode cX3_search 6 = .ok (.iload 5, 2) := by decide +kernel
theorem dX3_search_8 : decode cX3_search 8 = .ok (.iload_n 2, 1) := by decide +kernel
theorem dX3_search_9 : decode cX3_search 9 = .ok (.iconst 5, 1) := by decide +kernel
theorem dX3_search_10 : decode cX3_search 10 = .ok (.imul, 1) := by decide +kernel
theorem dX3_search_11 : decode cX3_search 11 = .ok (.if_icmp .ge 55, 3) := by decide +kernel
theorem dX3_search_14 : decode cX3_search 14 = .ok (.iload 5, 2) := by decide +kernel
theorem dX3_search_16 : decode cX3_search 16 = .ok (.aload_n 0, 1) := by decide +kernel
theorem dX3_search_17 : decode cX3_search 17 = .ok (.getfield 9, 3) := by decide +kernel
theorem dX3_search_20 : decode cX3_search 20 = .ok (.arraylength, 1) := by decide +kernel
theorem dX3_search_21 : decode cX3_search 21 = .ok (.if_icmp .ge 45, 3) := by decide +kernel
theorem dX3_search_24 : decode cX3_search 24 = .ok (.aload_n 0, 1) := by decide +kernel
theorem dX3_search_25 : decode cX3_search 25 = .ok (.getfield 9, 3) := by decide +kernel
theorem dX3_search_28 : decode cX3_search 28 = .ok (.iload 5, 2) := by decide +kernel
theorem dX3_search_30 : decode cX3_search 30 = .ok (.aload_n 1, 1) := by decide +kernel
theorem dX3_search_31 : decode cX3_search 31 = .ok (.iload 5, 2) := by decide +kernel
theorem dX3_search_33 : decode cX3_search 33 = .ok (.iconst 5, 1) := by decide +kernel
theorem dX3_search_34 : decode cX3_search 34 = .ok (.irem, 1) := by decide +kernel
theorem dX3_search_35 : decode cX3_search 35 = .ok (.aload_n 1, 1) := by decide +kernel
theorem dX3_search_36 : decode cX3_search 36 = .ok (.getfield 21, 3) := by decide +kernel
theorem dX3_search_39 : decode cX3_search 39 = .ok (.iload 5, 2) := by decide +kernel
theorem dX3_search_41 : decode cX3_search 41 = .ok (.iconst 5, 1) := by decide +kernel
theorem dX3_search_42 : decode cX3_search 42 = .ok (.idiv, 1) := by decide +kernel
theorem dX3_search_43 : decode cX3_search 43 = .ok (.iadd, 1) := by decide +kernel
theorem dX3_search_44 : decode cX3_search 44 = .ok (.invokevirtual 27, 3) := by decide +kernel
theorem dX3_search_47 : decode cX3_search 47 = .ok (.iastore, 1) := by decide +kernel
theorem dX3_search_48 : decode cX3_search 48 = .ok (.iload 4, 2) := by decide +kernel
theorem dX3_search_50 : decode cX3_search 50 = .ok (.aload_n 0, 1) := by decide +kernel
theorem dX3_search_51 : decode cX3_search 51 = .ok (.getfield 9, 3) := by decide +kernel
theorem dX3_search_54 : decode cX3_search 54 = .ok (.iload 5, 2) := by decide +kernel
theorem dX3_search_56 : decode cX3_search 56 = .ok (.iaload, 1) := by decide +kernel
theorem dX3_search_57 : decode cX3_search 57 = .ok (.ior, 1) := by decide +kernel
theorem dX3_search_58 : decode cX3_search 58 = .ok (.istore 4, 2) := by decide +kernel
theorem dX3_search_60 : decode cX3_search 60 = .ok (.iinc 5 1, 3) := by decide +kernel
theorem dX3_search_63 : decode cX3_search 63 = .ok (.goto (-57), 3) := by decide +kernel
theorem dX3_search_66 : decode cX3_search 66 = .ok (.aload_n 0, 1) := by decide +kernel
theorem dX3_search_67 : decode cX3_search 67 = .ok (.iconst (-1), 1) := by decide +kernel
theorem dX3_search_68 : decode cX3_search 68 = .ok (.putfield 31, 3) := by decide +kernel
theorem dX3_search_71 : decode cX3_search 71 = .ok (.aload_n 0, 1) := by decide +kernel
theorem dX3_search_72 : decode cX3_search 72 = .ok (.aload_n 1, 1) := by decide +kernel
theorem dX3_search_73 : decode cX3_search 73 = .ok (.getfield 34, 3) := by decide +kernel
theorem dX3_search_76 : decode cX3_search 76 = .ok (.iload 4, 2) := by decide +kernel
theorem dX3_search_78 : decode cX3_search 78 = .ok (.invokevirtual 38, 3) := by decide +kernel
theorem dX3_search_81 : decode cX3_search 81 = .ok (.putfield 44, 3) := by decide +kernel
theorem dX3_search_84 : decode cX3_search 84 = .ok (.aload_n 0, 1) := by decide +kernel
theorem dX3_search_85 : decode cX3_search 85 = .ok (.aload_n 1, 1) := by decide +kernel
theorem dX3_search_86 : decode cX3_search 86 = .ok (.getfield 34, 3) := by decide +kernel
theorem dX3_search_89 : decode cX3_search 89 = .ok (.iload_n 2, 1) := by decide +kernel
theorem dX3_search_90 : decode cX3_search 90 = .ok (.iconst 0, 1) := by decide +kernel
theorem dX3_search_91 : decode cX3_search 91 = .ok (.iload_n 3, 1) := by decide +kernel
theorem dX3_search_92 : decode cX3_search 92 = .ok (.iconst 0, 1) := by decide +kernel
theorem dX3_search_93 : decode cX3_search 93 = .ok (.invokestatic 47, 3) := by decide +kernel
theorem dX3_search_96 : decode cX3_search 96 = .ok (.return_, 1) := by decide +kernel
set_option maxRecDepth 20000 in
theorem ggX3_extend_X1_worth : GoodIn wsX3_extend wsX1_worth := goodIn_r _ [12, 13, 14, 15, 16, 17, 18, 19, 20, 38, 39, 40, 41, 42, 43, 44, 45, 46] (by decide +kernel) (by decide +kernel)
set_option maxRecDepth 20000 in
theorem gX3_extend_X1_worth_n38 : GoodIn wsX3_extend (wsX1_worth) := ggX3_extend_X1_worth
set_option maxRecDepth 20000 in
theorem ggX3_extend_X3_keepIfBetter : GoodIn wsX3_extend wsX3_keepIfBetter := goodIn_r _ [25, 1, 3, 26, 27, 28, 29, 30, 33, 34, 35, 36, 37] (by decide +kernel) (by decide +kernel)
set_option maxRecDepth 20000 in
theorem gX3_extend_X3_keepIfBetter : GoodIn wsX3_extend (wsV RX3 51 RX3 yX3_keepIfBetter wsX3_keepIfBetter) := goodIn_app (goodIn_of _ (by decide +kernel)) ggX3_extend_X3_keepIfBetter
set_option maxRecDepth 20000 in
theorem ggX3_extend_X3_extend : GoodIn wsX3_extend wsX3_extend := goodIn_r _ [0, 1, 2, 3, 4, 5, 6, 7, 8, 9, 10, 11, 12, 13, 14, 15, 16, 17, 18, 19, 20, 21, 22, 23, 24, 25, 26, 27, 28, 29, 30, 31, 32, 33, 34, 35, 36, 37, 38, 39, 40, 41, 42, 43, 44, 45, 46] (by decide +kernel) (by decide +kernel)
set_option maxRecDepth 20000 in
theorem gX3_extend_X3_extend : GoodIn wsX3_extend (va_wsS RX3 47 yX3_extend wsX3_extend) := goodIn_app (goodIn_of _ (by decide +kernel)) ggX3_extend_X3_extend
theorem dX3_extend_0 : decode cX3_extend 0 = .ok (.iload_n 3, 1) := by decide +kernel
theorem dX3_extend_1 : decode cX3_extend 1 = .ok (.iload_n 2, 1) := by decide +kernel
theorem dX3_extend_2 : decode cX3_extend 2 = .ok (.if_icmp .ge 12, 3) := by decide +kernel
theorem dX3_extend_5 : decode cX3_extend 5 = .ok (.iload_n 3, 1) := by decide +kernel
theorem dX3_extend_6 : decode cX3_extend 6 = .ok (.iconst 5, 1) := by decide +kernel
theorem dX3_extend_7 : decode cX3_extend 7 = .ok (.if_icmp .ge 7, 3) := by decide +kernel
theorem dX3_extend_10 : decode cX3_extend 10 = .ok (.iload_n 3, 1) := by decide +kernel
theorem dX3_extend_11 : decode cX3_extend 11 = .ok (.ifCond .ge 14, 3) := by decide +kernel
theorem dX3_extend_14 : decode cX3_extend 14 = .ok (.aload_n 0, 1) := by decide +kernel
theorem dX3_extend_15 : decode cX3_extend 15 = .ok (.aload_n 1, 1) := by decide +kernel
theorem dX3_extend_16 : decode cX3_extend 16 = .ok (.iload 5, 2) := by decide +kernel
theorem dX3_extend_18 : decode cX3_extend 18 = .ok (.invokevirtual 38, 3) := by decide +kernel
theorem dX3_extend_21 : decode cX3_extend 21 = .ok (.invokevirtual 51, 3) := by decide +kernel
theorem dX3_extend_24 : decode cX3_extend 24 = .ok (.return_, 1) := by decide +kernel
theorem dX3_extend_25 : decode cX3_extend 25 = .ok (.iconst 0, 1) := by decide +kernel
theorem dX3_extend_26 : decode cX3_extend 26 = .ok (.istore 6, 2) := by decide +kernel
theorem dX3_extend_28 : decode cX3_extend 28 = .ok (.iload 6, 2) := by decide +kernel
theorem dX3_extend_30 : decode cX3_extend 30 = .ok (.iconst 5, 1) := by decide +kernel
theorem dX3_extend_31 : decode cX3_extend 31 = .ok (.if_icmp .ge 87, 3) := by decide +kernel
theorem dX3_extend_34 : decode cX3_extend 34 = .ok (.aload_n 0, 1) := by decide +kernel
theorem dX3_extend_35 : decode cX3_extend 35 = .ok (.getfield 31, 3) := by decide +kernel
theorem dX3_extend_38 : decode cX3_extend 38 = .ok (.aload_n 0, 1) := by decide +kernel
theorem dX3_extend_39 : decode cX3_extend 39 = .ok (.getfield 44, 3) := by decide +kernel
theorem dX3_extend_42 : decode cX3_extend 42 = .ok (.if_icmp .ge 76, 3) := by decide +kernel
theorem dX3_extend_45 : decode cX3_extend 45 = .ok (.iload_n 3, 1) := by decide +kernel
theorem dX3_extend_46 : decode cX3_extend 46 = .ok (.ifCond .ne 7, 3) := by decide +kernel
theorem dX3_extend_49 : decode cX3_extend 49 = .ok (.iconst 0, 1) := by decide +kernel
theorem dX3_extend_50 : decode cX3_extend 50 = .ok (.goto 17, 3) := by decide +kernel
theorem dX3_extend_53 : decode cX3_extend 53 = .ok (.iload 6, 2) := by decide +kernel
theorem dX3_extend_55 : decode cX3_extend 55 = .ok (.aload_n 0, 1) := by decide +kernel
theorem dX3_extend_56 : decode cX3_extend 56 = .ok (.getfield 15, 3) := by decide +kernel
theorem dX3_extend_59 : decode cX3_extend 59 = .ok (.iload_n 3, 1) := by decide +kernel
theorem dX3_extend_60 : decode cX3_extend 60 = .ok (.iconst 1, 1) := by decide +kernel
theorem dX3_extend_61 : decode cX3_extend 61 = .ok (.isub, 1) := by decide +kernel
theorem dX3_extend_62 : decode cX3_extend 62 = .ok (.iaload, 1) := by decide +kernel
theorem dX3_extend_63 : decode cX3_extend 63 = .ok (.isub, 1) := by decide +kernel
theorem dX3_extend_64 : decode cX3_extend 64 = .ok (.invokestatic 55, 3) := by decide +kernel
theorem dX3_extend_67 : decode cX3_extend 67 = .ok (.istore 7, 2) := by decide +kernel
theorem dX3_extend_69 : decode cX3_extend 69 = .ok (.iload 7, 2) := by decide +kernel
theorem dX3_extend_71 : decode cX3_extend 71 = .ok (.iload 4, 2) := by decide +kernel
theorem dX3_extend_73 : decode cX3_extend 73 = .ok (.if_icmp .gt 39, 3) := by decide +kernel
theorem dX3_extend_76 : decode cX3_extend 76 = .ok (.aload_n 0, 1) := by decide +kernel
theorem dX3_extend_77 : decode cX3_extend 77 = .ok (.getfield 15, 3) := by decide +kernel
theorem dX3_extend_80 : decode cX3_extend 80 = .ok (.iload_n 3, 1) := by decide +kernel
theorem dX3_extend_81 : decode cX3_extend 81 = .ok (.iload 6, 2) := by decide +kernel
theorem dX3_extend_83 : decode cX3_extend 83 = .ok (.iastore, 1) := by decide +kernel
theorem dX3_extend_84 : decode cX3_extend 84 = .ok (.aload_n 0, 1) := by decide +kernel
theorem dX3_extend_85 : decode cX3_extend 85 = .ok (.aload_n 1, 1) := by decide +kernel
theorem dX3_extend_86 : decode cX3_extend 86 = .ok (.iload_n 2, 1) := by decide +kernel
theorem dX3_extend_87 : decode cX3_extend 87 = .ok (.iload_n 3, 1) := by decide +kernel
theorem dX3_extend_88 : decode cX3_extend 88 = .ok (.iconst 1, 1) := by decide +kernel
theorem dX3_extend_89 : decode cX3_extend 89 = .ok (.iadd, 1) := by decide +kernel
theorem dX3_extend_90 : decode cX3_extend 90 = .ok (.iload 4, 2) := by decide +kernel
theorem dX3_extend_92 : decode cX3_extend 92 = .ok (.iload 7, 2) := by decide +kernel
theorem dX3_extend_94 : decode cX3_extend 94 = .ok (.isub, 1) := by decide +kernel
theorem dX3_extend_95 : decode cX3_extend 95 = .ok (.iload 5, 2) := by decide +kernel
theorem dX3_extend_97 : decode cX3_extend 97 = .ok (.aload_n 0, 1) := by decide +kernel
theorem dX3_extend_98 : decode cX3_extend 98 = .ok (.getfield 9, 3) := by decide +kernel
theorem dX3_extend_101 : decode cX3_extend 101 = .ok (.iload_n 3, 1) := by decide +kernel
theorem dX3_extend_102 : decode cX3_extend 102 = .ok (.iconst 5, 1) := by decide +kernel
theorem dX3_extend_103 : decode cX3_extend 103 = .ok (.imul, 1) := by decide +kernel
theorem dX3_extend_104 : decode cX3_extend 104 = .ok (.iload 6, 2) := by decide +kernel
theorem dX3_extend_106 : decode cX3_extend 106 = .ok (.iadd, 1) := by decide +kernel
theorem dX3_extend_107 : decode cX3_extend 107 = .ok (.iaload, 1) := by decide +kernel
theorem dX3_extend_108 : decode cX3_extend 108 = .ok (.ior, 1) := by decide +kernel
theorem dX3_extend_109 : decode cX3_extend 109 = .ok (.invokestatic 47, 3) := by decide +kernel
theorem dX3_extend_112 : decode cX3_extend 112 = .ok (.iinc 6 1, 3) := by decide +kernel
theorem dX3_extend_115 : decode cX3_extend 115 = .ok (.goto (-87), 3) := by decide +kernel
theorem dX3_extend_118 : decode cX3_extend 118 = .ok (.return_, 1) := by decide +kernel
theorem dX3_keepIfBetter_0 : decode cX3_keepIfBetter 0 = .ok (.iload_n 1, 1) := by decide +kernel
theorem dX3_keepIfBetter_1 : decode cX3_keepIfBetter 1 = .ok (.aload_n 0, 1) := by decide +kernel
theorem dX3_keepIfBetter_2 : decode cX3_keepIfBetter 2 = .ok (.getfield 31, 3) := by decide +kernel
theorem dX3_keepIfBetter_5 : decode cX3_keepIfBetter 5 = .ok (.if_icmp .le 22, 3) := by decide +kernel
theorem dX3_keepIfBetter_8 : decode cX3_keepIfBetter 8 = .ok (.aload_n 0, 1) := by decide +kernel
theorem dX3_keepIfBetter_9 : decode cX3_keepIfBetter 9 = .ok (.iload_n 1, 1) := by decide +kernel
theorem dX3_keepIfBetter_10 : decode cX3_keepIfBetter 10 = .ok (.putfield 31, 3) := by decide +kernel
theorem dX3_keepIfBetter_13 : decode cX3_keepIfBetter 13 = .ok (.aload_n 0, 1) := by decide +kernel
theorem dX3_keepIfBetter_14 : decode cX3_keepIfBetter 14 = .ok (.getfield 15, 3) := by decide +kernel
theorem dX3_keepIfBetter_17 : decode cX3_keepIfBetter 17 = .ok (.iconst 0, 1) := by decide +kernel
theorem dX3_keepIfBetter_18 : decode cX3_keepIfBetter 18 = .ok (.aload_n 0, 1) := by decide +kernel
theorem dX3_keepIfBetter_19 : decode cX3_keepIfBetter 19 = .ok (.getfield 18, 3) := by decide +kernel
theorem dX3_keepIfBetter_22 : decode cX3_keepIfBetter 22 = .ok (.iconst 0, 1) := by decide +kernel
theorem dX3_keepIfBetter_23 : decode cX3_keepIfBetter 23 = .ok (.iconst 5, 1) := by decide +kernel
theorem dX3_keepIfBetter_24 : decode cX3_keepIfBetter 24 = .ok (.invokestatic 60, 3) := by decide +kernel
theorem dX3_keepIfBetter_27 : decode cX3_keepIfBetter 27 = .ok (.return_, 1) := by decide +kernel
set_option maxRecDepth 20000 in
theorem ggX4_init_X1_init : GoodIn wsX4_init wsX1_init := goodIn_r _ [13, 14, 2, 3, 15, 16, 17, 18, 19, 20, 28, 29, 30, 31, 32, 33, 34, 35, 36] (by decide +kernel) (by decide +kernel)
set_option maxRecDepth 20000 in
theorem gX4_init_X1_init_n11 : GoodIn wsX4_init (wsX1_init) := ggX4_init_X1_init
set_option maxRecDepth 20000 in
theorem ggX4_init_X0_init : GoodIn wsX4_init wsX0_init := goodIn_r _ [22, 23, 2, 3, 15, 24, 25, 26, 27, 40, 41, 42, 43, 44] (by decide +kernel) (by decide +kernel)
set_option maxRecDepth 20000 in
theorem gX4_init_X0_init_n20 : GoodIn wsX4_init (wsX0_init) := ggX4_init_X0_init
theorem dX4_init_0 : decode cX4_init 0 = .ok (.aload_n 0, 1) := by decide +kernel
theorem dX4_init_1 : decode cX4_init 1 = .ok (.invokespecial 3, 3) := by decide +kernel
theorem dX4_init_4 : decode cX4_init 4 = .ok (.aload_n 0, 1) := by decide +kernel
theorem dX4_init_5 : decode cX4_init 5 = .ok (.new 9, 3) := by decide +kernel
theorem dX4_init_8 : decode cX4_init 8 = .ok (.dup, 1) := by decide +kernel
theorem dX4_init_9 : decode cX4_init 9 = .ok (.invokespecial 11, 3) := by decide +kernel
theorem dX4_init_12 : decode cX4_init 12 = .ok (.putfield 12, 3) := by decide +kernel
theorem dX4_init_15 : decode cX4_init 15 = .ok (.aload_n 0, 1) := by decide +kernel
theorem dX4_init_16 : decode cX4_init 16 = .ok (.new 18, 3) := by decide +kernel
theorem dX4_init_19 : decode cX4_init 19 = .ok (.dup, 1) := by decide +kernel
theorem dX4_init_20 : decode cX4_init 20 = .ok (.invokespecial 20, 3) := by decide +kernel
theorem dX4_init_23 : decode cX4_init 23 = .ok (.putfield 21, 3) := by decide +kernel
theorem dX4_init_26 : decode cX4_init 26 = .ok (.return_, 1) := by decide +kernel
set_option maxRecDepth 20000 in
theorem ggX4_copyFrom_X1_copyFrom : GoodIn wsX4_copyFrom wsX1_copyFrom := goodIn_r _ [7, 8, 9, 10, 11, 12, 13, 14, 15, 16, 17, 18, 19, 20, 34, 35, 36, 37, 38, 39, 40, 41, 42] (by decide +kernel) (by decide +kernel)
set_option maxRecDepth 20000 in
theorem gX4_copyFrom_X1_copyFrom_n25 : GoodIn wsX4_copyFrom (wsX1_copyFrom) := ggX4_copyFrom_X1_copyFrom
set_option maxRecDepth 20000 in
theorem ggX4_copyFrom_X0_copyFrom : GoodIn wsX4_copyFrom wsX0_copyFrom := goodIn_r _ [24, 25, 26, 10, 11, 12, 27, 28, 29, 30, 43, 44, 45, 46, 47] (by decide +kernel) (by decide +kernel)
set_option maxRecDepth 20000 in
theorem gX4_copyFrom_X0_copyFrom_n29 : GoodIn wsX4_copyFrom (wsX0_copyFrom) := ggX4_copyFrom_X0_copyFrom
theorem dX4_copyFrom_0 : decode cX4_copyFrom 0 = .ok (.aload_n 0, 1) := by decide +kernel
theorem dX4_copyFrom_1 : decode cX4_copyFrom 1 = .ok (.getfield 12, 3) := by decide +kernel
theorem dX4_copyFrom_4 : decode cX4_copyFrom 4 = .ok (.aload_n 1, 1) := by decide +kernel
theorem dX4_copyFrom_5 : decode cX4_copyFrom 5 = .ok (.getfield 12, 3) := by decide +kernel
theorem dX4_copyFrom_8 : decode cX4_copyFrom 8 = .ok (.invokevirtual 25, 3) := by decide +kernel
theorem dX4_copyFrom_11 : decode cX4_copyFrom 11 = .ok (.aload_n 0, 1) := by decide +kernel
theorem dX4_copyFrom_12 : decode cX4_copyFrom 12 = .ok (.getfield 21, 3) := by decide +kernel
theorem dX4_copyFrom_15 : decode cX4_copyFrom 15 = .ok (.aload_n 1, 1) := by decide +kernel
theorem dX4_copyFrom_16 : decode cX4_copyFrom 16 = .ok (.getfield 21, 3) := by decide +kernel
theorem dX4_copyFrom_19 : decode cX4_copyFrom 19 = .ok (.invokevirtual 29, 3) := by decide +kernel
theorem dX4_copyFrom_22 : decode cX4_copyFrom 22 = .ok (.aload_n 0, 1) := by decide +kernel
theorem dX4_copyFrom_23 : decode cX4_copyFrom 23 = .ok (.aload_n 1, 1) := by decide +kernel
theorem dX4_copyFrom_24 : decode cX4_copyFrom 24 = .ok (.getfield 32, 3) := by decide +kernel
theorem dX4_copyFrom_27 : decode cX4_copyFrom 27 = .ok (.putfield 32, 3) := by decide +kernel
theorem dX4_copyFrom_30 : decode cX4_copyFrom 30 = .ok (.return_, 1) := by decide +kernel
set_option maxRecDepth 20000 in
theorem ggX4_newAt_X1_passing : GoodIn wsX4_newAt wsX1_passing := goodIn_r _ [5, 6, 7, 8, 9, 3, 10, 11, 12, 13, 14, 15, 16, 17, 18, 19, 20, 21, 22, 23, 24, 25, 46, 47, 48, 49, 50, 51, 52, 53, 54] (by decide +kernel) (by decide +kernel)
set_option maxRecDepth 20000 in
theorem gX4_newAt_X1_passing_n36 : GoodIn wsX4_newAt (wsX1_passing) := ggX4_newAt_X1_passing
set_option maxRecDepth 20000 in
theorem ggX4_newAt_X1_newOf : GoodIn wsX4_newAt wsX1_newOf := goodIn_r _ [28, 6, 29, 22, 23, 24, 3, 25, 13, 14, 15, 16, 30, 31, 32, 33, 34, 35, 36, 37, 38, 39, 40, 41, 42, 46, 47, 48, 49, 50, 51, 52, 53, 54] (by decide +kernel) (by decide +kernel)
set_option maxRecDepth 20000 in
theorem gX4_newAt_X1_newOf_n40 : GoodIn wsX4_newAt (wsX1_newOf) := ggX4_newAt_X1_newOf
theorem dX4_newAt_0 : decode cX4_newAt 0 = .ok (.aload_n 0, 1) := by decide +kernel
theorem dX4_newAt_1 : decode cX4_newAt 1 = .ok (.getfield 12, 3) := by decide +kernel
theorem dX4_newAt_4 : decode cX4_newAt 4 = .ok (.aload_n 0, 1) := by decide +kernel
theorem dX4_newAt_5 : decode cX4_newAt 5 = .ok (.getfield 12, 3) := by decide +kernel
theorem dX4_newAt_8 : decode cX4_newAt 8 = .ok (.iload_n 1, 1) := by decide +kernel
theorem dX4_newAt_9 : decode cX4_newAt 9 = .ok (.iload_n 2, 1) := by decide +kernel
theorem dX4_newAt_10 : decode cX4_newAt 10 = .ok (.invokevirtual 36, 3) := by decide +kernel
theorem dX4_newAt_13 : decode cX4_newAt 13 = .ok (.invokevirtual 40, 3) := by decide +kernel
theorem dX4_newAt_16 : decode cX4_newAt 16 = .ok (.ireturn, 1) := by decide +kernel
set_option maxRecDepth 20000 in
theorem ggX4_freshWorth_X4_newAt : GoodIn wsX4_freshWorth wsX4_newAt := goodIn_r _ [7, 2, 8, 9, 10, 11, 12, 13, 14, 15, 16, 17, 18, 19, 20, 21, 22, 23, 24, 25, 26, 27, 28, 29, 30, 31, 32, 33, 34, 35, 36, 37, 38, 39, 40, 41, 42, 43, 44, 45, 46, 47, 48, 60, 61, 62, 63, 64, 65, 66, 67, 68, 69, 70, 71] (by decide +kernel) (by decide +kernel)
set_option maxRecDepth 20000 in
theorem gX4_freshWorth_X4_newAt : GoodIn wsX4_freshWorth (wsV RX4 44 RX4 yX4_newAt wsX4_newAt) := goodIn_app (goodIn_of _ (by decide +kernel)) ggX4_freshWorth_X4_newAt
set_option maxRecDepth 20000 in
theorem ggX4_freshWorth_X1_worth : GoodIn wsX4_freshWorth wsX1_worth := goodIn_r _ [51, 52, 53, 54, 55, 56, 57, 58, 59, 63, 64, 65, 66, 67, 68, 69, 70, 71] (by decide +kernel) (by decide +kernel)
set_option maxRecDepth 20000 in
theorem gX4_freshWorth_X1_worth_n47 : GoodIn wsX4_freshWorth (wsX1_worth) := ggX4_freshWorth_X1_worth
theorem dX4_freshWorth_0 : decode cX4_freshWorth 0 = .ok (.iconst 0, 1) := by decide +kernel
theorem dX4_freshWorth_1 : decode cX4_freshWorth 1 = .ok (.istore_n 3, 1) := by decide +kernel
theorem dX4_freshWorth_2 : decode cX4_freshWorth 2 = .ok (.iconst 0, 1) := by decide +kernel
theorem dX4_freshWorth_3 : decode cX4_freshWorth 3 = .ok (.istore 4, 2) := by decide +kernel
theorem dX4_freshWorth_5 : decode cX4_freshWorth 5 = .ok (.iload 4, 2) := by decide +kernel
theorem dX4_freshWorth_7 : decode cX4_freshWorth 7 = .ok (.iload_n 2, 1) := by decide +kernel
theorem dX4_freshWorth_8 : decode cX4_freshWorth 8 = .ok (.if_icmp .ge 24, 3) := by decide +kernel
theorem dX4_freshWorth_11 : decode cX4_freshWorth 11 = .ok (.iload_n 3, 1) := by decide +kernel
theorem dX4_freshWorth_12 : decode cX4_freshWorth 12 = .ok (.aload_n 0, 1) := by decide +kernel
theorem dX4_freshWorth_13 : decode cX4_freshWorth 13 = .ok (.iload_n 1, 1) := by decide +kernel
theorem dX4_freshWorth_14 : decode cX4_freshWorth 14 = .ok (.aload_n 0, 1) := by decide +kernel
theorem dX4_freshWorth_15 : decode cX4_freshWorth 15 = .ok (.getfield 32, 3) := by decide +kernel
theorem dX4_freshWorth_18 : decode cX4_freshWorth 18 = .ok (.iload 4, 2) := by decide +kernel
theorem dX4_freshWorth_20 : decode cX4_freshWorth 20 = .ok (.iadd, 1) := by decide +kernel
theorem dX4_freshWorth_21 : decode cX4_freshWorth 21 = .ok (.invokevirtual 44, 3) := by decide +kernel
theorem dX4_freshWorth_24 : decode cX4_freshWorth 24 = .ok (.ior, 1) := by decide +kernel
theorem dX4_freshWorth_25 : decode cX4_freshWorth 25 = .ok (.istore_n 3, 1) := by decide +kernel
theorem dX4_freshWorth_26 : decode cX4_freshWorth 26 = .ok (.iinc 4 1, 3) := by decide +kernel
theorem dX4_freshWorth_29 : decode cX4_freshWorth 29 = .ok (.goto (-24), 3) := by decide +kernel
theorem dX4_freshWorth_32 : decode cX4_freshWorth 32 = .ok (.aload_n 0, 1) := by decide +kernel
theorem dX4_freshWorth_33 : decode cX4_freshWorth 33 = .ok (.getfield 12, 3) := by decide +kernel
theorem dX4_freshWorth_36 : decode cX4_freshWorth 36 = .ok (.iload_n 3, 1) := by decide +kernel
theorem dX4_freshWorth_37 : decode cX4_freshWorth 37 = .ok (.invokevirtual 47, 3) := by decide +kernel
theorem dX4_freshWorth_40 : decode cX4_freshWorth 40 = .ok (.ireturn, 1) := by decide +kernel
set_option maxRecDepth 20000 in
theorem ggX4_drawnWorth_X4_newAt : GoodIn wsX4_drawnWorth wsX4_newAt := goodIn_r _ [10, 5, 11, 12, 13, 14, 15, 16, 17, 18, 19, 20, 21, 22, 23, 24, 25, 26, 27, 28, 29, 30, 31, 32, 33, 34, 35, 36, 37, 38, 39, 40, 41, 42, 43, 44, 45, 46, 47, 48, 49, 50, 51, 63, 64, 65, 66, 67, 68, 69, 70, 71, 72, 73, 74] (by decide +kernel) (by decide +kernel)
set_option maxRecDepth 20000 in
theorem gX4_drawnWorth_X4_newAt : GoodIn wsX4_drawnWorth (wsV RX4 44 RX4 yX4_newAt wsX4_newAt) := goodIn_app (goodIn_of _ (by decide +kernel)) ggX4_drawnWorth_X4_newAt
set_option maxRecDepth 20000 in
theorem ggX4_drawnWorth_X1_worth : GoodIn wsX4_drawnWorth wsX1_worth := goodIn_r _ [54, 55, 56, 57, 58, 59, 60, 61, 62, 66, 67, 68, 69, 70, 71, 72, 73, 74] (by decide +kernel) (by decide +kernel)
set_option maxRecDepth 20000 in
theorem gX4_drawnWorth_X1_worth_n47 : GoodIn wsX4_drawnWorth (wsX1_worth) := ggX4_drawnWorth_X1_worth
theorem dX4_drawnWorth_0 : decode cX4_drawnWorth 0 = .ok (.iload_n 2, 1) := by decide +kernel
theorem dX4_drawnWorth_1 : decode cX4_drawnWorth 1 = .ok (.istore_n 3, 1) := by decide +kernel
theorem dX4_drawnWorth_2 : decode cX4_drawnWorth 2 = .ok (.iconst 0, 1) := by decide +kernel
theorem dX4_drawnWorth_3 : decode cX4_drawnWorth 3 = .ok (.istore 4, 2) := by decide +kernel
theorem dX4_drawnWorth_5 : decode cX4_drawnWorth 5 = .ok (.iconst 0, 1) := by decide +kernel
theorem dX4_drawnWorth_6 : decode cX4_drawnWorth 6 = .ok (.istore 5, 2) := by decide +kernel
theorem dX4_drawnWorth_8 : decode cX4_drawnWorth 8 = .ok (.iload 5, 2) := by decide +kernel
theorem dX4_drawnWorth_10 : decode cX4_drawnWorth 10 = .ok (.iload_n 1, 1) := by decide +kernel
theorem dX4_drawnWorth_11 : decode cX4_drawnWorth 11 = .ok (.if_icmp .ge 43, 3) := by decide +kernel
theorem dX4_drawnWorth_14 : decode cX4_drawnWorth 14 = .ok (.iload_n 3, 1) := by decide +kernel
theorem dX4_drawnWorth_15 : decode cX4_drawnWorth 15 = .ok (.ldc 50, 2) := by decide +kernel
theorem dX4_drawnWorth_17 : decode cX4_drawnWorth 17 = .ok (.imul, 1) := by decide +kernel
theorem dX4_drawnWorth_18 : decode cX4_drawnWorth 18 = .ok (.ldc 51, 2) := by decide +kernel
theorem dX4_drawnWorth_20 : decode cX4_drawnWorth 20 = .ok (.iadd, 1) := by decide +kernel
theorem dX4_drawnWorth_21 : decode cX4_drawnWorth 21 = .ok (.istore_n 3, 1) := by decide +kernel
theorem dX4_drawnWorth_22 : decode cX4_drawnWorth 22 = .ok (.iload 4, 2) := by decide +kernel
theorem dX4_drawnWorth_24 : decode cX4_drawnWorth 24 = .ok (.aload_n 0, 1) := by decide +kernel
theorem dX4_drawnWorth_25 : decode cX4_drawnWorth 25 = .ok (.iload_n 3, 1) := by decide +kernel
theorem dX4_drawnWorth_26 : decode cX4_drawnWorth 26 = .ok (.ldc 52, 2) := by decide +kernel
theorem dX4_drawnWorth_28 : decode cX4_drawnWorth 28 = .ok (.iand, 1) := by decide +kernel
theorem dX4_drawnWorth_29 : decode cX4_drawnWorth 29 = .ok (.sipush 256, 3) := by decide +kernel
theorem dX4_drawnWorth_32 : decode cX4_drawnWorth 32 = .ok (.idiv, 1) := by decide +kernel
theorem dX4_drawnWorth_33 : decode cX4_drawnWorth 33 = .ok (.iconst 5, 1) := by decide +kernel
theorem dX4_drawnWorth_34 : decode cX4_drawnWorth 34 = .ok (.irem, 1) := by decide +kernel
theorem dX4_drawnWorth_35 : decode cX4_drawnWorth 35 = .ok (.aload_n 0, 1) := by decide +kernel
theorem dX4_drawnWorth_36 : decode cX4_drawnWorth 36 = .ok (.getfield 32, 3) := by decide +kernel
theorem dX4_drawnWorth_39 : decode cX4_drawnWorth 39 = .ok (.iload 5, 2) := by decide +kernel
theorem dX4_drawnWorth_41 : decode cX4_drawnWorth 41 = .ok (.iadd, 1) := by decide +kernel
theorem dX4_drawnWorth_42 : decode cX4_drawnWorth 42 = .ok (.invokevirtual 44, 3) := by decide +kernel
theorem dX4_drawnWorth_45 : decode cX4_drawnWorth 45 = .ok (.ior, 1) := by decide +kernel
theorem dX4_drawnWorth_46 : decode cX4_drawnWorth 46 = .ok (.istore 4, 2) := by decide +kernel
theorem dX4_drawnWorth_48 : decode cX4_drawnWorth 48 = .ok (.iinc 5 1, 3) := by decide +kernel
theorem dX4_drawnWorth_51 : decode cX4_drawnWorth 51 = .ok (.goto (-43), 3) := by decide +kernel
theorem dX4_drawnWorth_54 : decode cX4_drawnWorth 54 = .ok (.aload_n 0, 1) := by decide +kernel
theorem dX4_drawnWorth_55 : decode cX4_drawnWorth 55 = .ok (.getfield 12, 3) := by decide +kernel
theorem dX4_drawnWorth_58 : decode cX4_drawnWorth 58 = .ok (.iload 4, 2) := by decide +kernel
theorem dX4_drawnWorth_60 : decode cX4_drawnWorth 60 = .ok (.invokevirtual 47, 3) := by decide +kernel
theorem dX4_drawnWorth_63 : decode cX4_drawnWorth 63 = .ok (.ireturn, 1) := by decide +kernel
set_option maxRecDepth 20000 in
theorem ggX4_daysUntil_X1_placeOn : GoodIn wsX4_daysUntil wsX1_placeOn := goodIn_r _ [6, 7, 8, 9, 10, 11, 4, 12, 13, 14, 15, 16, 17, 18, 22, 23, 24, 25, 26, 27, 28, 29, 30] (by decide +kernel) (by decide +kernel)
set_option maxRecDepth 20000 in
theorem gX4_daysUntil_X1_placeOn_n53 : GoodIn wsX4_daysUntil (wsX1_placeOn) := ggX4_daysUntil_X1_placeOn
theorem dX4_daysUntil_0 : decode cX4_daysUntil 0 = .ok (.iconst 0, 1) := by decide +kernel
theorem dX4_daysUntil_1 : decode cX4_daysUntil 1 = .ok (.istore_n 3, 1) := by decide +kernel
theorem dX4_daysUntil_2 : decode cX4_daysUntil 2 = .ok (.iload_n 3, 1) := by decide +kernel
theorem dX4_daysUntil_3 : decode cX4_daysUntil 3 = .ok (.bipush 60, 2) := by decide +kernel
theorem dX4_daysUntil_5 : decode cX4_daysUntil 5 = .ok (.if_icmp .gt 48, 3) := by decide +kernel
theorem dX4_daysUntil_8 : decode cX4_daysUntil 8 = .ok (.aload_n 0, 1) := by decide +kernel
theorem dX4_daysUntil_9 : decode cX4_daysUntil 9 = .ok (.getfield 12, 3) := by decide +kernel
theorem dX4_daysUntil_12 : decode cX4_daysUntil 12 = .ok (.iload_n 1, 1) := by decide +kernel
theorem dX4_daysUntil_13 : decode cX4_daysUntil 13 = .ok (.aload_n 0, 1) := by decide +kernel
theorem dX4_daysUntil_14 : decode cX4_daysUntil 14 = .ok (.getfield 32, 3) := by decide +kernel
theorem dX4_daysUntil_17 : decode cX4_daysUntil 17 = .ok (.iload_n 3, 1) := by decide +kernel
theorem dX4_daysUntil_18 : decode cX4_daysUntil 18 = .ok (.iadd, 1) := by decide +kernel
theorem dX4_daysUntil_19 : decode cX4_daysUntil 19 = .ok (.invokevirtual 53, 3) := by decide +kernel
theorem dX4_daysUntil_22 : decode cX4_daysUntil 22 = .ok (.istore 4, 2) := by decide +kernel
theorem dX4_daysUntil_24 : decode cX4_daysUntil 24 = .ok (.iload_n 2, 1) := by decide +kernel
theorem dX4_daysUntil_25 : decode cX4_daysUntil 25 = .ok (.iconst (-1), 1) := by decide +kernel
theorem dX4_daysUntil_26 : decode cX4_daysUntil 26 = .ok (.if_icmp .ne 13, 3) := by decide +kernel
theorem dX4_daysUntil_29 : decode cX4_daysUntil 29 = .ok (.iload 4, 2) := by decide +kernel
theorem dX4_daysUntil_31 : decode cX4_daysUntil 31 = .ok (.bipush 9, 2) := by decide +kernel
theorem dX4_daysUntil_33 : decode cX4_daysUntil 33 = .ok (.if_icmp .eq 14, 3) := by decide +kernel
theorem dX4_daysUntil_36 : decode cX4_daysUntil 36 = .ok (.goto 9, 3) := by decide +kernel
theorem dX4_daysUntil_39 : decode cX4_daysUntil 39 = .ok (.iload 4, 2) := by decide +kernel
theorem dX4_daysUntil_41 : decode cX4_daysUntil 41 = .ok (.iload_n 2, 1) := by decide +kernel
theorem dX4_daysUntil_42 : decode cX4_daysUntil 42 = .ok (.if_icmp .ne 5, 3) := by decide +kernel
theorem dX4_daysUntil_45 : decode cX4_daysUntil 45 = .ok (.iload_n 3, 1) := by decide +kernel
theorem dX4_daysUntil_46 : decode cX4_daysUntil 46 = .ok (.ireturn, 1) := by decide +kernel
theorem dX4_daysUntil_47 : decode cX4_daysUntil 47 = .ok (.iinc 3 1, 3) := by decide +kernel
theorem dX4_daysUntil_50 : decode cX4_daysUntil 50 = .ok (.goto (-48), 3) := by decide +kernel
theorem dX4_daysUntil_53 : decode cX4_daysUntil 53 = .ok (.bipush (-9), 2) := by decide +kernel
theorem dX4_daysUntil_55 : decode cX4_daysUntil 55 = .ok (.ireturn, 1) := by decide +kernel
set_option maxRecDepth 20000 in
theorem ggX4_everWorth_X4_daysUntil : GoodIn wsX4_everWorth wsX4_daysUntil := goodIn_r _ [6, 1, 7, 8, 9, 10, 11, 12, 13, 14, 15, 16, 17, 18, 19, 20, 21, 22, 23, 56, 57, 58, 59, 60, 61, 62, 63, 64, 65, 66, 67] (by decide +kernel) (by decide +kernel)
set_option maxRecDepth 20000 in
theorem gX4_everWorth_X4_daysUntil : GoodIn wsX4_everWorth (wsV RX4 59 RX4 yX4_daysUntil wsX4_daysUntil) := goodIn_app (goodIn_of _ (by decide +kernel)) ggX4_everWorth_X4_daysUntil
set_option maxRecDepth 20000 in
theorem ggX4_everWorth_X1_bit : GoodIn wsX4_everWorth wsX1_bit := goodIn_r _ [26, 14, 15, 16, 9, 17, 18, 59, 60, 61, 62, 63, 64, 65, 66, 67] (by decide +kernel) (by decide +kernel)
set_option maxRecDepth 20000 in
theorem gX4_everWorth_X1_bit_n62 : GoodIn wsX4_everWorth (wsX1_bit) := ggX4_everWorth_X1_bit
set_option maxRecDepth 20000 in
theorem ggX4_everWorth_X1_newOf : GoodIn wsX4_everWorth wsX1_newOf := goodIn_r _ [29, 18, 30, 31, 24, 25, 9, 26, 14, 15, 16, 17, 32, 33, 34, 35, 36, 37, 38, 39, 40, 41, 42, 43, 44, 59, 60, 61, 62, 63, 64, 65, 66, 67] (by decide +kernel) (by decide +kernel)
set_option maxRecDepth 20000 in
theorem gX4_everWorth_X1_newOf_n40 : GoodIn wsX4_everWorth (wsX1_newOf) := ggX4_everWorth_X1_newOf
set_option maxRecDepth 20000 in
theorem ggX4_everWorth_X1_worth : GoodIn wsX4_everWorth wsX1_worth := goodIn_r _ [47, 48, 49, 50, 51, 52, 53, 54, 55, 59, 60, 61, 62, 63, 64, 65, 66, 67] (by decide +kernel) (by decide +kernel)
set_option maxRecDepth 20000 in
theorem gX4_everWorth_X1_worth_n47 : GoodIn wsX4_everWorth (wsX1_worth) := ggX4_everWorth_X1_worth
theorem dX4_everWorth_0 : decode cX4_everWorth 0 = .ok (.iconst 0, 1) := by decide +kernel
theorem dX4_everWorth_1 : decode cX4_everWorth 1 = .ok (.istore_n 1, 1) := by decide +kernel
theorem dX4_everWorth_2 : decode cX4_everWorth 2 = .ok (.iconst 0, 1) := by decide +kernel
theorem dX4_everWorth_3 : decode cX4_everWorth 3 = .ok (.istore_n 2, 1) := by decide +kernel
theorem dX4_everWorth_4 : decode cX4_everWorth 4 = .ok (.iload_n 2, 1) := by decide +kernel
theorem dX4_everWorth_5 : decode cX4_everWorth 5 = .ok (.aload_n 0, 1) := by decide +kernel
theorem dX4_everWorth_6 : decode cX4_everWorth 6 = .ok (.getfield 12, 3) := by decide +kernel
theorem dX4_everWorth_9 : decode cX4_everWorth 9 = .ok (.getfield 56, 3) := by decide +kernel
theorem dX4_everWorth_12 : decode cX4_everWorth 12 = .ok (.if_icmp .ge 31, 3) := by decide +kernel
theorem dX4_everWorth_15 : decode cX4_everWorth 15 = .ok (.aload_n 0, 1) := by decide +kernel
theorem dX4_everWorth_16 : decode cX4_everWorth 16 = .ok (.iload_n 2, 1) := by decide +kernel
theorem dX4_everWorth_17 : decode cX4_everWorth 17 = .ok (.iconst (-1), 1) := by decide +kernel
theorem dX4_everWorth_18 : decode cX4_everWorth 18 = .ok (.invokevirtual 59, 3) := by decide +kernel
theorem dX4_everWorth_21 : decode cX4_everWorth 21 = .ok (.bipush (-9), 2) := by decide +kernel
theorem dX4_everWorth_23 : decode cX4_everWorth 23 = .ok (.if_icmp .eq 14, 3) := by decide +kernel
theorem dX4_everWorth_26 : decode cX4_everWorth 26 = .ok (.iload_n 1, 1) := by decide +kernel
theorem dX4_everWorth_27 : decode cX4_everWorth 27 = .ok (.aload_n 0, 1) := by decide +kernel
theorem dX4_everWorth_28 : decode cX4_everWorth 28 = .ok (.getfield 12, 3) := by decide +kernel
theorem dX4_everWorth_31 : decode cX4_everWorth 31 = .ok (.iload_n 2, 1) := by decide +kernel
theorem dX4_everWorth_32 : decode cX4_everWorth 32 = .ok (.invokevirtual 62, 3) := by decide +kernel
theorem dX4_everWorth_35 : decode cX4_everWorth 35 = .ok (.ior, 1) := by decide +kernel
theorem dX4_everWorth_36 : decode cX4_everWorth 36 = .ok (.istore_n 1, 1) := by decide +kernel
theorem dX4_everWorth_37 : decode cX4_everWorth 37 = .ok (.iinc 2 1, 3) := by decide +kernel
theorem dX4_everWorth_40 : decode cX4_everWorth 40 = .ok (.goto (-36), 3) := by decide +kernel
theorem dX4_everWorth_43 : decode cX4_everWorth 43 = .ok (.aload_n 0, 1) := by decide +kernel
theorem dX4_everWorth_44 : decode cX4_everWorth 44 = .ok (.getfield 12, 3) := by decide +kernel
theorem dX4_everWorth_47 : decode cX4_everWorth 47 = .ok (.aload_n 0, 1) := by decide +kernel
theorem dX4_everWorth_48 : decode cX4_everWorth 48 = .ok (.getfield 12, 3) := by decide +kernel
theorem dX4_everWorth_51 : decode cX4_everWorth 51 = .ok (.iload_n 1, 1) := by decide +kernel
theorem dX4_everWorth_52 : decode cX4_everWorth 52 = .ok (.invokevirtual 40, 3) := by decide +kernel
theorem dX4_everWorth_55 : decode cX4_everWorth 55 = .ok (.invokevirtual 47, 3) := by decide +kernel
theorem dX4_everWorth_58 : decode cX4_everWorth 58 = .ok (.ireturn, 1) := by decide +kernel
set_option maxRecDepth 20000 in
theorem ggX4_goTogether_X1_placeOn : GoodIn wsX4_goTogether wsX1_placeOn := goodIn_r _ [6, 7, 8, 9, 10, 11, 4, 12, 13, 14, 15, 16, 17, 18, 22, 23, 24, 25, 26, 27, 28, 29, 30] (by decide +kernel) (by decide +kernel)
set_option maxRecDepth 20000 in
theorem gX4_goTogether_X1_placeOn_n53 : GoodIn wsX4_goTogether (wsX1_placeOn) := ggX4_goTogether_X1_placeOn
theorem dX4_goTogether_0 : decode cX4_goTogether 0 = .ok (.iconst 0, 1) := by decide +kernel
theorem dX4_goTogether_1 : decode cX4_goTogether 1 = .ok (.istore 4, 2) := by decide +kernel
theorem dX4_goTogether_3 : decode cX4_goTogether 3 = .ok (.iload 4, 2) := by decide +kernel
theorem dX4_goTogether_5 : decode cX4_goTogether 5 = .ok (.iload_n 3, 1) := by decide +kernel
theorem dX4_goTogether_6 : decode cX4_goTogether 6 = .ok (.if_icmp .ge 44, 3) := by decide +kernel
theorem dX4_goTogether_9 : decode cX4_goTogether 9 = .ok (.aload_n 0, 1) := by decide +kernel
theorem dX4_goTogether_10 : decode cX4_goTogether 10 = .ok (.getfield 12, 3) := by decide +kernel
theorem dX4_goTogether_13 : decode cX4_goTogether 13 = .ok (.iload_n 1, 1) := by decide +kernel
theorem dX4_goTogether_14 : decode cX4_goTogether 14 = .ok (.aload_n 0, 1) := by decide +kernel
theorem dX4_goTogether_15 : decode cX4_goTogether 15 = .ok (.getfield 32, 3) := by decide +kernel
theorem dX4_goTogether_18 : decode cX4_goTogether 18 = .ok (.iload 4, 2) := by decide +kernel
theorem dX4_goTogether_20 : decode cX4_goTogether 20 = .ok (.iadd, 1) := by decide +kernel
theorem dX4_goTogether_21 : decode cX4_goTogether 21 = .ok (.invokevirtual 53, 3) := by decide +kernel
theorem dX4_goTogether_24 : decode cX4_goTogether 24 = .ok (.aload_n 0, 1) := by decide +kernel
theorem dX4_goTogether_25 : decode cX4_goTogether 25 = .ok (.getfield 12, 3) := by decide +kernel
theorem dX4_goTogether_28 : decode cX4_goTogether 28 = .ok (.iload_n 2, 1) := by decide +kernel
theorem dX4_goTogether_29 : decode cX4_goTogether 29 = .ok (.aload_n 0, 1) := by decide +kernel
theorem dX4_goTogether_30 : decode cX4_goTogether 30 = .ok (.getfield 32, 3) := by decide +kernel
theorem dX4_goTogether_33 : decode cX4_goTogether 33 = .ok (.iload 4, 2) := by decide +kernel
theorem dX4_goTogether_35 : decode cX4_goTogether 35 = .ok (.iadd, 1) := by decide +kernel
theorem dX4_goTogether_36 : decode cX4_goTogether 36 = .ok (.invokevirtual 53, 3) := by decide +kernel
theorem dX4_goTogether_39 : decode cX4_goTogether 39 = .ok (.if_icmp .eq 5, 3) := by decide +kernel
theorem dX4_goTogether_42 : decode cX4_goTogether 42 = .ok (.iconst 0, 1) := by decide +kernel
theorem dX4_goTogether_43 : decode cX4_goTogether 43 = .ok (.ireturn, 1) := by decide +kernel
theorem dX4_goTogether_44 : decode cX4_goTogether 44 = .ok (.iinc 4 1, 3) := by decide +kernel
theorem dX4_goTogether_47 : decode cX4_goTogether 47 = .ok (.goto (-44), 3) := by decide +kernel
theorem dX4_goTogether_50 : decode cX4_goTogether 50 = .ok (.iconst 1, 1) := by decide +kernel
theorem dX4_goTogether_51 : decode cX4_goTogether 51 = .ok (.ireturn, 1) := by decide +kernel
set_option maxRecDepth 20000 in
theorem ggX4_fittingOnes_X0_holds : GoodIn wsX4_fittingOnes wsX0_holds := goodIn_r _ [6, 7, 46, 47, 48, 49, 50] (by decide +kernel) (by decide +kernel)
set_option maxRecDepth 20000 in
theorem gX4_fittingOnes_X0_holds_n65 : GoodIn wsX4_fittingOnes (wsX0_holds) := ggX4_fittingOnes_X0_holds
set_option maxRecDepth 20000 in
theorem ggX4_fittingOnes_X1_passing : GoodIn wsX4_fittingOnes wsX1_passing := goodIn_r _ [11, 12, 13, 14, 15, 9, 16, 17, 18, 19, 20, 21, 22, 23, 24, 25, 26, 27, 28, 29, 30, 31, 51, 52, 53, 54, 55, 56, 57, 58, 59] (by decide +kernel) (by decide +kernel)
set_option maxRecDepth 20000 in
theorem gX4_fittingOnes_X1_passing_n36 : GoodIn wsX4_fittingOnes (wsX1_passing) := ggX4_fittingOnes_X1_passing
set_option maxRecDepth 20000 in
theorem ggX4_fittingOnes_X1_number : GoodIn wsX4_fittingOnes wsX1_number := goodIn_r _ [34, 35, 19, 20, 21, 9, 22, 12, 51, 52, 53, 54, 55, 56, 57, 58, 59] (by decide +kernel) (by decide +kernel)
set_option maxRecDepth 20000 in
theorem gX4_fittingOnes_X1_number_n79 : GoodIn wsX4_fittingOnes (wsX1_number) := ggX4_fittingOnes_X1_number
set_option maxRecDepth 20000 in
theorem ggX4_fittingOnes_X4_blurred : GoodIn wsX4_fittingOnes wsX4_blurred := goodIn_r _ [39, 40, 41, 38, 42] (by decide +kernel) (by decide +kernel)
set_option maxRecDepth 20000 in
theorem gX4_fittingOnes_X4_blurred : GoodIn wsX4_fittingOnes (va_wsS RX4 82 yX4_blurred wsX4_blurred) := goodIn_app (goodIn_of _ (by decide +kernel)) ggX4_fittingOnes_X4_blurred
set_option maxRecDepth 20000 in
theorem ggX4_fittingOnes_X1_bit : GoodIn wsX4_fittingOnes wsX1_bit := goodIn_r _ [31, 19, 20, 21, 9, 22, 12, 51, 52, 53, 54, 55, 56, 57, 58, 59] (by decide +kernel) (by decide +kernel)
set_option maxRecDepth 20000 in
theorem gX4_fittingOnes_X1_bit_n62 : GoodIn wsX4_fittingOnes (wsX1_bit) := ggX4_fittingOnes_X1_bit
theorem dX4_fittingOnes_0 : decode cX4_fittingOnes 0 = .ok (.aload_n 0, 1) := by decide +kernel
theorem dX4_fittingOnes_1 : decode cX4_fittingOnes 1 = .ok (.getfield 21, 3) := by decide +kernel
theorem dX4_fittingOnes_4 : decode cX4_fittingOnes 4 = .ok (.iload_n 1, 1) := by decide +kernel
theorem dX4_fittingOnes_5 : decode cX4_fittingOnes 5 = .ok (.invokevirtual 65, 3) := by decide +kernel
theorem dX4_fittingOnes_8 : decode cX4_fittingOnes 8 = .ok (.ifCond .ne 5, 3) := by decide +kernel
theorem dX4_fittingOnes_11 : decode cX4_fittingOnes 11 = .ok (.iconst 0, 1) := by decide +kernel
theorem dX4_fittingOnes_12 : decode cX4_fittingOnes 12 = .ok (.ireturn, 1) := by decide +kernel
theorem dX4_fittingOnes_13 : decode cX4_fittingOnes 13 = .ok (.aload_n 0, 1) := by decide +kernel
theorem dX4_fittingOnes_14 : decode cX4_fittingOnes 14 = .ok (.getfield 21, 3) := by decide +kernel
theorem dX4_fittingOnes_17 : decode cX4_fittingOnes 17 = .ok (.getfield 69, 3) := by decide +kernel
theorem dX4_fittingOnes_20 : decode cX4_fittingOnes 20 = .ok (.iload_n 1, 1) := by decide +kernel
theorem dX4_fittingOnes_21 : decode cX4_fittingOnes 21 = .ok (.iaload, 1) := by decide +kernel
theorem dX4_fittingOnes_22 : decode cX4_fittingOnes 22 = .ok (.istore_n 3, 1) := by decide +kernel
theorem dX4_fittingOnes_23 : decode cX4_fittingOnes 23 = .ok (.aload_n 0, 1) := by decide +kernel
theorem dX4_fittingOnes_24 : decode cX4_fittingOnes 24 = .ok (.getfield 12, 3) := by decide +kernel
theorem dX4_fittingOnes_27 : decode cX4_fittingOnes 27 = .ok (.aload_n 0, 1) := by decide +kernel
theorem dX4_fittingOnes_28 : decode cX4_fittingOnes 28 = .ok (.getfield 21, 3) := by decide +kernel
theorem dX4_fittingOnes_31 : decode cX4_fittingOnes 31 = .ok (.getfield 73, 3) := by decide +kernel
theorem dX4_fittingOnes_34 : decode cX4_fittingOnes 34 = .ok (.iload_n 1, 1) := by decide +kernel
theorem dX4_fittingOnes_35 : decode cX4_fittingOnes 35 = .ok (.iaload, 1) := by decide +kernel
theorem dX4_fittingOnes_36 : decode cX4_fittingOnes 36 = .ok (.aload_n 0, 1) := by decide +kernel
theorem dX4_fittingOnes_37 : decode cX4_fittingOnes 37 = .ok (.getfield 21, 3) := by decide +kernel
theorem dX4_fittingOnes_40 : decode cX4_fittingOnes 40 = .ok (.getfield 76, 3) := by decide +kernel
theorem dX4_fittingOnes_43 : decode cX4_fittingOnes 43 = .ok (.iload_n 1, 1) := by decide +kernel
theorem dX4_fittingOnes_44 : decode cX4_fittingOnes 44 = .ok (.iaload, 1) := by decide +kernel
theorem dX4_fittingOnes_45 : decode cX4_fittingOnes 45 = .ok (.invokevirtual 36, 3) := by decide +kernel
theorem dX4_fittingOnes_48 : decode cX4_fittingOnes 48 = .ok (.istore 4, 2) := by decide +kernel
theorem dX4_fittingOnes_50 : decode cX4_fittingOnes 50 = .ok (.iconst 0, 1) := by decide +kernel
theorem dX4_fittingOnes_51 : decode cX4_fittingOnes 51 = .ok (.istore 5, 2) := by decide +kernel
theorem dX4_fittingOnes_53 : decode cX4_fittingOnes 53 = .ok (.iconst 0, 1) := by decide +kernel
theorem dX4_fittingOnes_54 : decode cX4_fittingOnes 54 = .ok (.istore 6, 2) := by decide +kernel
theorem dX4_fittingOnes_56 : decode cX4_fittingOnes 56 = .ok (.iload 6, 2) := by decide +kernel
theorem dX4_fittingOnes_58 : decode cX4_fittingOnes 58 = .ok (.aload_n 0, 1) := by decide +kernel
theorem dX4_fittingOnes_59 : decode cX4_fittingOnes 59 = .ok (.getfield 12, 3) := by decide +kernel
theorem dX4_fittingOnes_62 : decode cX4_fittingOnes 62 = .ok (.getfield 56, 3) := by decide +kernel
theorem dX4_fittingOnes_65 : decode cX4_fittingOnes 65 = .ok (.if_icmp .ge 62, 3) := by decide +kernel
theorem dX4_fittingOnes_68 : decode cX4_fittingOnes 68 = .ok (.aload_n 0, 1) := by decide +kernel
theorem dX4_fittingOnes_69 : decode cX4_fittingOnes 69 = .ok (.getfield 12, 3) := by decide +kernel
theorem dX4_fittingOnes_72 : decode cX4_fittingOnes 72 = .ok (.iload 6, 2) := by decide +kernel
theorem dX4_fittingOnes_74 : decode cX4_fittingOnes 74 = .ok (.invokevirtual 79, 3) := by decide +kernel
theorem dX4_fittingOnes_77 : decode cX4_fittingOnes 77 = .ok (.istore 7, 2) := by decide +kernel
theorem dX4_fittingOnes_79 : decode cX4_fittingOnes 79 = .ok (.iload_n 2, 1) := by decide +kernel
theorem dX4_fittingOnes_80 : decode cX4_fittingOnes 80 = .ok (.ifCond .eq 12, 3) := by decide +kernel
theorem dX4_fittingOnes_83 : decode cX4_fittingOnes 83 = .ok (.iload 7, 2) := by decide +kernel
theorem dX4_fittingOnes_85 : decode cX4_fittingOnes 85 = .ok (.iload_n 3, 1) := by decide +kernel
theorem dX4_fittingOnes_86 : decode cX4_fittingOnes 86 = .ok (.if_icmp .ne 35, 3) := by decide +kernel
theorem dX4_fittingOnes_89 : decode cX4_fittingOnes 89 = .ok (.goto 15, 3) := by decide +kernel
theorem dX4_fittingOnes_92 : decode cX4_fittingOnes 92 = .ok (.iload 7, 2) := by decide +kernel
theorem dX4_fittingOnes_94 : decode cX4_fittingOnes 94 = .ok (.invokestatic 82, 3) := by decide +kernel
theorem dX4_fittingOnes_97 : decode cX4_fittingOnes 97 = .ok (.iload_n 3, 1) := by decide +kernel
theorem dX4_fittingOnes_98 : decode cX4_fittingOnes 98 = .ok (.invokestatic 82, 3) := by decide +kernel
theorem dX4_fittingOnes_101 : decode cX4_fittingOnes 101 = .ok (.if_icmp .ne 20, 3) := by decide +kernel
theorem dX4_fittingOnes_104 : decode cX4_fittingOnes 104 = .ok (.iload 5, 2) := by decide +kernel
theorem dX4_fittingOnes_106 : decode cX4_fittingOnes 106 = .ok (.iload 4, 2) := by decide +kernel
theorem dX4_fittingOnes_108 : decode cX4_fittingOnes 108 = .ok (.aload_n 0, 1) := by decide +kernel
theorem dX4_fittingOnes_109 : decode cX4_fittingOnes 109 = .ok (.getfield 12, 3) := by decide +kernel
theorem dX4_fittingOnes_112 : decode cX4_fittingOnes 112 = .ok (.iload 6, 2) := by decide +kernel
theorem dX4_fittingOnes_114 : decode cX4_fittingOnes 114 = .ok (.invokevirtual 62, 3) := by decide +kernel
theorem dX4_fittingOnes_117 : decode cX4_fittingOnes 117 = .ok (.iand, 1) := by decide +kernel
theorem dX4_fittingOnes_118 : decode cX4_fittingOnes 118 = .ok (.ior, 1) := by decide +kernel
theorem dX4_fittingOnes_119 : decode cX4_fittingOnes 119 = .ok (.istore 5, 2) := by decide +kernel
theorem dX4_fittingOnes_121 : decode cX4_fittingOnes 121 = .ok (.iinc 6 1, 3) := by decide +kernel
theorem dX4_fittingOnes_124 : decode cX4_fittingOnes 124 = .ok (.goto (-68), 3) := by decide +kernel
theorem dX4_fittingOnes_127 : decode cX4_fittingOnes 127 = .ok (.iload 5, 2) := by decide +kernel
theorem dX4_fittingOnes_129 : decode cX4_fittingOnes 129 = .ok (.ireturn, 1) := by decide +kernel
set_option maxRecDepth 20000 in
theorem ggX4_madeUpOnes_X4_fittingOnes : GoodIn wsX4_madeUpOnes wsX4_fittingOnes := goodIn_r _ [6, 1, 7, 8, 9, 10, 11, 12, 13, 14, 15, 16, 17, 18, 19, 20, 21, 22, 23, 24, 25, 26, 27, 28, 29, 30, 31, 32, 33, 34, 35, 36, 37, 38, 39, 40, 41, 42, 5, 43, 44, 45, 46, 47, 48, 49, 50, 51, 52, 53, 54, 55, 56, 57, 58, 59, 60, 61, 62, 63] (by decide +kernel) (by decide +kernel)
set_option maxRecDepth 20000 in
theorem gX4_madeUpOnes_X4_fittingOnes : GoodIn wsX4_madeUpOnes (wsV RX4 86 RX4 yX4_fittingOnes wsX4_fittingOnes) := goodIn_app (goodIn_of _ (by decide +kernel)) ggX4_madeUpOnes_X4_fittingOnes
theorem dX4_madeUpOnes_0 : decode cX4_madeUpOnes 0 = .ok (.iconst 0, 1) := by decide +kernel
theorem dX4_madeUpOnes_1 : decode cX4_madeUpOnes 1 = .ok (.istore_n 1, 1) := by decide +kernel
theorem dX4_madeUpOnes_2 : decode cX4_madeUpOnes 2 = .ok (.iconst 0, 1) := by decide +kernel
theorem dX4_madeUpOnes_3 : decode cX4_madeUpOnes 3 = .ok (.istore_n 2, 1) := by decide +kernel
theorem dX4_madeUpOnes_4 : decode cX4_madeUpOnes 4 = .ok (.iload_n 2, 1) := by decide +kernel
theorem dX4_madeUpOnes_5 : decode cX4_madeUpOnes 5 = .ok (.aload_n 0, 1) := by decide +kernel
theorem dX4_madeUpOnes_6 : decode cX4_madeUpOnes 6 = .ok (.getfield 21, 3) := by decide +kernel
theorem dX4_madeUpOnes_9 : decode cX4_madeUpOnes 9 = .ok (.getfield 85, 3) := by decide +kernel
theorem dX4_madeUpOnes_12 : decode cX4_madeUpOnes 12 = .ok (.if_icmp .ge 24, 3) := by decide +kernel
theorem dX4_madeUpOnes_15 : decode cX4_madeUpOnes 15 = .ok (.aload_n 0, 1) := by decide +kernel
theorem dX4_madeUpOnes_16 : decode cX4_madeUpOnes 16 = .ok (.iload_n 2, 1) := by decide +kernel
theorem dX4_madeUpOnes_17 : decode cX4_madeUpOnes 17 = .ok (.iconst 0, 1) := by decide +kernel
theorem dX4_madeUpOnes_18 : decode cX4_madeUpOnes 18 = .ok (.invokevirtual 86, 3) := by decide +kernel
theorem dX4_madeUpOnes_21 : decode cX4_madeUpOnes 21 = .ok (.ifCond .ne 9, 3) := by decide +kernel
theorem dX4_madeUpOnes_24 : decode cX4_madeUpOnes 24 = .ok (.iload_n 1, 1) := by decide +kernel
theorem dX4_madeUpOnes_25 : decode cX4_madeUpOnes 25 = .ok (.iconst 1, 1) := by decide +kernel
theorem dX4_madeUpOnes_26 : decode cX4_madeUpOnes 26 = .ok (.iload_n 2, 1) := by decide +kernel
theorem dX4_madeUpOnes_27 : decode cX4_madeUpOnes 27 = .ok (.ishl, 1) := by decide +kernel
theorem dX4_madeUpOnes_28 : decode cX4_madeUpOnes 28 = .ok (.ior, 1) := by decide +kernel
theorem dX4_madeUpOnes_29 : decode cX4_madeUpOnes 29 = .ok (.istore_n 1, 1) := by decide +kernel
theorem dX4_madeUpOnes_30 : decode cX4_madeUpOnes 30 = .ok (.iinc 2 1, 3) := by decide +kernel
theorem dX4_madeUpOnes_33 : decode cX4_madeUpOnes 33 = .ok (.goto (-29), 3) := by decide +kernel
theorem dX4_madeUpOnes_36 : decode cX4_madeUpOnes 36 = .ok (.iload_n 1, 1) := by decide +kernel
theorem dX4_madeUpOnes_37 : decode cX4_madeUpOnes 37 = .ok (.ireturn, 1) := by decide +kernel
set_option maxRecDepth 20000 in
theorem ggX4_blurred_X4_blurredFigure : GoodIn wsX4_blurred wsX4_blurredFigure := goodIn_r _ [4] (by decide +kernel) (by decide +kernel)
set_option maxRecDepth 20000 in
theorem gX4_blurred_X4_blurredFigure : GoodIn wsX4_blurred (va_wsS RX4 90 yX4_blurredFigure wsX4_blurredFigure) := goodIn_app (goodIn_of _ (by decide +kernel)) ggX4_blurred_X4_blurredFigure
theorem dX4_blurred_0 : decode cX4_blurred 0 = .ok (.bipush 10, 2) := by decide +kernel
theorem dX4_blurred_2 : decode cX4_blurred 2 = .ok (.iload_n 0, 1) := by decide +kernel
theorem dX4_blurred_3 : decode cX4_blurred 3 = .ok (.bipush 10, 2) := by decide +kernel
theorem dX4_blurred_5 : decode cX4_blurred 5 = .ok (.idiv, 1) := by decide +kernel
theorem dX4_blurred_6 : decode cX4_blurred 6 = .ok (.invokestatic 90, 3) := by decide +kernel
theorem dX4_blurred_9 : decode cX4_blurred 9 = .ok (.imul, 1) := by decide +kernel
theorem dX4_blurred_10 : decode cX4_blurred 10 = .ok (.iload_n 0, 1) := by decide +kernel
theorem dX4_blurred_11 : decode cX4_blurred 11 = .ok (.bipush 10, 2) := by decide +kernel
theorem dX4_blurred_13 : decode cX4_blurred 13 = .ok (.irem, 1) := by decide +kernel
theorem dX4_blurred_14 : decode cX4_blurred 14 = .ok (.invokestatic 90, 3) := by decide +kernel
theorem dX4_blurred_17 : decode cX4_blurred 17 = .ok (.iadd, 1) := by decide +kernel
theorem dX4_blurred_18 : decode cX4_blurred 18 = .ok (.ireturn, 1) := by decide +kernel
theorem dX4_blurredFigure_0 : decode cX4_blurredFigure 0 = .ok (.iload_n 0, 1) := by decide +kernel
theorem dX4_blurredFigure_1 : decode cX4_blurredFigure 1 = .ok (.bipush 8, 2) := by decide +kernel
theorem dX4_blurredFigure_3 : decode cX4_blurredFigure 3 = .ok (.if_icmp .ne 7, 3) := by decide +kernel
theorem dX4_blurredFigure_6 : decode cX4_blurredFigure 6 = .ok (.iconst 3, 1) := by decide +kernel
theorem dX4_blurredFigure_7 : decode cX4_blurredFigure 7 = .ok (.goto 4, 3) := by decide +kernel
theorem dX4_blurredFigure_10 : decode cX4_blurredFigure 10 = .ok (.iload_n 0, 1) := by decide +kernel
theorem dX4_blurredFigure_11 : decode cX4_blurredFigure 11 = .ok (.ireturn, 1) := by decide +kernel
theorem dJ6_bitCount_0f7a4_0 : decode cJ6_bitCount_0f7a4 0 = .ok (.iload_n 0, 1) := by decide +kernel
theorem dJ6_bitCount_0f7a4_1 : decode cJ6_bitCount_0f7a4 1 = .ok (.iload_n 0, 1) := by decide +kernel
theorem dJ6_bitCount_0f7a4_2 : decode cJ6_bitCount_0f7a4 2 = .ok (.iconst 1, 1) := by decide +kernel
theorem dJ6_bitCount_0f7a4_3 : decode cJ6_bitCount_0f7a4 3 = .ok (.iushr, 1) := by decide +kernel
theorem dJ6_bitCount_0f7a4_4 : decode cJ6_bitCount_0f7a4 4 = .ok (.ldc_w 265, 3) := by decide +kernel
theorem dJ6_bitCount_0f7a4_7 : decode cJ6_bitCount_0f7a4 7 = .ok (.iand, 1) := by decide +kernel
theorem dJ6_bitCount_0f7a4_8 : decode cJ6_bitCount_0f7a4 8 = .ok (.isub, 1) := by decide +kernel
theorem dJ6_bitCount_0f7a4_9 : decode cJ6_bitCount_0f7a4 9 = .ok (.istore_n 0, 1) := by decide +kernel
theorem dJ6_bitCount_0f7a4_10 : decode cJ6_bitCount_0f7a4 10 = .ok (.iload_n 0, 1) := by decide +kernel
theorem dJ6_bitCount_0f7a4_11 : decode cJ6_bitCount_0f7a4 11 = .ok (.ldc_w 266, 3) := by decide +kernel
theorem dJ6_bitCount_0f7a4_14 : decode cJ6_bitCount_0f7a4 14 = .ok (.iand, 1) := by decide +kernel
theorem dJ6_bitCount_0f7a4_15 : decode cJ6_bitCount_0f7a4 15 = .ok (.iload_n 0, 1) := by decide +kernel
theorem dJ6_bitCount_0f7a4_16 : decode cJ6_bitCount_0f7a4 16 = .ok (.iconst 2, 1) := by decide +kernel
theorem dJ6_bitCount_0f7a4_17 : decode cJ6_bitCount_0f7a4 17 = .ok (.iushr, 1) := by decide +kernel
theorem dJ6_bitCount_0f7a4_18 : decode cJ6_bitCount_0f7a4 18 = .ok (.ldc_w 266, 3) := by decide +kernel
theorem dJ6_bitCount_0f7a4_21 : decode cJ6_bitCount_0f7a4 21 = .ok (.iand, 1) := by decide +kernel
theorem dJ6_bitCount_0f7a4_22 : decode cJ6_bitCount_0f7a4 22 = .ok (.iadd, 1) := by decide +kernel
theorem dJ6_bitCount_0f7a4_23 : decode cJ6_bitCount_0f7a4 23 = .ok (.istore_n 0, 1) := by decide +kernel
theorem dJ6_bitCount_0f7a4_24 : decode cJ6_bitCount_0f7a4 24 = .ok (.iload_n 0, 1) := by decide +kernel
theorem dJ6_bitCount_0f7a4_25 : decode cJ6_bitCount_0f7a4 25 = .ok (.iload_n 0, 1) := by decide +kernel
theorem dJ6_bitCount_0f7a4_26 : decode cJ6_bitCount_0f7a4 26 = .ok (.iconst 4, 1) := by decide +kernel
theorem dJ6_bitCount_0f7a4_27 : decode cJ6_bitCount_0f7a4 27 = .ok (.iushr, 1) := by decide +kernel
theorem dJ6_bitCount_0f7a4_28 : decode cJ6_bitCount_0f7a4 28 = .ok (.iadd, 1) := by decide +kernel
theorem dJ6_bitCount_0f7a4_29 : decode cJ6_bitCount_0f7a4 29 = .ok (.ldc_w 267, 3) := by decide +kernel
theorem dJ6_bitCount_0f7a4_32 : decode cJ6_bitCount_0f7a4 32 = .ok (.iand, 1) := by decide +kernel
theorem dJ6_bitCount_0f7a4_33 : decode cJ6_bitCount_0f7a4 33 = .ok (.istore_n 0, 1) := by decide +kernel
theorem dJ6_bitCount_0f7a4_34 : decode cJ6_bitCount_0f7a4 34 = .ok (.iload_n 0, 1) := by decide +kernel
theorem dJ6_bitCount_0f7a4_35 : decode cJ6_bitCount_0f7a4 35 = .ok (.iload_n 0, 1) := by decide +kernel
theorem dJ6_bitCount_0f7a4_36 : decode cJ6_bitCount_0f7a4 36 = .ok (.bipush 8, 2) := by decide +kernel
theorem dJ6_bitCount_0f7a4_38 : decode cJ6_bitCount_0f7a4 38 = .ok (.iushr, 1) := by decide +kernel
theorem dJ6_bitCount_0f7a4_39 : decode cJ6_bitCount_0f7a4 39 = .ok (.iadd, 1) := by decide +kernel
theorem dJ6_bitCount_0f7a4_40 : decode cJ6_bitCount_0f7a4 40 = .ok (.istore_n 0, 1) := by decide +kernel
theorem dJ6_bitCount_0f7a4_41 : decode cJ6_bitCount_0f7a4 41 = .ok (.iload_n 0, 1) := by decide +kernel
theorem dJ6_bitCount_0f7a4_42 : decode cJ6_bitCount_0f7a4 42 = .ok (.iload_n 0, 1) := by decide +kernel
theorem dJ6_bitCount_0f7a4_43 : decode cJ6_bitCount_0f7a4 43 = .ok (.bipush 16, 2) := by decide +kernel
theorem dJ6_bitCount_0f7a4_45 : decode cJ6_bitCount_0f7a4 45 = .ok (.iushr, 1) := by decide +kernel
theorem dJ6_bitCount_0f7a4_46 : decode cJ6_bitCount_0f7a4 46 = .ok (.iadd, 1) := by decide +kernel
theorem dJ6_bitCount_0f7a4_47 : decode cJ6_bitCount_0f7a4 47 = .ok (.istore_n 0, 1) := by decide +kernel
theorem dJ6_bitCount_0f7a4_48 : decode cJ6_bitCount_0f7a4 48 = .ok (.iload_n 0, 1) := by decide +kernel
theorem dJ6_bitCount_0f7a4_49 : decode cJ6_bitCount_0f7a4 49 = .ok (.bipush 63, 2) := by decide +kernel
theorem dJ6_bitCount_0f7a4_51 : decode cJ6_bitCount_0f7a4 51 = .ok (.iand, 1) := by decide +kernel
theorem dJ6_bitCount_0f7a4_52 : decode cJ6_bitCount_0f7a4 52 = .ok (.ireturn, 1) := by decide +kernel
theorem dJ9_abs_0f7a4_0 : decode cJ9_abs_0f7a4 0 = .ok (.iload_n 0, 1) := by decide +kernel
theorem dJ9_abs_0f7a4_1 : decode cJ9_abs_0f7a4 1 = .ok (.ifCond .ge 8, 3) := by decide +kernel
theorem dJ9_abs_0f7a4_4 : decode cJ9_abs_0f7a4 4 = .ok (.iload_n 0, 1) := by decide +kernel
theorem dJ9_abs_0f7a4_5 : decode cJ9_abs_0f7a4 5 = .ok (.ineg, 1) := by decide +kernel
theorem dJ9_abs_0f7a4_6 : decode cJ9_abs_0f7a4 6 = .ok (.goto 4, 3) := by decide +kernel
theorem dJ9_abs_0f7a4_9 : decode cJ9_abs_0f7a4 9 = .ok (.iload_n 0, 1) := by decide +kernel
theorem dJ9_abs_0f7a4_10 : decode cJ9_abs_0f7a4 10 = .ok (.ireturn, 1) := by decide +kernel
theorem dJ9_max_7cf53_0 : decode cJ9_max_7cf53 0 = .ok (.iload_n 0, 1) := by decide +kernel
theorem dJ9_max_7cf53_1 : decode cJ9_max_7cf53 1 = .ok (.iload_n 1, 1) := by decide +kernel
theorem dJ9_max_7cf53_2 : decode cJ9_max_7cf53 2 = .ok (.if_icmp .lt 7, 3) := by decide +kernel
theorem dJ9_max_7cf53_5 : decode cJ9_max_7cf53 5 = .ok (.iload_n 0, 1) := by decide +kernel
theorem dJ9_max_7cf53_6 : decode cJ9_max_7cf53 6 = .ok (.goto 4, 3) := by decide +kernel
theorem dJ9_max_7cf53_9 : decode cJ9_max_7cf53 9 = .ok (.iload_n 1, 1) := by decide +kernel
theorem dJ9_max_7cf53_10 : decode cJ9_max_7cf53 10 = .ok (.ireturn, 1) := by decide +kernel
theorem dJ9_min_7cf53_0 : decode cJ9_min_7cf53 0 = .ok (.iload_n 0, 1) := by decide +kernel
theorem dJ9_min_7cf53_1 : decode cJ9_min_7cf53 1 = .ok (.iload_n 1, 1) := by decide +kernel
theorem dJ9_min_7cf53_2 : decode cJ9_min_7cf53 2 = .ok (.if_icmp .gt 7, 3) := by decide +kernel
theorem dJ9_min_7cf53_5 : decode cJ9_min_7cf53 5 = .ok (.iload_n 0, 1) := by decide +kernel
theorem dJ9_min_7cf53_6 : decode cJ9_min_7cf53 6 = .ok (.goto 4, 3) := by decide +kernel
theorem dJ9_min_7cf53_9 : decode cJ9_min_7cf53 9 = .ok (.iload_n 1, 1) := by decide +kernel
theorem dJ9_min_7cf53_10 : decode cJ9_min_7cf53 10 = .ok (.ireturn, 1) := by decide +kernel
set_option maxRecDepth 20000 in
theorem ggJ0_length_8abf5_J0_coder_7d493 : GoodIn wsJ0_length_8abf5 wsJ0_coder_7d493 := goodIn_r _ [6, 7, 8] (by decide +kernel) (by decide +kernel)
set_option maxRecDepth 20000 in
theorem gJ0_length_8abf5_J0_coder_7d493 : GoodIn wsJ0_length_8abf5 (wsV RJ0 335 RJ0 yJ0_coder_7d493 wsJ0_coder_7d493) := goodIn_app (goodIn_of _ (by decide +kernel)) ggJ0_length_8abf5_J0_coder_7d493
theorem dJ0_length_8abf5_0 : decode cJ0_length_8abf5 0 = .ok (.aload_n 0, 1) := by decide +kernel
theorem dJ0_length_8abf5_1 : decode cJ0_length_8abf5 1 = .ok (.getfield 9, 3) := by decide +kernel
theorem dJ0_length_8abf5_4 : decode cJ0_length_8abf5 4 = .ok (.arraylength, 1) := by decide +kernel
theorem dJ0_length_8abf5_5 : decode cJ0_length_8abf5 5 = .ok (.aload_n 0, 1) := by decide +kernel
theorem dJ0_length_8abf5_6 : decode cJ0_length_8abf5 6 = .ok (.invokevirtual 335, 3) := by decide +kernel
theorem dJ0_length_8abf5_9 : decode cJ0_length_8abf5 9 = .ok (.ishr, 1) := by decide +kernel
theorem dJ0_length_8abf5_10 : decode cJ0_length_8abf5 10 = .ok (.ireturn, 1) := by decide +kernel
theorem dJ0_isEmpty_aae02_0 : decode cJ0_isEmpty_aae02 0 = .ok (.aload_n 0, 1) := by decide +kernel
theorem dJ0_isEmpty_aae02_1 : decode cJ0_isEmpty_aae02 1 = .ok (.getfield 9, 3) := by decide +kernel
theorem dJ0_isEmpty_aae02_4 : decode cJ0_isEmpty_aae02 4 = .ok (.arraylength, 1) := by decide +kernel
theorem dJ0_isEmpty_aae02_5 : decode cJ0_isEmpty_aae02 5 = .ok (.ifCond .ne 7, 3) := by decide +kernel
theorem dJ0_isEmpty_aae02_8 : decode cJ0_isEmpty_aae02 8 = .ok (.iconst 1, 1) := by decide +kernel
theorem dJ0_isEmpty_aae02_9 : decode cJ0_isEmpty_aae02 9 = .ok (.goto 4, 3) := by decide +kernel
theorem dJ0_isEmpty_aae02_12 : decode cJ0_isEmpty_aae02 12 = .ok (.iconst 0, 1) := by decide +kernel
theorem dJ0_isEmpty_aae02_13 : decode cJ0_isEmpty_aae02 13 = .ok (.ireturn, 1) := by decide +kernel
set_option maxRecDepth 20000 in
theorem ggJ0_charAt_5068e_J0_isLatin1_aae02 : GoodIn wsJ0_charAt_5068e wsJ0_isLatin1_aae02 := goodIn_r _ [6, 7, 8] (by decide +kernel) (by decide +kernel)
set_option maxRecDepth 20000 in
theorem gJ0_charAt_5068e_J0_isLatin1_aae02 : GoodIn wsJ0_charAt_5068e (wsV RJ0 492 RJ0 yJ0_isLatin1_aae02 wsJ0_isLatin1_aae02) := goodIn_app (goodIn_of _ (by decide +kernel)) ggJ0_charAt_5068e_J0_isLatin1_aae02
set_option maxRecDepth 20000 in
theorem ggJ0_charAt_5068e_J1_charAt_3b067 : GoodIn wsJ0_charAt_5068e wsJ1_charAt_3b067 := goodIn_r _ [12, 13, 14, 5, 15, 16, 17, 18, 19, 20] (by decide +kernel) (by decide +kernel)
set_option maxRecDepth 20000 in
theorem gJ0_charAt_5068e_J1_charAt_3b067 : GoodIn wsJ0_charAt_5068e (va_wsS RJ0 495 yJ1_charAt_3b067 wsJ1_charAt_3b067) := goodIn_app (goodIn_of _ (by decide +kernel)) ggJ0_charAt_5068e_J1_charAt_3b067
set_option maxRecDepth 20000 in
theorem ggJ0_charAt_5068e_J2_charAt_3b067 : GoodIn wsJ0_charAt_5068e wsJ2_charAt_3b067 := goodIn_r _ [24, 25, 26, 23, 27, 28, 29, 30, 31, 14, 5, 15, 16, 17, 18, 19, 20, 32, 33, 34, 35, 36, 37] (by decide +kernel) (by decide +kernel)
set_option maxRecDepth 20000 in
theorem gJ0_charAt_5068e_J2_charAt_3b067 : GoodIn wsJ0_charAt_5068e (va_wsS RJ0 498 yJ2_charAt_3b067 wsJ2_charAt_3b067) := goodIn_app (goodIn_of _ (by decide +kernel)) ggJ0_charAt_5068e_J2_charAt_3b067
theorem dJ0_charAt_5068e_0 : decode cJ0_charAt_5068e 0 = .ok (.aload_n 0, 1) := by decide +kernel
theorem dJ0_charAt_5068e_1 : decode cJ0_charAt_5068e 1 = .ok (.invokevirtual 492, 3) := by decide +kernel
theorem dJ0_charAt_5068e_4 : decode cJ0_charAt_5068e 4 = .ok (.ifCond .eq 12, 3) := by decide +kernel
theorem dJ0_charAt_5068e_7 : decode cJ0_charAt_5068e 7 = .ok (.aload_n 0, 1) := by decide +kernel
theorem dJ0_charAt_5068e_8 : decode cJ0_charAt_5068e 8 = .ok (.getfield 9, 3) := by decide +kernel
theorem dJ0_charAt_5068e_11 : decode cJ0_charAt_5068e 11 = .ok (.iload_n 1, 1) := by decide +kernel
theorem dJ0_charAt_5068e_12 : decode cJ0_charAt_5068e 12 = .ok (.invokestatic 495, 3) := by decide +kernel
theorem dJ0_charAt_5068e_15 : decode cJ0_charAt_5068e 15 = .ok (.ireturn, 1) := by decide +kernel
theorem dJ0_charAt_5068e_16 : decode cJ0_charAt_5068e 16 = .ok (.aload_n 0, 1) := by decide +kernel
theorem dJ0_charAt_5068e_17 : decode cJ0_charAt_5068e 17 = .ok (.getfield 9, 3) := by decide +kernel
theorem dJ0_charAt_5068e_20 : decode cJ0_charAt_5068e 20 = .ok (.iload_n 1, 1) := by decide +kernel
theorem dJ0_charAt_5068e_21 : decode cJ0_charAt_5068e 21 = .ok (.invokestatic 498, 3) := by decide +kernel
theorem dJ0_charAt_5068e_24 : decode cJ0_charAt_5068e 24 = .ok (.ireturn, 1) := by decide +kernel
set_option maxRecDepth 20000 in
theorem ggJ0_indexOf_0f7a4_J0_indexOf_7cf53 : GoodIn wsJ0_indexOf_0f7a4 wsJ0_indexOf_7cf53 := goodIn_r _ [5, 6, 7, 8, 9, 4, 10, 11, 12, 13, 14, 15, 16, 17, 18, 19, 20, 21, 22, 23, 24, 25, 26, 27, 28, 29, 30, 31, 32, 33, 34, 35, 36, 37, 38, 39, 40, 41, 42, 43, 44, 45, 46, 47, 48, 49, 50, 51, 52, 53, 54, 55, 56, 57, 58, 59, 60, 61, 62, 63, 64, 65, 66, 67, 68, 69, 70, 71, 72, 73, 74, 75, 76, 77, 78, 79, 80, 81, 82, 83, 84, 85] (by decide +kernel) (by decide +kernel)
set_option maxRecDepth 20000 in
theorem gJ0_indexOf_0f7a4_J0_indexOf_7cf53 : GoodIn wsJ0_indexOf_0f7a4 (wsV RJ0 633 RJ0 yJ0_indexOf_7cf53 wsJ0_indexOf_7cf53) := goodIn_app (goodIn_of _ (by decide +kernel)) ggJ0_indexOf_0f7a4_J0_indexOf_7cf53
theorem dJ0_indexOf_0f7a4_0 : decode cJ0_indexOf_0f7a4 0 = .ok (.aload_n 0, 1) := by decide +kernel
theorem dJ0_indexOf_0f7a4_1 : decode cJ0_indexOf_0f7a4 1 = .ok (.iload_n 1, 1) := by decide +kernel
theorem dJ0_indexOf_0f7a4_2 : decode cJ0_indexOf_0f7a4 2 = .ok (.iconst 0, 1) := by decide +kernel
theorem dJ0_indexOf_0f7a4_3 : decode cJ0_indexOf_0f7a4 3 = .ok (.invokevirtual 633, 3) := by decide +kernel
theorem dJ0_indexOf_0f7a4_6 : decode cJ0_indexOf_0f7a4 6 = .ok (.ireturn, 1) := by decide +kernel
set_option maxRecDepth 20000 in
theorem ggJ0_indexOf_7cf53_J0_isLatin1_aae02 : GoodIn wsJ0_indexOf_7cf53 wsJ0_isLatin1_aae02 := goodIn_r _ [6, 7, 8] (by decide +kernel) (by decide +kernel)
set_option maxRecDepth 20000 in
theorem gJ0_indexOf_7cf53_J0_isLatin1_aae02 : GoodIn wsJ0_indexOf_7cf53 (wsV RJ0 492 RJ0 yJ0_isLatin1_aae02 wsJ0_isLatin1_aae02) := goodIn_app (goodIn_of _ (by decide +kernel)) ggJ0_indexOf_7cf53_J0_isLatin1_aae02
set_option maxRecDepth 20000 in
theorem ggJ0_indexOf_7cf53_J0_length_8abf5 : GoodIn wsJ0_indexOf_7cf53 wsJ0_length_8abf5 := goodIn_r _ [12, 1, 13, 14, 15, 5, 16, 7, 8] (by decide +kernel) (by decide +kernel)
set_option maxRecDepth 20000 in
theorem gJ0_indexOf_7cf53_J0_length_8abf5 : GoodIn wsJ0_indexOf_7cf53 (wsV RJ0 505 RJ0 yJ0_length_8abf5 wsJ0_length_8abf5) := goodIn_app (goodIn_of _ (by decide +kernel)) ggJ0_indexOf_7cf53_J0_length_8abf5
set_option maxRecDepth 20000 in
theorem ggJ0_indexOf_7cf53_J1_indexOf_4cfef : GoodIn wsJ0_indexOf_7cf53 wsJ1_indexOf_4cfef := goodIn_r _ [20, 21, 22, 23, 24, 25, 26, 27, 28, 29, 19, 30, 31, 32, 33] (by decide +kernel) (by decide +kernel)
set_option maxRecDepth 20000 in
theorem gJ0_indexOf_7cf53_J1_indexOf_4cfef : GoodIn wsJ0_indexOf_7cf53 (va_wsS RJ0 637 yJ1_indexOf_4cfef wsJ1_indexOf_4cfef) := goodIn_app (goodIn_of _ (by decide +kernel)) ggJ0_indexOf_7cf53_J1_indexOf_4cfef
set_option maxRecDepth 20000 in
theorem ggJ0_indexOf_7cf53_J2_indexOf_4cfef : GoodIn wsJ0_indexOf_7cf53 wsJ2_indexOf_4cfef := goodIn_r _ [37, 38, 22, 23, 24, 39, 26, 27, 40, 41, 42, 36, 43, 44, 45, 46, 47, 48, 49, 50, 51, 5, 52, 53, 54, 55, 56, 57, 58, 59, 60, 61, 62, 63, 64, 65, 66, 67, 68, 69, 70, 71, 72, 73, 74, 75, 76, 77, 78, 79, 80, 81] (by decide +kernel) (by decide +kernel)
set_option maxRecDepth 20000 in
theorem gJ0_indexOf_7cf53_J2_indexOf_4cfef : GoodIn wsJ0_indexOf_7cf53 (va_wsS RJ0 640 yJ2_indexOf_4cfef wsJ2_indexOf_4cfef) := goodIn_app (goodIn_of _ (by decide +kernel)) ggJ0_indexOf_7cf53_J2_indexOf_4cfef
theorem dJ0_indexOf_7cf53_0 : decode cJ0_indexOf_7cf53 0 = .ok (.aload_n 0, 1) := by decide +kernel
theorem dJ0_indexOf_7cf53_1 : decode cJ0_indexOf_7cf53 1 = .ok (.invokevirtual 492, 3) := by decide +kernel
theorem dJ0_indexOf_7cf53_4 : decode cJ0_indexOf_7cf53 4 = .ok (.ifCond .eq 19, 3) := by decide +kernel
theorem dJ0_indexOf_7cf53_7 : decode cJ0_indexOf_7cf53 7 = .ok (.aload_n 0, 1) := by decide +kernel
theorem dJ0_indexOf_7cf53_8 : decode cJ0_indexOf_7cf53 8 = .ok (.getfield 9, 3) := by decide +kernel
theorem dJ0_indexOf_7cf53_11 : decode cJ0_indexOf_7cf53 11 = .ok (.iload_n 1, 1) := by decide +kernel
theorem dJ0_indexOf_7cf53_12 : decode cJ0_indexOf_7cf53 12 = .ok (.iload_n 2, 1) := by decide +kernel
theorem dJ0_indexOf_7cf53_13 : decode cJ0_indexOf_7cf53 13 = .ok (.aload_n 0, 1) := by decide +kernel
theorem dJ0_indexOf_7cf53_14 : decode cJ0_indexOf_7cf53 14 = .ok (.invokevirtual 505, 3) := by decide +kernel
theorem dJ0_indexOf_7cf53_17 : decode cJ0_indexOf_7cf53 17 = .ok (.invokestatic 637, 3) := by decide +kernel
theorem dJ0_indexOf_7cf53_20 : decode cJ0_indexOf_7cf53 20 = .ok (.goto 16, 3) := by decide +kernel
theorem dJ0_indexOf_7cf53_23 : decode cJ0_indexOf_7cf53 23 = .ok (.aload_n 0, 1) := by decide +kernel
theorem dJ0_indexOf_7cf53_24 : decode cJ0_indexOf_7cf53 24 = .ok (.getfield 9, 3) := by decide +kernel
theorem dJ0_indexOf_7cf53_27 : decode cJ0_indexOf_7cf53 27 = .ok (.iload_n 1, 1) := by decide +kernel
theorem dJ0_indexOf_7cf53_28 : decode cJ0_indexOf_7cf53 28 = .ok (.iload_n 2, 1) := by decide +kernel
theorem dJ0_indexOf_7cf53_29 : decode cJ0_indexOf_7cf53 29 = .ok (.aload_n 0, 1) := by decide +kernel
theorem dJ0_indexOf_7cf53_30 : decode cJ0_indexOf_7cf53 30 = .ok (.invokevirtual 505, 3) := by decide +kernel
theorem dJ0_indexOf_7cf53_33 : decode cJ0_indexOf_7cf53 33 = .ok (.invokestatic 640, 3) := by decide +kernel
theorem dJ0_indexOf_7cf53_36 : decode cJ0_indexOf_7cf53 36 = .ok (.ireturn, 1) := by decide +kernel
theorem dJ0_coder_7d493_0 : decode cJ0_coder_7d493 0 = .ok (.getstatic 38, 3) := by decide +kernel
theorem dJ0_coder_7d493_3 : decode cJ0_coder_7d493 3 = .ok (.ifCond .eq 10, 3) := by decide +kernel
theorem dJ0_coder_7d493_6 : decode cJ0_coder_7d493 6 = .ok (.aload_n 0, 1) := by decide +kernel
theorem dJ0_coder_7d493_7 : decode cJ0_coder_7d493 7 = .ok (.getfield 15, 3) := by decide +kernel
theorem dJ0_coder_7d493_10 : decode cJ0_coder_7d493 10 = .ok (.goto 4, 3) := by decide +kernel
theorem dJ0_coder_7d493_13 : decode cJ0_coder_7d493 13 = .ok (.iconst 1, 1) := by decide +kernel
theorem dJ0_coder_7d493_14 : decode cJ0_coder_7d493 14 = .ok (.ireturn, 1) := by decide +kernel
theorem dJ0_isLatin1_aae02_0 : decode cJ0_isLatin1_aae02 0 = .ok (.getstatic 38, 3) := by decide +kernel
theorem dJ0_isLatin1_aae02_3 : decode cJ0_isLatin1_aae02 3 = .ok (.ifCond .eq 14, 3) := by decide +kernel
theorem dJ0_isLatin1_aae02_6 : decode cJ0_isLatin1_aae02 6 = .ok (.aload_n 0, 1) := by decide +kernel
theorem dJ0_isLatin1_aae02_7 : decode cJ0_isLatin1_aae02 7 = .ok (.getfield 15, 3) := by decide +kernel
theorem dJ0_isLatin1_aae02_10 : decode cJ0_isLatin1_aae02 10 = .ok (.ifCond .ne 7, 3) := by decide +kernel
theorem dJ0_isLatin1_aae02_13 : decode cJ0_isLatin1_aae02 13 = .ok (.iconst 1, 1) := by decide +kernel
theorem dJ0_isLatin1_aae02_14 : decode cJ0_isLatin1_aae02 14 = .ok (.goto 4, 3) := by decide +kernel
theorem dJ0_isLatin1_aae02_17 : decode cJ0_isLatin1_aae02 17 = .ok (.iconst 0, 1) := by decide +kernel
theorem dJ0_isLatin1_aae02_18 : decode cJ0_isLatin1_aae02 18 = .ok (.ireturn, 1) := by decide +kernel
set_option maxRecDepth 20000 in
theorem ggJ0_checkIndex_df160_J3_checkIndex_8e157 : GoodIn wsJ0_checkIndex_df160 wsJ3_checkIndex_8e157 := goodIn_r _ [5] (by decide +kernel) (by decide +kernel)
set_option maxRecDepth 20000 in
theorem gJ0_checkIndex_df160_J3_checkIndex_8e157 : GoodIn wsJ0_checkIndex_df160 (va_wsS RJ0 1059 yJ3_checkIndex_8e157 wsJ3_checkIndex_8e157) := goodIn_app (goodIn_of _ (by decide +kernel)) ggJ0_checkIndex_df160_J3_checkIndex_8e157
theorem dJ0_checkIndex_df160_0 : decode cJ0_checkIndex_df160 0 = .ok (.iload_n 0, 1) := by decide +kernel
theorem dJ0_checkIndex_df160_1 : decode cJ0_checkIndex_df160 1 = .ok (.iload_n 1, 1) := by decide +kernel
theorem dJ0_checkIndex_df160_2 : decode cJ0_checkIndex_df160 2 = .ok (.getstatic 1053, 3) := by decide +kernel
theorem dJ0_checkIndex_df160_5 : decode cJ0_checkIndex_df160 5 = .ok (.invokestatic 1059, 3) := by decide +kernel
theorem dJ0_checkIndex_df160_8 : decode cJ0_checkIndex_df160 8 = .ok (.pop, 1) := by decide +kernel
theorem dJ0_checkIndex_df160_9 : decode cJ0_checkIndex_df160 9 = .ok (.return_, 1) := by decide +kernel
set_option maxRecDepth 20000 in
theorem ggJ1_charAt_3b067_J0_checkIndex_df160 : GoodIn wsJ1_charAt_3b067 wsJ0_checkIndex_df160 := goodIn_r _ [4, 5, 6, 7, 8, 9] (by decide +kernel) (by decide +kernel)
set_option maxRecDepth 20000 in
theorem gJ1_charAt_3b067_J0_checkIndex_df160 : GoodIn wsJ1_charAt_3b067 (va_wsS RJ1 9 yJ0_checkIndex_df160 wsJ0_checkIndex_df160) := goodIn_app (goodIn_of _ (by decide +kernel)) ggJ1_charAt_3b067_J0_checkIndex_df160
theorem dJ1_charAt_3b067_0 : decode cJ1_charAt_3b067 0 = .ok (.iload_n 1, 1) := by decide +kernel
theorem dJ1_charAt_3b067_1 : decode cJ1_charAt_3b067 1 = .ok (.aload_n 0, 1) := by decide +kernel
theorem dJ1_charAt_3b067_2 : decode cJ1_charAt_3b067 2 = .ok (.arraylength, 1) := by decide +kernel
theorem dJ1_charAt_3b067_3 : decode cJ1_charAt_3b067 3 = .ok (.invokestatic 9, 3) := by decide +kernel
theorem dJ1_charAt_3b067_6 : decode cJ1_charAt_3b067 6 = .ok (.aload_n 0, 1) := by decide +kernel
theorem dJ1_charAt_3b067_7 : decode cJ1_charAt_3b067 7 = .ok (.iload_n 1, 1) := by decide +kernel
theorem dJ1_charAt_3b067_8 : decode cJ1_charAt_3b067 8 = .ok (.baload, 1) := by decide +kernel
theorem dJ1_charAt_3b067_9 : decode cJ1_charAt_3b067 9 = .ok (.sipush 255, 3) := by decide +kernel
theorem dJ1_charAt_3b067_12 : decode cJ1_charAt_3b067 12 = .ok (.iand, 1) := by decide +kernel
theorem dJ1_charAt_3b067_13 : decode cJ1_charAt_3b067 13 = .ok (.i2c, 1) := by decide +kernel
theorem dJ1_charAt_3b067_14 : decode cJ1_charAt_3b067 14 = .ok (.ireturn, 1) := by decide +kernel
theorem dJ1_canEncode_9a6ad_0 : decode cJ1_canEncode_9a6ad 0 = .ok (.iload_n 0, 1) := by decide +kernel
theorem dJ1_canEncode_9a6ad_1 : decode cJ1_canEncode_9a6ad 1 = .ok (.ifCond .lt 14, 3) := by decide +kernel
theorem dJ1_canEncode_9a6ad_4 : decode cJ1_canEncode_9a6ad 4 = .ok (.iload_n 0, 1) := by decide +kernel
theorem dJ1_canEncode_9a6ad_5 : decode cJ1_canEncode_9a6ad 5 = .ok (.sipush 255, 3) := by decide +kernel
theorem dJ1_canEncode_9a6ad_8 : decode cJ1_canEncode_9a6ad 8 = .ok (.if_icmp .gt 7, 3) := by decide +kernel
theorem dJ1_canEncode_9a6ad_11 : decode cJ1_canEncode_9a6ad 11 = .ok (.iconst 1, 1) := by decide +kernel
theorem dJ1_canEncode_9a6ad_12 : decode cJ1_canEncode_9a6ad 12 = .ok (.goto 4, 3) := by decide +kernel
theorem dJ1_canEncode_9a6ad_15 : decode cJ1_canEncode_9a6ad 15 = .ok (.iconst 0, 1) := by decide +kernel
theorem dJ1_canEncode_9a6ad_16 : decode cJ1_canEncode_9a6ad 16 = .ok (.ireturn, 1) := by decide +kernel
set_option maxRecDepth 20000 in
theorem ggJ1_indexOf_4cfef_J1_canEncode_9a6ad : GoodIn wsJ1_indexOf_4cfef wsJ1_canEncode_9a6ad := goodIn_r _ [11] (by decide +kernel) (by decide +kernel)
set_option maxRecDepth 20000 in
theorem gJ1_indexOf_4cfef_J1_canEncode_9a6ad : GoodIn wsJ1_indexOf_4cfef (va_wsS RJ1 88 yJ1_canEncode_9a6ad wsJ1_canEncode_9a6ad) := goodIn_app (goodIn_of _ (by decide +kernel)) ggJ1_indexOf_4cfef_J1_canEncode_9a6ad
set_option maxRecDepth 20000 in
theorem ggJ1_indexOf_4cfef_J1_indexOfChar_4cfef : GoodIn wsJ1_indexOf_4cfef wsJ1_indexOfChar_4cfef := goodIn_r _ [14] (by decide +kernel) (by decide +kernel)
set_option maxRecDepth 20000 in
theorem gJ1_indexOf_4cfef_J1_indexOfChar_4cfef : GoodIn wsJ1_indexOf_4cfef (va_wsS RJ1 95 yJ1_indexOfChar_4cfef wsJ1_indexOfChar_4cfef) := goodIn_app (goodIn_of _ (by decide +kernel)) ggJ1_indexOf_4cfef_J1_indexOfChar_4cfef
theorem dJ1_indexOf_4cfef_0 : decode cJ1_indexOf_4cfef 0 = .ok (.iload_n 1, 1) := by decide +kernel
theorem dJ1_indexOf_4cfef_1 : decode cJ1_indexOf_4cfef 1 = .ok (.invokestatic 88, 3) := by decide +kernel
theorem dJ1_indexOf_4cfef_4 : decode cJ1_indexOf_4cfef 4 = .ok (.ifCond .ne 5, 3) := by decide +kernel
theorem dJ1_indexOf_4cfef_7 : decode cJ1_indexOf_4cfef 7 = .ok (.iconst (-1), 1) := by decide +kernel
theorem dJ1_indexOf_4cfef_8 : decode cJ1_indexOf_4cfef 8 = .ok (.ireturn, 1) := by decide +kernel
theorem dJ1_indexOf_4cfef_9 : decode cJ1_indexOf_4cfef 9 = .ok (.iload_n 2, 1) := by decide +kernel
theorem dJ1_indexOf_4cfef_10 : decode cJ1_indexOf_4cfef 10 = .ok (.iconst 0, 1) := by decide +kernel
theorem dJ1_indexOf_4cfef_11 : decode cJ1_indexOf_4cfef 11 = .ok (.invokestatic 92, 3) := by decide +kernel
theorem dJ1_indexOf_4cfef_14 : decode cJ1_indexOf_4cfef 14 = .ok (.istore_n 2, 1) := by decide +kernel
theorem dJ1_indexOf_4cfef_15 : decode cJ1_indexOf_4cfef 15 = .ok (.iload_n 3, 1) := by decide +kernel
theorem dJ1_indexOf_4cfef_16 : decode cJ1_indexOf_4cfef 16 = .ok (.aload_n 0, 1) := by decide +kernel
theorem dJ1_indexOf_4cfef_17 : decode cJ1_indexOf_4cfef 17 = .ok (.arraylength, 1) := by decide +kernel
theorem dJ1_indexOf_4cfef_18 : decode cJ1_indexOf_4cfef 18 = .ok (.invokestatic 38, 3) := by decide +kernel
theorem dJ1_indexOf_4cfef_21 : decode cJ1_indexOf_4cfef 21 = .ok (.istore_n 3, 1) := by decide +kernel
theorem dJ1_indexOf_4cfef_22 : decode cJ1_indexOf_4cfef 22 = .ok (.iload_n 2, 1) := by decide +kernel
theorem dJ1_indexOf_4cfef_23 : decode cJ1_indexOf_4cfef 23 = .ok (.iload_n 3, 1) := by decide +kernel
theorem dJ1_indexOf_4cfef_24 : decode cJ1_indexOf_4cfef 24 = .ok (.if_icmp .lt 5, 3) := by decide +kernel
theorem dJ1_indexOf_4cfef_27 : decode cJ1_indexOf_4cfef 27 = .ok (.iconst (-1), 1) := by decide +kernel
theorem dJ1_indexOf_4cfef_28 : decode cJ1_indexOf_4cfef 28 = .ok (.ireturn, 1) := by decide +kernel
theorem dJ1_indexOf_4cfef_29 : decode cJ1_indexOf_4cfef 29 = .ok (.aload_n 0, 1) := by decide +kernel
theorem dJ1_indexOf_4cfef_30 : decode cJ1_indexOf_4cfef 30 = .ok (.iload_n 1, 1) := by decide +kernel
theorem dJ1_indexOf_4cfef_31 : decode cJ1_indexOf_4cfef 31 = .ok (.iload_n 2, 1) := by decide +kernel
theorem dJ1_indexOf_4cfef_32 : decode cJ1_indexOf_4cfef 32 = .ok (.iload_n 3, 1) := by decide +kernel
theorem dJ1_indexOf_4cfef_33 : decode cJ1_indexOf_4cfef 33 = .ok (.invokestatic 95, 3) := by decide +kernel
theorem dJ1_indexOf_4cfef_36 : decode cJ1_indexOf_4cfef 36 = .ok (.ireturn, 1) := by decide +kernel
theorem dJ1_indexOfChar_4cfef_0 : decode cJ1_indexOfChar_4cfef 0 = .ok (.iload_n 1, 1) := by decide +kernel
theorem dJ1_indexOfChar_4cfef_1 : decode cJ1_indexOfChar_4cfef 1 = .ok (.i2b, 1) := by decide +kernel
theorem dJ1_indexOfChar_4cfef_2 : decode cJ1_indexOfChar_4cfef 2 = .ok (.istore 4, 2) := by decide +kernel
theorem dJ1_indexOfChar_4cfef_4 : decode cJ1_indexOfChar_4cfef 4 = .ok (.iload_n 2, 1) := by decide +kernel
theorem dJ1_indexOfChar_4cfef_5 : decode cJ1_indexOfChar_4cfef 5 = .ok (.istore 5, 2) := by decide +kernel
theorem dJ1_indexOfChar_4cfef_7 : decode cJ1_indexOfChar_4cfef 7 = .ok (.iload 5, 2) := by decide +kernel
theorem dJ1_indexOfChar_4cfef_9 : decode cJ1_indexOfChar_4cfef 9 = .ok (.iload_n 3, 1) := by decide +kernel
theorem dJ1_indexOfChar_4cfef_10 : decode cJ1_indexOfChar_4cfef 10 = .ok (.if_icmp .ge 21, 3) := by decide +kernel
theorem dJ1_indexOfChar_4cfef_13 : decode cJ1_indexOfChar_4cfef 13 = .ok (.aload_n 0, 1) := by decide +kernel
theorem dJ1_indexOfChar_4cfef_14 : decode cJ1_indexOfChar_4cfef 14 = .ok (.iload 5, 2) := by decide +kernel
theorem dJ1_indexOfChar_4cfef_16 : decode cJ1_indexOfChar_4cfef 16 = .ok (.baload, 1) := by decide +kernel
theorem dJ1_indexOfChar_4cfef_17 : decode cJ1_indexOfChar_4cfef 17 = .ok (.iload 4, 2) := by decide +kernel
theorem dJ1_indexOfChar_4cfef_19 : decode cJ1_indexOfChar_4cfef 19 = .ok (.if_icmp .ne 6, 3) := by decide +kernel
theorem dJ1_indexOfChar_4cfef_22 : decode cJ1_indexOfChar_4cfef 22 = .ok (.iload 5, 2) := by decide +kernel
theorem dJ1_indexOfChar_4cfef_24 : decode cJ1_indexOfChar_4cfef 24 = .ok (.ireturn, 1) := by decide +kernel
theorem dJ1_indexOfChar_4cfef_25 : decode cJ1_indexOfChar_4cfef 25 = .ok (.iinc 5 1, 3) := by decide +kernel
theorem dJ1_indexOfChar_4cfef_28 : decode cJ1_indexOfChar_4cfef 28 = .ok (.goto (-21), 3) := by decide +kernel
theorem dJ1_indexOfChar_4cfef_31 : decode cJ1_indexOfChar_4cfef 31 = .ok (.iconst (-1), 1) := by decide +kernel
theorem dJ1_indexOfChar_4cfef_32 : decode cJ1_indexOfChar_4cfef 32 = .ok (.ireturn, 1) := by decide +kernel
theorem dJ3_checkIndex_8e157_0 : decode cJ3_checkIndex_8e157 0 = .ok (.iload_n 0, 1) := by decide +kernel
theorem dJ3_checkIndex_8e157_1 : decode cJ3_checkIndex_8e157 1 = .ok (.ifCond .lt 8, 3) := by decide +kernel
theorem dJ3_checkIndex_8e157_4 : decode cJ3_checkIndex_8e157 4 = .ok (.iload_n 0, 1) := by decide +kernel
theorem dJ3_checkIndex_8e157_5 : decode cJ3_checkIndex_8e157 5 = .ok (.iload_n 1, 1) := by decide +kernel
theorem dJ3_checkIndex_8e157_6 : decode cJ3_checkIndex_8e157 6 = .ok (.if_icmp .lt 10, 3) := by decide +kernel
theorem dJ3_checkIndex_8e157_9 : decode cJ3_checkIndex_8e157 9 = .ok (.aload_n 2, 1) := by decide +kernel
theorem dJ3_checkIndex_8e157_10 : decode cJ3_checkIndex_8e157 10 = .ok (.iload_n 0, 1) := by decide +kernel
theorem dJ3_checkIndex_8e157_11 : decode cJ3_checkIndex_8e157 11 = .ok (.iload_n 1, 1) := by decide +kernel
theorem dJ3_checkIndex_8e157_12 : decode cJ3_checkIndex_8e157 12 = .ok (.invokestatic 95, 3) := by decide +kernel
theorem dJ3_checkIndex_8e157_15 : decode cJ3_checkIndex_8e157 15 = .ok (.athrow, 1) := by decide +kernel
theorem dJ3_checkIndex_8e157_16 : decode cJ3_checkIndex_8e157 16 = .ok (.iload_n 0, 1) := by decide +kernel
theorem dJ3_checkIndex_8e157_17 : decode cJ3_checkIndex_8e157 17 = .ok (.ireturn, 1) := by decide +kernel
