theorem dX3_add_33 : decode cX3_add 33 = .ok (.getfield 7, 3) := by decide +kernel
theorem dX3_add_36 : decode cX3_add 36 = .ok (.iconst 0, 1) := by decide +kernel
theorem dX3_add_37 : decode cX3_add 37 = .ok (.iload_n 1, 1) := by decide +kernel
theorem dX3_add_38 : decode cX3_add 38 = .ok (.invokevirtual 27, 3) := by decide +kernel
theorem dX3_add_41 : decode cX3_add 41 = .ok (.aload_n 0, 1) := by decide +kernel
theorem dX3_add_42 : decode cX3_add 42 = .ok (.aload_n 0, 1) := by decide +kernel
theorem dX3_add_43 : decode cX3_add 43 = .ok (.getfield 7, 3) := by decide +kernel
theorem dX3_add_46 : decode cX3_add 46 = .ok (.iconst 1, 1) := by decide +kernel
theorem dX3_add_47 : decode cX3_add 47 = .ok (.iload_n 2, 1) := by decide +kernel
theorem dX3_add_48 : decode cX3_add 48 = .ok (.invokevirtual 27, 3) := by decide +kernel
theorem dX3_add_51 : decode cX3_add 51 = .ok (.aload_n 0, 1) := by decide +kernel
theorem dX3_add_52 : decode cX3_add 52 = .ok (.aload_n 0, 1) := by decide +kernel
theorem dX3_add_53 : decode cX3_add 53 = .ok (.getfield 7, 3) := by decide +kernel
theorem dX3_add_56 : decode cX3_add 56 = .ok (.iconst 2, 1) := by decide +kernel
theorem dX3_add_57 : decode cX3_add 57 = .ok (.iload_n 3, 1) := by decide +kernel
theorem dX3_add_58 : decode cX3_add 58 = .ok (.invokevirtual 27, 3) := by decide +kernel
theorem dX3_add_61 : decode cX3_add 61 = .ok (.aload_n 0, 1) := by decide +kernel
theorem dX3_add_62 : decode cX3_add 62 = .ok (.aload_n 0, 1) := by decide +kernel
theorem dX3_add_63 : decode cX3_add 63 = .ok (.getfield 7, 3) := by decide +kernel
theorem dX3_add_66 : decode cX3_add 66 = .ok (.iconst 3, 1) := by decide +kernel
theorem dX3_add_67 : decode cX3_add 67 = .ok (.iload 4, 2) := by decide +kernel
theorem dX3_add_69 : decode cX3_add 69 = .ok (.invokevirtual 27, 3) := by decide +kernel
theorem dX3_add_72 : decode cX3_add 72 = .ok (.aload_n 0, 1) := by decide +kernel
theorem dX3_add_73 : decode cX3_add 73 = .ok (.aload_n 0, 1) := by decide +kernel
theorem dX3_add_74 : decode cX3_add 74 = .ok (.getfield 7, 3) := by decide +kernel
theorem dX3_add_77 : decode cX3_add 77 = .ok (.iconst 4, 1) := by decide +kernel
theorem dX3_add_78 : decode cX3_add 78 = .ok (.iload 5, 2) := by decide +kernel
theorem dX3_add_80 : decode cX3_add 80 = .ok (.invokevirtual 27, 3) := by decide +kernel
theorem dX3_add_83 : decode cX3_add 83 = .ok (.aload_n 0, 1) := by decide +kernel
theorem dX3_add_84 : decode cX3_add 84 = .ok (.dup, 1) := by decide +kernel
theorem dX3_add_85 : decode cX3_add 85 = .ok (.getfield 7, 3) := by decide +kernel
theorem dX3_add_88 : decode cX3_add 88 = .ok (.iconst 1, 1) := by decide +kernel
theorem dX3_add_89 : decode cX3_add 89 = .ok (.iadd, 1) := by decide +kernel
theorem dX3_add_90 : decode cX3_add 90 = .ok (.putfield 7, 3) := by decide +kernel
theorem dX3_add_93 : decode cX3_add 93 = .ok (.return_, 1) := by decide +kernel
set_option maxRecDepth 20000 in
theorem ggX3_oddsFor_X1_differenceOf : GoodIn wsX3_oddsFor wsX1_differenceOf := goodIn_r _ [6, 7, 8, 9, 10, 11, 12, 13, 5, 14, 15, 16, 17, 18, 19, 20, 21, 22, 23, 24, 25, 26, 27, 28, 42, 43, 44] (by decide +kernel) (by decide +kernel)
set_option maxRecDepth 20000 in
theorem gX3_oddsFor_X1_differenceOf : GoodIn wsX3_oddsFor (wsV RX3 31 RX1 yX1_differenceOf wsX1_differenceOf) := goodIn_app (goodIn_of _ (by decide +kernel)) ggX3_oddsFor_X1_differenceOf
set_option maxRecDepth 20000 in
theorem ggX3_oddsFor_X1_magicLines : GoodIn wsX3_oddsFor wsX1_magicLines := goodIn_r _ [32, 33, 34, 35, 5, 36, 15, 37, 38, 39, 40, 11, 12, 13, 14, 16, 17, 18, 19, 20, 21, 22, 23, 24, 25, 26, 27, 28, 42, 43, 44] (by decide +kernel) (by decide +kernel)
set_option maxRecDepth 20000 in
theorem gX3_oddsFor_X1_magicLines : GoodIn wsX3_oddsFor (wsV RX3 38 RX1 yX1_magicLines wsX1_magicLines) := goodIn_app (goodIn_of _ (by decide +kernel)) ggX3_oddsFor_X1_magicLines
set_option maxRecDepth 20000 in
theorem ggX3_oddsFor_X1_lines : GoodIn wsX3_oddsFor wsX1_lines := goodIn_r _ [36, 15, 42, 43, 44] (by decide +kernel) (by decide +kernel)
set_option maxRecDepth 20000 in
theorem gX3_oddsFor_X1_lines : GoodIn wsX3_oddsFor (wsV RX3 42 RX1 yX1_lines wsX1_lines) := goodIn_app (goodIn_of _ (by decide +kernel)) ggX3_oddsFor_X1_lines
theorem dX3_oddsFor_0 : decode cX3_oddsFor 0 = .ok (.iload_n 1, 1) := by decide +kernel
theorem dX3_oddsFor_1 : decode cX3_oddsFor 1 = .ok (.ifCond .ne 15, 3) := by decide +kernel
theorem dX3_oddsFor_4 : decode cX3_oddsFor 4 = .ok (.fconst 1, 1) := by decide +kernel
theorem dX3_oddsFor_5 : decode cX3_oddsFor 5 = .ok (.aload_n 2, 1) := by decide +kernel
theorem dX3_oddsFor_6 : decode cX3_oddsFor 6 = .ok (.iload_n 0, 1) := by decide +kernel
theorem dX3_oddsFor_7 : decode cX3_oddsFor 7 = .ok (.invokevirtual 31, 3) := by decide +kernel
theorem dX3_oddsFor_10 : decode cX3_oddsFor 10 = .ok (.i2f, 1) := by decide +kernel
theorem dX3_oddsFor_11 : decode cX3_oddsFor 11 = .ok (.ldc 37, 2) := by decide +kernel
theorem dX3_oddsFor_13 : decode cX3_oddsFor 13 = .ok (.fdiv, 1) := by decide +kernel
theorem dX3_oddsFor_14 : decode cX3_oddsFor 14 = .ok (.fadd, 1) := by decide +kernel
theorem dX3_oddsFor_15 : decode cX3_oddsFor 15 = .ok (.freturn, 1) := by decide +kernel
theorem dX3_oddsFor_16 : decode cX3_oddsFor 16 = .ok (.fconst 1, 1) := by decide +kernel
theorem dX3_oddsFor_17 : decode cX3_oddsFor 17 = .ok (.aload_n 2, 1) := by decide +kernel
theorem dX3_oddsFor_18 : decode cX3_oddsFor 18 = .ok (.invokevirtual 38, 3) := by decide +kernel
theorem dX3_oddsFor_21 : decode cX3_oddsFor 21 = .ok (.i2f, 1) := by decide +kernel
theorem dX3_oddsFor_22 : decode cX3_oddsFor 22 = .ok (.aload_n 2, 1) := by decide +kernel
theorem dX3_oddsFor_23 : decode cX3_oddsFor 23 = .ok (.invokevirtual 42, 3) := by decide +kernel
theorem dX3_oddsFor_26 : decode cX3_oddsFor 26 = .ok (.i2f, 1) := by decide +kernel
theorem dX3_oddsFor_27 : decode cX3_oddsFor 27 = .ok (.fdiv, 1) := by decide +kernel
theorem dX3_oddsFor_28 : decode cX3_oddsFor 28 = .ok (.fadd, 1) := by decide +kernel
theorem dX3_oddsFor_29 : decode cX3_oddsFor 29 = .ok (.freturn, 1) := by decide +kernel
theorem dX3_putFact_0 : decode cX3_putFact 0 = .ok (.iload_n 1, 1) := by decide +kernel
theorem dX3_putFact_1 : decode cX3_putFact 1 = .ok (.iconst 5, 1) := by decide +kernel
theorem dX3_putFact_2 : decode cX3_putFact 2 = .ok (.imul, 1) := by decide +kernel
theorem dX3_putFact_3 : decode cX3_putFact 3 = .ok (.iload_n 2, 1) := by decide +kernel
theorem dX3_putFact_4 : decode cX3_putFact 4 = .ok (.iadd, 1) := by decide +kernel
theorem dX3_putFact_5 : decode cX3_putFact 5 = .ok (.istore 4, 2) := by decide +kernel
theorem dX3_putFact_7 : decode cX3_putFact 7 = .ok (.iload 4, 2) := by decide +kernel
theorem dX3_putFact_9 : decode cX3_putFact 9 = .ok (.ifCond .lt 21, 3) := by decide +kernel
theorem dX3_putFact_12 : decode cX3_putFact 12 = .ok (.iload 4, 2) := by decide +kernel
theorem dX3_putFact_14 : decode cX3_putFact 14 = .ok (.aload_n 0, 1) := by decide +kernel
theorem dX3_putFact_15 : decode cX3_putFact 15 = .ok (.getfield 13, 3) := by decide +kernel
theorem dX3_putFact_18 : decode cX3_putFact 18 = .ok (.arraylength, 1) := by decide +kernel
theorem dX3_putFact_19 : decode cX3_putFact 19 = .ok (.if_icmp .ge 11, 3) := by decide +kernel
theorem dX3_putFact_22 : decode cX3_putFact 22 = .ok (.aload_n 0, 1) := by decide +kernel
theorem dX3_putFact_23 : decode cX3_putFact 23 = .ok (.getfield 13, 3) := by decide +kernel
theorem dX3_putFact_26 : decode cX3_putFact 26 = .ok (.iload 4, 2) := by decide +kernel
theorem dX3_putFact_28 : decode cX3_putFact 28 = .ok (.iload_n 3, 1) := by decide +kernel
theorem dX3_putFact_29 : decode cX3_putFact 29 = .ok (.iastore, 1) := by decide +kernel
theorem dX3_putFact_30 : decode cX3_putFact 30 = .ok (.return_, 1) := by decide +kernel
theorem dX3_fact_0 : decode cX3_fact 0 = .ok (.iload_n 1, 1) := by decide +kernel
theorem dX3_fact_1 : decode cX3_fact 1 = .ok (.iconst 5, 1) := by decide +kernel
theorem dX3_fact_2 : decode cX3_fact 2 = .ok (.imul, 1) := by decide +kernel
theorem dX3_fact_3 : decode cX3_fact 3 = .ok (.iload_n 2, 1) := by decide +kernel
theorem dX3_fact_4 : decode cX3_fact 4 = .ok (.iadd, 1) := by decide +kernel
theorem dX3_fact_5 : decode cX3_fact 5 = .ok (.istore_n 3, 1) := by decide +kernel
theorem dX3_fact_6 : decode cX3_fact 6 = .ok (.iload_n 3, 1) := by decide +kernel
theorem dX3_fact_7 : decode cX3_fact 7 = .ok (.ifCond .lt 21, 3) := by decide +kernel
theorem dX3_fact_10 : decode cX3_fact 10 = .ok (.iload_n 3, 1) := by decide +kernel
theorem dX3_fact_11 : decode cX3_fact 11 = .ok (.aload_n 0, 1) := by decide +kernel
theorem dX3_fact_12 : decode cX3_fact 12 = .ok (.getfield 13, 3) := by decide +kernel
theorem dX3_fact_15 : decode cX3_fact 15 = .ok (.arraylength, 1) := by decide +kernel
theorem dX3_fact_16 : decode cX3_fact 16 = .ok (.if_icmp .ge 12, 3) := by decide +kernel
theorem dX3_fact_19 : decode cX3_fact 19 = .ok (.aload_n 0, 1) := by decide +kernel
theorem dX3_fact_20 : decode cX3_fact 20 = .ok (.getfield 13, 3) := by decide +kernel
theorem dX3_fact_23 : decode cX3_fact 23 = .ok (.iload_n 3, 1) := by decide +kernel
theorem dX3_fact_24 : decode cX3_fact 24 = .ok (.iaload, 1) := by decide +kernel
theorem dX3_fact_25 : decode cX3_fact 25 = .ok (.goto 4, 3) := by decide +kernel
theorem dX3_fact_28 : decode cX3_fact 28 = .ok (.iconst 0, 1) := by decide +kernel
theorem dX3_fact_29 : decode cX3_fact 29 = .ok (.ireturn, 1) := by decide +kernel
theorem dX3_oddsOf_0 : decode cX3_oddsOf 0 = .ok (.iload_n 1, 1) := by decide +kernel
theorem dX3_oddsOf_1 : decode cX3_oddsOf 1 = .ok (.ifCond .lt 21, 3) := by decide +kernel
theorem dX3_oddsOf_4 : decode cX3_oddsOf 4 = .ok (.iload_n 1, 1) := by decide +kernel
theorem dX3_oddsOf_5 : decode cX3_oddsOf 5 = .ok (.aload_n 0, 1) := by decide +kernel
theorem dX3_oddsOf_6 : decode cX3_oddsOf 6 = .ok (.getfield 17, 3) := by decide +kernel
theorem dX3_oddsOf_9 : decode cX3_oddsOf 9 = .ok (.arraylength, 1) := by decide +kernel
theorem dX3_oddsOf_10 : decode cX3_oddsOf 10 = .ok (.if_icmp .ge 12, 3) := by decide +kernel
theorem dX3_oddsOf_13 : decode cX3_oddsOf 13 = .ok (.aload_n 0, 1) := by decide +kernel
theorem dX3_oddsOf_14 : decode cX3_oddsOf 14 = .ok (.getfield 17, 3) := by decide +kernel
theorem dX3_oddsOf_17 : decode cX3_oddsOf 17 = .ok (.iload_n 1, 1) := by decide +kernel
theorem dX3_oddsOf_18 : decode cX3_oddsOf 18 = .ok (.faload, 1) := by decide +kernel
theorem dX3_oddsOf_19 : decode cX3_oddsOf 19 = .ok (.goto 4, 3) := by decide +kernel
theorem dX3_oddsOf_22 : decode cX3_oddsOf 22 = .ok (.fconst 1, 1) := by decide +kernel
theorem dX3_oddsOf_23 : decode cX3_oddsOf 23 = .ok (.freturn, 1) := by decide +kernel
set_option maxRecDepth 20000 in
theorem ggX3_isRight_X3_fact : GoodIn wsX3_isRight wsX3_fact := goodIn_r _ [5, 6, 31, 32, 33] (by decide +kernel) (by decide +kernel)
set_option maxRecDepth 20000 in
theorem gX3_isRight_X3_fact : GoodIn wsX3_isRight (wsV RX3 45 RX3 yX3_fact wsX3_fact) := goodIn_app (goodIn_of _ (by decide +kernel)) ggX3_isRight_X3_fact
set_option maxRecDepth 20000 in
theorem ggX3_isRight_X1_isMagicLine : GoodIn wsX3_isRight wsX1_isMagicLine := goodIn_r _ [11, 12, 13, 14, 10, 15, 16, 17, 18, 19, 20, 21, 22, 23, 24, 25, 26, 27, 28, 29, 34, 35, 36] (by decide +kernel) (by decide +kernel)
set_option maxRecDepth 20000 in
theorem gX3_isRight_X1_isMagicLine : GoodIn wsX3_isRight (wsV RX3 49 RX1 yX1_isMagicLine wsX1_isMagicLine) := goodIn_app (goodIn_of _ (by decide +kernel)) ggX3_isRight_X1_isMagicLine
set_option maxRecDepth 20000 in
theorem ggX3_isRight_X1_sumOf : GoodIn wsX3_isRight wsX1_sumOf := goodIn_r _ [15, 16, 17, 18, 19, 10, 20, 21, 22, 23, 24, 25, 34, 35, 36] (by decide +kernel) (by decide +kernel)
set_option maxRecDepth 20000 in
theorem gX3_isRight_X1_sumOf : GoodIn wsX3_isRight (wsV RX3 53 RX1 yX1_sumOf wsX1_sumOf) := goodIn_app (goodIn_of _ (by decide +kernel)) ggX3_isRight_X1_sumOf
theorem dX3_isRight_0 : decode cX3_isRight 0 = .ok (.aload_n 0, 1) := by decide +kernel
theorem dX3_isRight_1 : decode cX3_isRight 1 = .ok (.iload_n 1, 1) := by decide +kernel
theorem dX3_isRight_2 : decode cX3_isRight 2 = .ok (.iconst 1, 1) := by decide +kernel
theorem dX3_isRight_3 : decode cX3_isRight 3 = .ok (.invokevirtual 45, 3) := by decide +kernel
theorem dX3_isRight_6 : decode cX3_isRight 6 = .ok (.istore_n 3, 1) := by decide +kernel
theorem dX3_isRight_7 : decode cX3_isRight 7 = .ok (.aload_n 0, 1) := by decide +kernel
theorem dX3_isRight_8 : decode cX3_isRight 8 = .ok (.iload_n 1, 1) := by decide +kernel
theorem dX3_isRight_9 : decode cX3_isRight 9 = .ok (.iconst 2, 1) := by decide +kernel
theorem dX3_isRight_10 : decode cX3_isRight 10 = .ok (.invokevirtual 45, 3) := by decide +kernel
theorem dX3_isRight_13 : decode cX3_isRight 13 = .ok (.lookupswitch 53 #[(0, 27), (1, 33)], 27) := by decide +kernel
theorem dX3_isRight_40 : decode cX3_isRight 40 = .ok (.aload_n 2, 1) := by decide +kernel
theorem dX3_isRight_41 : decode cX3_isRight 41 = .ok (.iload_n 3, 1) := by decide +kernel
theorem dX3_isRight_42 : decode cX3_isRight 42 = .ok (.invokevirtual 49, 3) := by decide +kernel
theorem dX3_isRight_45 : decode cX3_isRight 45 = .ok (.ireturn, 1) := by decide +kernel
theorem dX3_isRight_46 : decode cX3_isRight 46 = .ok (.aload_n 2, 1) := by decide +kernel
theorem dX3_isRight_47 : decode cX3_isRight 47 = .ok (.iload_n 3, 1) := by decide +kernel
theorem dX3_isRight_48 : decode cX3_isRight 48 = .ok (.invokevirtual 53, 3) := by decide +kernel
theorem dX3_isRight_51 : decode cX3_isRight 51 = .ok (.aload_n 0, 1) := by decide +kernel
theorem dX3_isRight_52 : decode cX3_isRight 52 = .ok (.iload_n 1, 1) := by decide +kernel
theorem dX3_isRight_53 : decode cX3_isRight 53 = .ok (.iconst 4, 1) := by decide +kernel
theorem dX3_isRight_54 : decode cX3_isRight 54 = .ok (.invokevirtual 45, 3) := by decide +kernel
theorem dX3_isRight_57 : decode cX3_isRight 57 = .ok (.if_icmp .le 7, 3) := by decide +kernel
theorem dX3_isRight_60 : decode cX3_isRight 60 = .ok (.iconst 1, 1) := by decide +kernel
theorem dX3_isRight_61 : decode cX3_isRight 61 = .ok (.goto 4, 3) := by decide +kernel
theorem dX3_isRight_64 : decode cX3_isRight 64 = .ok (.iconst 0, 1) := by decide +kernel
theorem dX3_isRight_65 : decode cX3_isRight 65 = .ok (.ireturn, 1) := by decide +kernel
theorem dX3_isRight_66 : decode cX3_isRight 66 = .ok (.aload_n 2, 1) := by decide +kernel
theorem dX3_isRight_67 : decode cX3_isRight 67 = .ok (.iload_n 3, 1) := by decide +kernel
theorem dX3_isRight_68 : decode cX3_isRight 68 = .ok (.invokevirtual 53, 3) := by decide +kernel
theorem dX3_isRight_71 : decode cX3_isRight 71 = .ok (.aload_n 0, 1) := by decide +kernel
theorem dX3_isRight_72 : decode cX3_isRight 72 = .ok (.iload_n 1, 1) := by decide +kernel
theorem dX3_isRight_73 : decode cX3_isRight 73 = .ok (.iconst 4, 1) := by decide +kernel
theorem dX3_isRight_74 : decode cX3_isRight 74 = .ok (.invokevirtual 45, 3) := by decide +kernel
theorem dX3_isRight_77 : decode cX3_isRight 77 = .ok (.if_icmp .ge 7, 3) := by decide +kernel
theorem dX3_isRight_80 : decode cX3_isRight 80 = .ok (.iconst 1, 1) := by decide +kernel
theorem dX3_isRight_81 : decode cX3_isRight 81 = .ok (.goto 4, 3) := by decide +kernel
theorem dX3_isRight_84 : decode cX3_isRight 84 = .ok (.iconst 0, 1) := by decide +kernel
theorem dX3_isRight_85 : decode cX3_isRight 85 = .ok (.ireturn, 1) := by decide +kernel
set_option maxRecDepth 20000 in
theorem ggX3_payout_X3_fact : GoodIn wsX3_payout wsX3_fact := goodIn_r _ [5, 6, 12, 13, 14] (by decide +kernel) (by decide +kernel)
set_option maxRecDepth 20000 in
theorem gX3_payout_X3_fact : GoodIn wsX3_payout (wsV RX3 45 RX3 yX3_fact wsX3_fact) := goodIn_app (goodIn_of _ (by decide +kernel)) ggX3_payout_X3_fact
set_option maxRecDepth 20000 in
theorem ggX3_payout_X3_oddsOf : GoodIn wsX3_payout wsX3_oddsOf := goodIn_r _ [10, 11, 12, 13, 14] (by decide +kernel) (by decide +kernel)
set_option maxRecDepth 20000 in
theorem gX3_payout_X3_oddsOf : GoodIn wsX3_payout (wsV RX3 56 RX3 yX3_oddsOf wsX3_oddsOf) := goodIn_app (goodIn_of _ (by decide +kernel)) ggX3_payout_X3_oddsOf
theorem dX3_payout_0 : decode cX3_payout 0 = .ok (.aload_n 0, 1) := by decide +kernel
theorem dX3_payout_1 : decode cX3_payout 1 = .ok (.iload_n 1, 1) := by decide +kernel
theorem dX3_payout_2 : decode cX3_payout 2 = .ok (.iconst 3, 1) := by decide +kernel
theorem dX3_payout_3 : decode cX3_payout 3 = .ok (.invokevirtual 45, 3) := by decide +kernel
theorem dX3_payout_6 : decode cX3_payout 6 = .ok (.i2f, 1) := by decide +kernel
theorem dX3_payout_7 : decode cX3_payout 7 = .ok (.aload_n 0, 1) := by decide +kernel
theorem dX3_payout_8 : decode cX3_payout 8 = .ok (.iload_n 1, 1) := by decide +kernel
theorem dX3_payout_9 : decode cX3_payout 9 = .ok (.invokevirtual 56, 3) := by decide +kernel
theorem dX3_payout_12 : decode cX3_payout 12 = .ok (.fmul, 1) := by decide +kernel
theorem dX3_payout_13 : decode cX3_payout 13 = .ok (.f2i, 1) := by decide +kernel
theorem dX3_payout_14 : decode cX3_payout 14 = .ok (.ireturn, 1) := by decide +kernel
set_option maxRecDepth 20000 in
theorem ggX3_stakesWith_X3_fact : GoodIn wsX3_stakesWith wsX3_fact := goodIn_r _ [6, 7, 8, 9, 10] (by decide +kernel) (by decide +kernel)
set_option maxRecDepth 20000 in
theorem gX3_stakesWith_X3_fact : GoodIn wsX3_stakesWith (wsV RX3 45 RX3 yX3_fact wsX3_fact) := goodIn_app (goodIn_of _ (by decide +kernel)) ggX3_stakesWith_X3_fact
theorem dX3_stakesWith_0 : decode cX3_stakesWith 0 = .ok (.iconst 0, 1) := by decide +kernel
theorem dX3_stakesWith_1 : decode cX3_stakesWith 1 = .ok (.istore_n 3, 1) := by decide +kernel
theorem dX3_stakesWith_2 : decode cX3_stakesWith 2 = .ok (.iconst 0, 1) := by decide +kernel
theorem dX3_stakesWith_3 : decode cX3_stakesWith 3 = .ok (.istore 4, 2) := by decide +kernel
theorem dX3_stakesWith_5 : decode cX3_stakesWith 5 = .ok (.iload 4, 2) := by decide +kernel
theorem dX3_stakesWith_7 : decode cX3_stakesWith 7 = .ok (.aload_n 0, 1) := by decide +kernel
theorem dX3_stakesWith_8 : decode cX3_stakesWith 8 = .ok (.getfield 7, 3) := by decide +kernel
theorem dX3_stakesWith_11 : decode cX3_stakesWith 11 = .ok (.if_icmp .ge 23, 3) := by decide +kernel
theorem dX3_stakesWith_14 : decode cX3_stakesWith 14 = .ok (.aload_n 0, 1) := by decide +kernel
theorem dX3_stakesWith_15 : decode cX3_stakesWith 15 = .ok (.iload 4, 2) := by decide +kernel
theorem dX3_stakesWith_17 : decode cX3_stakesWith 17 = .ok (.iload_n 1, 1) := by decide +kernel
theorem dX3_stakesWith_18 : decode cX3_stakesWith 18 = .ok (.invokevirtual 45, 3) := by decide +kernel
theorem dX3_stakesWith_21 : decode cX3_stakesWith 21 = .ok (.iload_n 2, 1) := by decide +kernel
theorem dX3_stakesWith_22 : decode cX3_stakesWith 22 = .ok (.if_icmp .ne 6, 3) := by decide +kernel
theorem dX3_stakesWith_25 : decode cX3_stakesWith 25 = .ok (.iinc 3 1, 3) := by decide +kernel
theorem dX3_stakesWith_28 : decode cX3_stakesWith 28 = .ok (.iinc 4 1, 3) := by decide +kernel
theorem dX3_stakesWith_31 : decode cX3_stakesWith 31 = .ok (.goto (-26), 3) := by decide +kernel
theorem dX3_stakesWith_34 : decode cX3_stakesWith 34 = .ok (.iload_n 3, 1) := by decide +kernel
theorem dX3_stakesWith_35 : decode cX3_stakesWith 35 = .ok (.ireturn, 1) := by decide +kernel
set_option maxRecDepth 20000 in
theorem ggX3_amountWith_X3_fact : GoodIn wsX3_amountWith wsX3_fact := goodIn_r _ [6, 7, 8, 9, 10] (by decide +kernel) (by decide +kernel)
set_option maxRecDepth 20000 in
theorem gX3_amountWith_X3_fact : GoodIn wsX3_amountWith (wsV RX3 45 RX3 yX3_fact wsX3_fact) := goodIn_app (goodIn_of _ (by decide +kernel)) ggX3_amountWith_X3_fact
theorem dX3_amountWith_0 : decode cX3_amountWith 0 = .ok (.iconst 0, 1) := by decide +kernel
theorem dX3_amountWith_1 : decode cX3_amountWith 1 = .ok (.istore_n 3, 1) := by decide +kernel
theorem dX3_amountWith_2 : decode cX3_amountWith 2 = .ok (.iconst 0, 1) := by decide +kernel
theorem dX3_amountWith_3 : decode cX3_amountWith 3 = .ok (.istore 4, 2) := by decide +kernel
theorem dX3_amountWith_5 : decode cX3_amountWith 5 = .ok (.iload 4, 2) := by decide +kernel
theorem dX3_amountWith_7 : decode cX3_amountWith 7 = .ok (.aload_n 0, 1) := by decide +kernel
theorem dX3_amountWith_8 : decode cX3_amountWith 8 = .ok (.getfield 7, 3) := by decide +kernel
theorem dX3_amountWith_11 : decode cX3_amountWith 11 = .ok (.if_icmp .ge 30, 3) := by decide +kernel
theorem dX3_amountWith_14 : decode cX3_amountWith 14 = .ok (.aload_n 0, 1) := by decide +kernel
theorem dX3_amountWith_15 : decode cX3_amountWith 15 = .ok (.iload 4, 2) := by decide +kernel
theorem dX3_amountWith_17 : decode cX3_amountWith 17 = .ok (.iload_n 1, 1) := by decide +kernel
theorem dX3_amountWith_18 : decode cX3_amountWith 18 = .ok (.invokevirtual 45, 3) := by decide +kernel
theorem dX3_amountWith_21 : decode cX3_amountWith 21 = .ok (.iload_n 2, 1) := by decide +kernel
theorem dX3_amountWith_22 : decode cX3_amountWith 22 = .ok (.if_icmp .ne 13, 3) := by decide +kernel
theorem dX3_amountWith_25 : decode cX3_amountWith 25 = .ok (.iload_n 3, 1) := by decide +kernel
theorem dX3_amountWith_26 : decode cX3_amountWith 26 = .ok (.aload_n 0, 1) := by decide +kernel
theorem dX3_amountWith_27 : decode cX3_amountWith 27 = .ok (.iload 4, 2) := by decide +kernel
theorem dX3_amountWith_29 : decode cX3_amountWith 29 = .ok (.iconst 3, 1) := by decide +kernel
theorem dX3_amountWith_30 : decode cX3_amountWith 30 = .ok (.invokevirtual 45, 3) := by decide +kernel
theorem dX3_amountWith_33 : decode cX3_amountWith 33 = .ok (.iadd, 1) := by decide +kernel
theorem dX3_amountWith_34 : decode cX3_amountWith 34 = .ok (.istore_n 3, 1) := by decide +kernel
theorem dX3_amountWith_35 : decode cX3_amountWith 35 = .ok (.iinc 4 1, 3) := by decide +kernel
theorem dX3_amountWith_38 : decode cX3_amountWith 38 = .ok (.goto (-33), 3) := by decide +kernel
theorem dX3_amountWith_41 : decode cX3_amountWith 41 = .ok (.iload_n 3, 1) := by decide +kernel
theorem dX3_amountWith_42 : decode cX3_amountWith 42 = .ok (.ireturn, 1) := by decide +kernel
set_option maxRecDepth 20000 in
theorem ggX3_amountOfAll_X3_fact : GoodIn wsX3_amountOfAll wsX3_fact := goodIn_r _ [6, 7, 8, 9, 10] (by decide +kernel) (by decide +kernel)
set_option maxRecDepth 20000 in
theorem gX3_amountOfAll_X3_fact : GoodIn wsX3_amountOfAll (wsV RX3 45 RX3 yX3_fact wsX3_fact) := goodIn_app (goodIn_of _ (by decide +kernel)) ggX3_amountOfAll_X3_fact
theorem dX3_amountOfAll_0 : decode cX3_amountOfAll 0 = .ok (.iconst 0, 1) := by decide +kernel
theorem dX3_amountOfAll_1 : decode cX3_amountOfAll 1 = .ok (.istore_n 1, 1) := by decide +kernel
theorem dX3_amountOfAll_2 : decode cX3_amountOfAll 2 = .ok (.iconst 0, 1) := by decide +kernel
theorem dX3_amountOfAll_3 : decode cX3_amountOfAll 3 = .ok (.istore_n 2, 1) := by decide +kernel
theorem dX3_amountOfAll_4 : decode cX3_amountOfAll 4 = .ok (.iload_n 2, 1) := by decide +kernel
theorem dX3_amountOfAll_5 : decode cX3_amountOfAll 5 = .ok (.aload_n 0, 1) := by decide +kernel
theorem dX3_amountOfAll_6 : decode cX3_amountOfAll 6 = .ok (.getfield 7, 3) := by decide +kernel
theorem dX3_amountOfAll_9 : decode cX3_amountOfAll 9 = .ok (.if_icmp .ge 18, 3) := by decide +kernel
theorem dX3_amountOfAll_12 : decode cX3_amountOfAll 12 = .ok (.iload_n 1, 1) := by decide +kernel
theorem dX3_amountOfAll_13 : decode cX3_amountOfAll 13 = .ok (.aload_n 0, 1) := by decide +kernel
theorem dX3_amountOfAll_14 : decode cX3_amountOfAll 14 = .ok (.iload_n 2, 1) := by decide +kernel
theorem dX3_amountOfAll_15 : decode cX3_amountOfAll 15 = .ok (.iconst 3, 1) := by decide +kernel
theorem dX3_amountOfAll_16 : decode cX3_amountOfAll 16 = .ok (.invokevirtual 45, 3) := by decide +kernel
theorem dX3_amountOfAll_19 : decode cX3_amountOfAll 19 = .ok (.iadd, 1) := by decide +kernel
theorem dX3_amountOfAll_20 : decode cX3_amountOfAll 20 = .ok (.istore_n 1, 1) := by decide +kernel
theorem dX3_amountOfAll_21 : decode cX3_amountOfAll 21 = .ok (.iinc 2 1, 3) := by decide +kernel
theorem dX3_amountOfAll_24 : decode cX3_amountOfAll 24 = .ok (.goto (-20), 3) := by decide +kernel
theorem dX3_amountOfAll_27 : decode cX3_amountOfAll 27 = .ok (.iload_n 1, 1) := by decide +kernel
theorem dX3_amountOfAll_28 : decode cX3_amountOfAll 28 = .ok (.ireturn, 1) := by decide +kernel
set_option maxRecDepth 20000 in
theorem ggX3_dueTo_X3_fact : GoodIn wsX3_dueTo wsX3_fact := goodIn_r _ [6, 7, 45, 46, 47] (by decide +kernel) (by decide +kernel)
set_option maxRecDepth 20000 in
theorem gX3_dueTo_X3_fact : GoodIn wsX3_dueTo (wsV RX3 45 RX3 yX3_fact wsX3_fact) := goodIn_app (goodIn_of _ (by decide +kernel)) ggX3_dueTo_X3_fact
set_option maxRecDepth 20000 in
theorem ggX3_dueTo_X3_isRight : GoodIn wsX3_dueTo wsX3_isRight := goodIn_r _ [11, 2, 3, 4, 5, 6, 7, 12, 13, 14, 15, 16, 17, 18, 19, 20, 21, 22, 23, 24, 25, 26, 27, 28, 29, 30, 31, 32, 33, 34, 35, 45, 46, 47, 48, 49, 50] (by decide +kernel) (by decide +kernel)
set_option maxRecDepth 20000 in
theorem gX3_dueTo_X3_isRight : GoodIn wsX3_dueTo (wsV RX3 60 RX3 yX3_isRight wsX3_isRight) := goodIn_app (goodIn_of _ (by decide +kernel)) ggX3_dueTo_X3_isRight
set_option maxRecDepth 20000 in
theorem ggX3_dueTo_X3_payout : GoodIn wsX3_dueTo wsX3_payout := goodIn_r _ [39, 2, 3, 4, 5, 6, 7, 40, 41, 42, 43, 44, 45, 46, 47] (by decide +kernel) (by decide +kernel)
set_option maxRecDepth 20000 in
theorem gX3_dueTo_X3_payout : GoodIn wsX3_dueTo (wsV RX3 64 RX3 yX3_payout wsX3_payout) := goodIn_app (goodIn_of _ (by decide +kernel)) ggX3_dueTo_X3_payout
theorem dX3_dueTo_0 : decode cX3_dueTo 0 = .ok (.iconst 0, 1) := by decide +kernel
theorem dX3_dueTo_1 : decode cX3_dueTo 1 = .ok (.istore_n 3, 1) := by decide +kernel
theorem dX3_dueTo_2 : decode cX3_dueTo 2 = .ok (.iconst 0, 1) := by decide +kernel
theorem dX3_dueTo_3 : decode cX3_dueTo 3 = .ok (.istore 4, 2) := by decide +kernel
theorem dX3_dueTo_5 : decode cX3_dueTo 5 = .ok (.iload 4, 2) := by decide +kernel
theorem dX3_dueTo_7 : decode cX3_dueTo 7 = .ok (.aload_n 0, 1) := by decide +kernel
theorem dX3_dueTo_8 : decode cX3_dueTo 8 = .ok (.getfield 7, 3) := by decide +kernel
theorem dX3_dueTo_11 : decode cX3_dueTo 11 = .ok (.if_icmp .ge 39, 3) := by decide +kernel
theorem dX3_dueTo_14 : decode cX3_dueTo 14 = .ok (.aload_n 0, 1) := by decide +kernel
theorem dX3_dueTo_15 : decode cX3_dueTo 15 = .ok (.iload 4, 2) := by decide +kernel
theorem dX3_dueTo_17 : decode cX3_dueTo 17 = .ok (.iconst 0, 1) := by decide +kernel
theorem dX3_dueTo_18 : decode cX3_dueTo 18 = .ok (.invokevirtual 45, 3) := by decide +kernel
theorem dX3_dueTo_21 : decode cX3_dueTo 21 = .ok (.iload_n 1, 1) := by decide +kernel
theorem dX3_dueTo_22 : decode cX3_dueTo 22 = .ok (.if_icmp .ne 22, 3) := by decide +kernel
theorem dX3_dueTo_25 : decode cX3_dueTo 25 = .ok (.aload_n 0, 1) := by decide +kernel
theorem dX3_dueTo_26 : decode cX3_dueTo 26 = .ok (.iload 4, 2) := by decide +kernel
theorem dX3_dueTo_28 : decode cX3_dueTo 28 = .ok (.aload_n 2, 1) := by decide +kernel
theorem dX3_dueTo_29 : decode cX3_dueTo 29 = .ok (.invokevirtual 60, 3) := by decide +kernel
theorem dX3_dueTo_32 : decode cX3_dueTo 32 = .ok (.ifCond .eq 12, 3) := by decide +kernel
theorem dX3_dueTo_35 : decode cX3_dueTo 35 = .ok (.iload_n 3, 1) := by decide +kernel
theorem dX3_dueTo_36 : decode cX3_dueTo 36 = .ok (.aload_n 0, 1) := by decide +kernel
theorem dX3_dueTo_37 : decode cX3_dueTo 37 = .ok (.iload 4, 2) := by decide +kernel
theorem dX3_dueTo_39 : decode cX3_dueTo 39 = .ok (.invokevirtual 64, 3) := by decide +kernel
theorem dX3_dueTo_42 : decode cX3_dueTo 42 = .ok (.iadd, 1) := by decide +kernel
theorem dX3_dueTo_43 : decode cX3_dueTo 43 = .ok (.istore_n 3, 1) := by decide +kernel
theorem dX3_dueTo_44 : decode cX3_dueTo 44 = .ok (.iinc 4 1, 3) := by decide +kernel
theorem dX3_dueTo_47 : decode cX3_dueTo 47 = .ok (.goto (-42), 3) := by decide +kernel
theorem dX3_dueTo_50 : decode cX3_dueTo 50 = .ok (.iload_n 3, 1) := by decide +kernel
theorem dX3_dueTo_51 : decode cX3_dueTo 51 = .ok (.ireturn, 1) := by decide +kernel
set_option maxRecDepth 20000 in
theorem ggX3_dueToAll_X3_isRight : GoodIn wsX3_dueToAll wsX3_isRight := goodIn_r _ [6, 7, 8, 9, 5, 10, 11, 12, 13, 14, 15, 16, 17, 18, 19, 20, 21, 22, 23, 24, 25, 26, 27, 28, 29, 30, 31, 32, 33, 34, 35, 45, 46, 47, 48, 49, 50] (by decide +kernel) (by decide +kernel)
set_option maxRecDepth 20000 in
theorem gX3_dueToAll_X3_isRight : GoodIn wsX3_dueToAll (wsV RX3 60 RX3 yX3_isRight wsX3_isRight) := goodIn_app (goodIn_of _ (by decide +kernel)) ggX3_dueToAll_X3_isRight
set_option maxRecDepth 20000 in
theorem ggX3_dueToAll_X3_payout : GoodIn wsX3_dueToAll wsX3_payout := goodIn_r _ [39, 7, 8, 9, 5, 10, 11, 40, 41, 42, 43, 44, 45, 46, 47] (by decide +kernel) (by decide +kernel)
set_option maxRecDepth 20000 in
theorem gX3_dueToAll_X3_payout : GoodIn wsX3_dueToAll (wsV RX3 64 RX3 yX3_payout wsX3_payout) := goodIn_app (goodIn_of _ (by decide +kernel)) ggX3_dueToAll_X3_payout
theorem dX3_dueToAll_0 : decode cX3_dueToAll 0 = .ok (.iconst 0, 1) := by decide +kernel
theorem dX3_dueToAll_1 : decode cX3_dueToAll 1 = .ok (.istore_n 2, 1) := by decide +kernel
theorem dX3_dueToAll_2 : decode cX3_dueToAll 2 = .ok (.iconst 0, 1) := by decide +kernel
theorem dX3_dueToAll_3 : decode cX3_dueToAll 3 = .ok (.istore_n 3, 1) := by decide +kernel
theorem dX3_dueToAll_4 : decode cX3_dueToAll 4 = .ok (.iload_n 3, 1) := by decide +kernel
theorem dX3_dueToAll_5 : decode cX3_dueToAll 5 = .ok (.aload_n 0, 1) := by decide +kernel
theorem dX3_dueToAll_6 : decode cX3_dueToAll 6 = .ok (.getfield 7, 3) := by decide +kernel
theorem dX3_dueToAll_9 : decode cX3_dueToAll 9 = .ok (.if_icmp .ge 26, 3) := by decide +kernel
theorem dX3_dueToAll_12 : decode cX3_dueToAll 12 = .ok (.aload_n 0, 1) := by decide +kernel
theorem dX3_dueToAll_13 : decode cX3_dueToAll 13 = .ok (.iload_n 3, 1) := by decide +kernel
theorem dX3_dueToAll_14 : decode cX3_dueToAll 14 = .ok (.aload_n 1, 1) := by decide +kernel
theorem dX3_dueToAll_15 : decode cX3_dueToAll 15 = .ok (.invokevirtual 60, 3) := by decide +kernel
theorem dX3_dueToAll_18 : decode cX3_dueToAll 18 = .ok (.ifCond .eq 11, 3) := by decide +kernel
theorem dX3_dueToAll_21 : decode cX3_dueToAll 21 = .ok (.iload_n 2, 1) := by decide +kernel
theorem dX3_dueToAll_22 : decode cX3_dueToAll 22 = .ok (.aload_n 0, 1) := by decide +kernel
theorem dX3_dueToAll_23 : decode cX3_dueToAll 23 = .ok (.iload_n 3, 1) := by decide +kernel
theorem dX3_dueToAll_24 : decode cX3_dueToAll 24 = .ok (.invokevirtual 64, 3) := by decide +kernel
theorem dX3_dueToAll_27 : decode cX3_dueToAll 27 = .ok (.iadd, 1) := by decide +kernel
theorem dX3_dueToAll_28 : decode cX3_dueToAll 28 = .ok (.istore_n 2, 1) := by decide +kernel
theorem dX3_dueToAll_29 : decode cX3_dueToAll 29 = .ok (.iinc 3 1, 3) := by decide +kernel
theorem dX3_dueToAll_32 : decode cX3_dueToAll 32 = .ok (.goto (-28), 3) := by decide +kernel
theorem dX3_dueToAll_35 : decode cX3_dueToAll 35 = .ok (.iload_n 2, 1) := by decide +kernel
theorem dX3_dueToAll_36 : decode cX3_dueToAll 36 = .ok (.ireturn, 1) := by decide +kernel
set_option maxRecDepth 20000 in
theorem ggX3_sumOfOdds_X3_oddsOf : GoodIn wsX3_sumOfOdds wsX3_oddsOf := goodIn_r _ [6, 7, 8, 9, 10] (by decide +kernel) (by decide +kernel)
set_option maxRecDepth 20000 in
theorem gX3_sumOfOdds_X3_oddsOf : GoodIn wsX3_sumOfOdds (wsV RX3 56 RX3 yX3_oddsOf wsX3_oddsOf) := goodIn_app (goodIn_of _ (by decide +kernel)) ggX3_sumOfOdds_X3_oddsOf
theorem dX3_sumOfOdds_0 : decode cX3_sumOfOdds 0 = .ok (.fconst 0, 1) := by decide +kernel
theorem dX3_sumOfOdds_1 : decode cX3_sumOfOdds 1 = .ok (.fstore_n 1, 1) := by decide +kernel
theorem dX3_sumOfOdds_2 : decode cX3_sumOfOdds 2 = .ok (.iconst 0, 1) := by decide +kernel
theorem dX3_sumOfOdds_3 : decode cX3_sumOfOdds 3 = .ok (.istore_n 2, 1) := by decide +kernel
theorem dX3_sumOfOdds_4 : decode cX3_sumOfOdds 4 = .ok (.iload_n 2, 1) := by decide +kernel
theorem dX3_sumOfOdds_5 : decode cX3_sumOfOdds 5 = .ok (.aload_n 0, 1) := by decide +kernel
theorem dX3_sumOfOdds_6 : decode cX3_sumOfOdds 6 = .ok (.getfield 7, 3) := by decide +kernel
theorem dX3_sumOfOdds_9 : decode cX3_sumOfOdds 9 = .ok (.if_icmp .ge 17, 3) := by decide +kernel
theorem dX3_sumOfOdds_12 : decode cX3_sumOfOdds 12 = .ok (.fload_n 1, 1) := by decide +kernel
theorem dX3_sumOfOdds_13 : decode cX3_sumOfOdds 13 = .ok (.aload_n 0, 1) := by decide +kernel
theorem dX3_sumOfOdds_14 : decode cX3_sumOfOdds 14 = .ok (.iload_n 2, 1) := by decide +kernel
theorem dX3_sumOfOdds_15 : decode cX3_sumOfOdds 15 = .ok (.invokevirtual 56, 3) := by decide +kernel
theorem dX3_sumOfOdds_18 : decode cX3_sumOfOdds 18 = .ok (.fadd, 1) := by decide +kernel
theorem dX3_sumOfOdds_19 : decode cX3_sumOfOdds 19 = .ok (.fstore_n 1, 1) := by decide +kernel
theorem dX3_sumOfOdds_20 : decode cX3_sumOfOdds 20 = .ok (.iinc 2 1, 3) := by decide +kernel
theorem dX3_sumOfOdds_23 : decode cX3_sumOfOdds 23 = .ok (.goto (-19), 3) := by decide +kernel
theorem dX3_sumOfOdds_26 : decode cX3_sumOfOdds 26 = .ok (.fload_n 1, 1) := by decide +kernel
theorem dX3_sumOfOdds_27 : decode cX3_sumOfOdds 27 = .ok (.freturn, 1) := by decide +kernel
theorem dX4_init_0 : decode cX4_init 0 = .ok (.aload_n 0, 1) := by decide +kernel
theorem dX4_init_1 : decode cX4_init 1 = .ok (.invokespecial 1, 3) := by decide +kernel
theorem dX4_init_4 : decode cX4_init 4 = .ok (.aload_n 0, 1) := by decide +kernel
theorem dX4_init_5 : decode cX4_init 5 = .ok (.bipush 60, 2) := by decide +kernel
theorem dX4_init_7 : decode cX4_init 7 = .ok (.newarray .char, 2) := by decide +kernel
theorem dX4_init_9 : decode cX4_init 9 = .ok (.putfield 9, 3) := by decide +kernel
theorem dX4_init_12 : decode cX4_init 12 = .ok (.aload_n 0, 1) := by decide +kernel
theorem dX4_init_13 : decode cX4_init 13 = .ok (.iconst 0, 1) := by decide +kernel
theorem dX4_init_14 : decode cX4_init 14 = .ok (.putfield 13, 3) := by decide +kernel
theorem dX4_init_17 : decode cX4_init 17 = .ok (.return_, 1) := by decide +kernel
theorem dX4_length_0 : decode cX4_length 0 = .ok (.aload_n 0, 1) := by decide +kernel
theorem dX4_length_1 : decode cX4_length 1 = .ok (.getfield 13, 3) := by decide +kernel
theorem dX4_length_4 : decode cX4_length 4 = .ok (.ireturn, 1) := by decide +kernel
theorem dX4_couldAppend_0 : decode cX4_couldAppend 0 = .ok (.aload_n 0, 1) := by decide +kernel
theorem dX4_couldAppend_1 : decode cX4_couldAppend 1 = .ok (.getfield 13, 3) := by decide +kernel
theorem dX4_couldAppend_4 : decode cX4_couldAppend 4 = .ok (.ifCond .lt 15, 3) := by decide +kernel
theorem dX4_couldAppend_7 : decode cX4_couldAppend 7 = .ok (.aload_n 0, 1) := by decide +kernel
theorem dX4_couldAppend_8 : decode cX4_couldAppend 8 = .ok (.getfield 13, 3) := by decide +kernel
theorem dX4_couldAppend_11 : decode cX4_couldAppend 11 = .ok (.aload_n 0, 1) := by decide +kernel
theorem dX4_couldAppend_12 : decode cX4_couldAppend 12 = .ok (.getfield 9, 3) := by decide +kernel
theorem dX4_couldAppend_15 : decode cX4_couldAppend 15 = .ok (.arraylength, 1) := by decide +kernel
theorem dX4_couldAppend_16 : decode cX4_couldAppend 16 = .ok (.if_icmp .lt 5, 3) := by decide +kernel
theorem dX4_couldAppend_19 : decode cX4_couldAppend 19 = .ok (.iconst 0, 1) := by decide +kernel
theorem dX4_couldAppend_20 : decode cX4_couldAppend 20 = .ok (.ireturn, 1) := by decide +kernel
theorem dX4_couldAppend_21 : decode cX4_couldAppend 21 = .ok (.aload_n 0, 1) := by decide +kernel
theorem dX4_couldAppend_22 : decode cX4_couldAppend 22 = .ok (.getfield 9, 3) := by decide +kernel
theorem dX4_couldAppend_25 : decode cX4_couldAppend 25 = .ok (.aload_n 0, 1) := by decide +kernel
theorem dX4_couldAppend_26 : decode cX4_couldAppend 26 = .ok (.getfield 13, 3) := by decide +kernel
theorem dX4_couldAppend_29 : decode cX4_couldAppend 29 = .ok (.iload_n 1, 1) := by decide +kernel
theorem dX4_couldAppend_30 : decode cX4_couldAppend 30 = .ok (.castore, 1) := by decide +kernel
theorem dX4_couldAppend_31 : decode cX4_couldAppend 31 = .ok (.aload_n 0, 1) := by decide +kernel
theorem dX4_couldAppend_32 : decode cX4_couldAppend 32 = .ok (.dup, 1) := by decide +kernel
theorem dX4_couldAppend_33 : decode cX4_couldAppend 33 = .ok (.getfield 13, 3) := by decide +kernel
theorem dX4_couldAppend_36 : decode cX4_couldAppend 36 = .ok (.iconst 1, 1) := by decide +kernel
theorem dX4_couldAppend_37 : decode cX4_couldAppend 37 = .ok (.iadd, 1) := by decide +kernel
theorem dX4_couldAppend_38 : decode cX4_couldAppend 38 = .ok (.putfield 13, 3) := by decide +kernel
theorem dX4_couldAppend_41 : decode cX4_couldAppend 41 = .ok (.iconst 1, 1) := by decide +kernel
theorem dX4_couldAppend_42 : decode cX4_couldAppend 42 = .ok (.ireturn, 1) := by decide +kernel
theorem dX4_empty_0 : decode cX4_empty 0 = .ok (.aload_n 0, 1) := by decide +kernel
theorem dX4_empty_1 : decode cX4_empty 1 = .ok (.iconst 0, 1) := by decide +kernel
theorem dX4_empty_2 : decode cX4_empty 2 = .ok (.putfield 13, 3) := by decide +kernel
theorem dX4_empty_5 : decode cX4_empty 5 = .ok (.return_, 1) := by decide +kernel
theorem dX4_characterAt_0 : decode cX4_characterAt 0 = .ok (.iload_n 1, 1) := by decide +kernel
theorem dX4_characterAt_1 : decode cX4_characterAt 1 = .ok (.ifCond .lt 29, 3) := by decide +kernel
theorem dX4_characterAt_4 : decode cX4_characterAt 4 = .ok (.iload_n 1, 1) := by decide +kernel
theorem dX4_characterAt_5 : decode cX4_characterAt 5 = .ok (.aload_n 0, 1) := by decide +kernel
theorem dX4_characterAt_6 : decode cX4_characterAt 6 = .ok (.getfield 13, 3) := by decide +kernel
theorem dX4_characterAt_9 : decode cX4_characterAt 9 = .ok (.if_icmp .ge 21, 3) := by decide +kernel
theorem dX4_characterAt_12 : decode cX4_characterAt 12 = .ok (.iload_n 1, 1) := by decide +kernel
theorem dX4_characterAt_13 : decode cX4_characterAt 13 = .ok (.aload_n 0, 1) := by decide +kernel
theorem dX4_characterAt_14 : decode cX4_characterAt 14 = .ok (.getfield 9, 3) := by decide +kernel
theorem dX4_characterAt_17 : decode cX4_characterAt 17 = .ok (.arraylength, 1) := by decide +kernel
theorem dX4_characterAt_18 : decode cX4_characterAt 18 = .ok (.if_icmp .ge 12, 3) := by decide +kernel
theorem dX4_characterAt_21 : decode cX4_characterAt 21 = .ok (.aload_n 0, 1) := by decide +kernel
theorem dX4_characterAt_22 : decode cX4_characterAt 22 = .ok (.getfield 9, 3) := by decide +kernel
theorem dX4_characterAt_25 : decode cX4_characterAt 25 = .ok (.iload_n 1, 1) := by decide +kernel
theorem dX4_characterAt_26 : decode cX4_characterAt 26 = .ok (.caload, 1) := by decide +kernel
theorem dX4_characterAt_27 : decode cX4_characterAt 27 = .ok (.goto 4, 3) := by decide +kernel
theorem dX4_characterAt_30 : decode cX4_characterAt 30 = .ok (.iconst 0, 1) := by decide +kernel
theorem dX4_characterAt_31 : decode cX4_characterAt 31 = .ok (.ireturn, 1) := by decide +kernel
set_option maxRecDepth 20000 in
theorem ggX4_sideOfSquare_X4_characterAt : GoodIn wsX4_sideOfSquare wsX4_characterAt := goodIn_r _ [5, 6, 7, 8, 9] (by decide +kernel) (by decide +kernel)
set_option maxRecDepth 20000 in
theorem gX4_sideOfSquare_X4_characterAt : GoodIn wsX4_sideOfSquare (wsV RX4 17 RX4 yX4_characterAt wsX4_characterAt) := goodIn_app (goodIn_of _ (by decide +kernel)) ggX4_sideOfSquare_X4_characterAt
theorem dX4_sideOfSquare_0 : decode cX4_sideOfSquare 0 = .ok (.aload_n 0, 1) := by decide +kernel
theorem dX4_sideOfSquare_1 : decode cX4_sideOfSquare 1 = .ok (.iconst 0, 1) := by decide +kernel
theorem dX4_sideOfSquare_2 : decode cX4_sideOfSquare 2 = .ok (.invokevirtual 17, 3) := by decide +kernel
theorem dX4_sideOfSquare_5 : decode cX4_sideOfSquare 5 = .ok (.istore_n 1, 1) := by decide +kernel
theorem dX4_sideOfSquare_6 : decode cX4_sideOfSquare 6 = .ok (.iload_n 1, 1) := by decide +kernel
theorem dX4_sideOfSquare_7 : decode cX4_sideOfSquare 7 = .ok (.bipush 49, 2) := by decide +kernel
theorem dX4_sideOfSquare_9 : decode cX4_sideOfSquare 9 = .ok (.if_icmp .lt 11, 3) := by decide +kernel
theorem dX4_sideOfSquare_12 : decode cX4_sideOfSquare 12 = .ok (.iload_n 1, 1) := by decide +kernel
theorem dX4_sideOfSquare_13 : decode cX4_sideOfSquare 13 = .ok (.bipush 57, 2) := by decide +kernel
theorem dX4_sideOfSquare_15 : decode cX4_sideOfSquare 15 = .ok (.if_icmp .gt 5, 3) := by decide +kernel
theorem dX4_sideOfSquare_18 : decode cX4_sideOfSquare 18 = .ok (.iconst 3, 1) := by decide +kernel
theorem dX4_sideOfSquare_19 : decode cX4_sideOfSquare 19 = .ok (.ireturn, 1) := by decide +kernel
theorem dX4_sideOfSquare_20 : decode cX4_sideOfSquare 20 = .ok (.iload_n 1, 1) := by decide +kernel
theorem dX4_sideOfSquare_21 : decode cX4_sideOfSquare 21 = .ok (.bipush 97, 2) := by decide +kernel
theorem dX4_sideOfSquare_23 : decode cX4_sideOfSquare 23 = .ok (.if_icmp .lt 13, 3) := by decide +kernel
theorem dX4_sideOfSquare_26 : decode cX4_sideOfSquare 26 = .ok (.iload_n 1, 1) := by decide +kernel
theorem dX4_sideOfSquare_27 : decode cX4_sideOfSquare 27 = .ok (.bipush 112, 2) := by decide +kernel
theorem dX4_sideOfSquare_29 : decode cX4_sideOfSquare 29 = .ok (.if_icmp .gt 7, 3) := by decide +kernel
theorem dX4_sideOfSquare_32 : decode cX4_sideOfSquare 32 = .ok (.iconst 4, 1) := by decide +kernel
theorem dX4_sideOfSquare_33 : decode cX4_sideOfSquare 33 = .ok (.goto 4, 3) := by decide +kernel
theorem dX4_sideOfSquare_36 : decode cX4_sideOfSquare 36 = .ok (.iconst 0, 1) := by decide +kernel
theorem dX4_sideOfSquare_37 : decode cX4_sideOfSquare 37 = .ok (.ireturn, 1) := by decide +kernel
set_option maxRecDepth 20000 in
theorem ggX4_numberAt_X4_sideOfSquare : GoodIn wsX4_numberAt wsX4_sideOfSquare := goodIn_r _ [5, 6, 7, 8, 4, 9, 10, 11, 12, 13] (by decide +kernel) (by decide +kernel)
set_option maxRecDepth 20000 in
theorem gX4_numberAt_X4_sideOfSquare : GoodIn wsX4_numberAt (wsV RX4 21 RX4 yX4_sideOfSquare wsX4_sideOfSquare) := goodIn_app (goodIn_of _ (by decide +kernel)) ggX4_numberAt_X4_sideOfSquare
set_option maxRecDepth 20000 in
theorem ggX4_numberAt_X4_characterAt : GoodIn wsX4_numberAt wsX4_characterAt := goodIn_r _ [9, 10, 11, 12, 13] (by decide +kernel) (by decide +kernel)
set_option maxRecDepth 20000 in
theorem gX4_numberAt_X4_characterAt : GoodIn wsX4_numberAt (wsV RX4 17 RX4 yX4_characterAt wsX4_characterAt) := goodIn_app (goodIn_of _ (by decide +kernel)) ggX4_numberAt_X4_characterAt
theorem dX4_numberAt_0 : decode cX4_numberAt 0 = .ok (.aload_n 0, 1) := by decide +kernel
theorem dX4_numberAt_1 : decode cX4_numberAt 1 = .ok (.invokevirtual 21, 3) := by decide +kernel
theorem dX4_numberAt_4 : decode cX4_numberAt 4 = .ok (.iconst 3, 1) := by decide +kernel
theorem dX4_numberAt_5 : decode cX4_numberAt 5 = .ok (.if_icmp .ne 8, 3) := by decide +kernel
theorem dX4_numberAt_8 : decode cX4_numberAt 8 = .ok (.bipush 48, 2) := by decide +kernel
theorem dX4_numberAt_10 : decode cX4_numberAt 10 = .ok (.goto 5, 3) := by decide +kernel
theorem dX4_numberAt_13 : decode cX4_numberAt 13 = .ok (.bipush 96, 2) := by decide +kernel
theorem dX4_numberAt_15 : decode cX4_numberAt 15 = .ok (.istore_n 2, 1) := by decide +kernel
theorem dX4_numberAt_16 : decode cX4_numberAt 16 = .ok (.aload_n 0, 1) := by decide +kernel
theorem dX4_numberAt_17 : decode cX4_numberAt 17 = .ok (.iload_n 1, 1) := by decide +kernel
theorem dX4_numberAt_18 : decode cX4_numberAt 18 = .ok (.invokevirtual 17, 3) := by decide +kernel
theorem dX4_numberAt_21 : decode cX4_numberAt 21 = .ok (.iload_n 2, 1) := by decide +kernel
theorem dX4_numberAt_22 : decode cX4_numberAt 22 = .ok (.isub, 1) := by decide +kernel
theorem dX4_numberAt_23 : decode cX4_numberAt 23 = .ok (.ireturn, 1) := by decide +kernel
set_option maxRecDepth 20000 in
theorem ggX4_fault_X4_sideOfSquare : GoodIn wsX4_fault wsX4_sideOfSquare := goodIn_r _ [6, 7, 8, 9, 5, 10, 1, 11, 16, 17] (by decide +kernel) (by decide +kernel)
set_option maxRecDepth 20000 in
theorem gX4_fault_X4_sideOfSquare : GoodIn wsX4_fault (wsV RX4 21 RX4 yX4_sideOfSquare wsX4_sideOfSquare) := goodIn_app (goodIn_of _ (by decide +kernel)) ggX4_fault_X4_sideOfSquare
set_option maxRecDepth 20000 in
theorem ggX4_fault_X4_numberAt : GoodIn wsX4_fault wsX4_numberAt := goodIn_r _ [15, 2, 3, 4, 5, 6, 7, 8, 9, 10, 1, 11, 16, 17] (by decide +kernel) (by decide +kernel)
set_option maxRecDepth 20000 in
theorem gX4_fault_X4_numberAt : GoodIn wsX4_fault (wsV RX4 25 RX4 yX4_numberAt wsX4_numberAt) := goodIn_app (goodIn_of _ (by decide +kernel)) ggX4_fault_X4_numberAt
theorem dX4_fault_0 : decode cX4_fault 0 = .ok (.aload_n 0, 1) := by decide +kernel
theorem dX4_fault_1 : decode cX4_fault 1 = .ok (.invokevirtual 21, 3) := by decide +kernel
theorem dX4_fault_4 : decode cX4_fault 4 = .ok (.istore_n 1, 1) := by decide +kernel
theorem dX4_fault_5 : decode cX4_fault 5 = .ok (.iload_n 1, 1) := by decide +kernel
theorem dX4_fault_6 : decode cX4_fault 6 = .ok (.iload_n 1, 1) := by decide +kernel
theorem dX4_fault_7 : decode cX4_fault 7 = .ok (.imul, 1) := by decide +kernel
theorem dX4_fault_8 : decode cX4_fault 8 = .ok (.istore_n 2, 1) := by decide +kernel
theorem dX4_fault_9 : decode cX4_fault 9 = .ok (.iconst 0, 1) := by decide +kernel
theorem dX4_fault_10 : decode cX4_fault 10 = .ok (.istore_n 3, 1) := by decide +kernel
theorem dX4_fault_11 : decode cX4_fault 11 = .ok (.iconst 0, 1) := by decide +kernel
theorem dX4_fault_12 : decode cX4_fault 12 = .ok (.istore 4, 2) := by decide +kernel
theorem dX4_fault_14 : decode cX4_fault 14 = .ok (.iload 4, 2) := by decide +kernel
theorem dX4_fault_16 : decode cX4_fault 16 = .ok (.aload_n 0, 1) := by decide +kernel
theorem dX4_fault_17 : decode cX4_fault 17 = .ok (.getfield 13, 3) := by decide +kernel
theorem dX4_fault_20 : decode cX4_fault 20 = .ok (.if_icmp .ge 55, 3) := by decide +kernel
theorem dX4_fault_23 : decode cX4_fault 23 = .ok (.aload_n 0, 1) := by decide +kernel
theorem dX4_fault_24 : decode cX4_fault 24 = .ok (.iload 4, 2) := by decide +kernel
theorem dX4_fault_26 : decode cX4_fault 26 = .ok (.invokevirtual 25, 3) := by decide +kernel
theorem dX4_fault_29 : decode cX4_fault 29 = .ok (.istore 5, 2) := by decide +kernel
theorem dX4_fault_31 : decode cX4_fault 31 = .ok (.iload 4, 2) := by decide +kernel
theorem dX4_fault_33 : decode cX4_fault 33 = .ok (.iload_n 2, 1) := by decide +kernel
theorem dX4_fault_34 : decode cX4_fault 34 = .ok (.if_icmp .ge 25, 3) := by decide +kernel
theorem dX4_fault_37 : decode cX4_fault 37 = .ok (.iload 5, 2) := by decide +kernel
theorem dX4_fault_39 : decode cX4_fault 39 = .ok (.iconst 1, 1) := by decide +kernel
theorem dX4_fault_40 : decode cX4_fault 40 = .ok (.if_icmp .lt 19, 3) := by decide +kernel
theorem dX4_fault_43 : decode cX4_fault 43 = .ok (.iload 5, 2) := by decide +kernel
theorem dX4_fault_45 : decode cX4_fault 45 = .ok (.iload_n 2, 1) := by decide +kernel
theorem dX4_fault_46 : decode cX4_fault 46 = .ok (.if_icmp .gt 13, 3) := by decide +kernel
theorem dX4_fault_49 : decode cX4_fault 49 = .ok (.iload_n 3, 1) := by decide +kernel
theorem dX4_fault_50 : decode cX4_fault 50 = .ok (.iload 5, 2) := by decide +kernel
theorem dX4_fault_52 : decode cX4_fault 52 = .ok (.ishr, 1) := by decide +kernel
theorem dX4_fault_53 : decode cX4_fault 53 = .ok (.iconst 1, 1) := by decide +kernel
theorem dX4_fault_54 : decode cX4_fault 54 = .ok (.iand, 1) := by decide +kernel
theorem dX4_fault_55 : decode cX4_fault 55 = .ok (.iconst 1, 1) := by decide +kernel
theorem dX4_fault_56 : decode cX4_fault 56 = .ok (.if_icmp .ne 6, 3) := by decide +kernel
theorem dX4_fault_59 : decode cX4_fault 59 = .ok (.iload 4, 2) := by decide +kernel
theorem dX4_fault_61 : decode cX4_fault 61 = .ok (.ireturn, 1) := by decide +kernel
theorem dX4_fault_62 : decode cX4_fault 62 = .ok (.iload_n 3, 1) := by decide +kernel
theorem dX4_fault_63 : decode cX4_fault 63 = .ok (.iconst 1, 1) := by decide +kernel
theorem dX4_fault_64 : decode cX4_fault 64 = .ok (.iload 5, 2) := by decide +kernel
theorem dX4_fault_66 : decode cX4_fault 66 = .ok (.ishl, 1) := by decide +kernel
theorem dX4_fault_67 : decode cX4_fault 67 = .ok (.ior, 1) := by decide +kernel
theorem dX4_fault_68 : decode cX4_fault 68 = .ok (.istore_n 3, 1) := by decide +kernel
theorem dX4_fault_69 : decode cX4_fault 69 = .ok (.iinc 4 1, 3) := by decide +kernel
theorem dX4_fault_72 : decode cX4_fault 72 = .ok (.goto (-58), 3) := by decide +kernel
theorem dX4_fault_75 : decode cX4_fault 75 = .ok (.aload_n 0, 1) := by decide +kernel
theorem dX4_fault_76 : decode cX4_fault 76 = .ok (.getfield 13, 3) := by decide +kernel
theorem dX4_fault_79 : decode cX4_fault 79 = .ok (.ifCond .le 11, 3) := by decide +kernel
theorem dX4_fault_82 : decode cX4_fault 82 = .ok (.aload_n 0, 1) := by decide +kernel
theorem dX4_fault_83 : decode cX4_fault 83 = .ok (.getfield 13, 3) := by decide +kernel
theorem dX4_fault_86 : decode cX4_fault 86 = .ok (.iload_n 2, 1) := by decide +kernel
theorem dX4_fault_87 : decode cX4_fault 87 = .ok (.if_icmp .ge 10, 3) := by decide +kernel
theorem dX4_fault_90 : decode cX4_fault 90 = .ok (.aload_n 0, 1) := by decide +kernel
theorem dX4_fault_91 : decode cX4_fault 91 = .ok (.getfield 13, 3) := by decide +kernel
theorem dX4_fault_94 : decode cX4_fault 94 = .ok (.goto 4, 3) := by decide +kernel
theorem dX4_fault_97 : decode cX4_fault 97 = .ok (.iconst (-1), 1) := by decide +kernel
theorem dX4_fault_98 : decode cX4_fault 98 = .ok (.ireturn, 1) := by decide +kernel
set_option maxRecDepth 20000 in
theorem ggX5_init_X2_init : GoodIn wsX5_init wsX2_init := goodIn_r _ [20, 21, 2, 3, 22, 23, 24, 25, 26, 27, 28, 29, 30, 31, 32, 33, 34, 35, 36, 37, 38, 39, 40, 41, 42, 43, 44, 45, 46, 47, 48, 49, 50, 51, 52, 86, 87, 88, 68, 69, 70, 71, 72, 73, 74, 75, 76, 89, 90, 91] (by decide +kernel) (by decide +kernel)
set_option maxRecDepth 20000 in
theorem gX5_init_X2_init : GoodIn wsX5_init (wsX2_init) := ggX5_init_X2_init
set_option maxRecDepth 20000 in
theorem ggX5_init_X0_init : GoodIn wsX5_init wsX0_init := goodIn_r _ [55, 56, 2, 3, 57, 58, 59, 5, 6, 60, 19, 20, 21, 22, 23, 24, 25, 26, 27, 28, 29, 30, 31, 32, 33, 34, 35, 36, 37, 38, 39, 40, 41, 42, 43, 44, 45, 46, 47, 48, 49, 50, 51, 52, 82, 83, 68, 69, 70, 71, 72, 73, 74, 75, 76, 86, 87, 88, 89, 90, 91] (by decide +kernel) (by decide +kernel)
set_option maxRecDepth 20000 in
theorem gX5_init_X0_init : GoodIn wsX5_init (wsX0_init) := ggX5_init_X0_init
set_option maxRecDepth 20000 in
theorem ggX5_init_X4_init : GoodIn wsX5_init wsX4_init := goodIn_r _ [63, 64, 2, 3, 65, 66, 67, 84, 85] (by decide +kernel) (by decide +kernel)
set_option maxRecDepth 20000 in
theorem gX5_init_X4_init : GoodIn wsX5_init (wsX4_init) := ggX5_init_X4_init
theorem dX5_init_0 : decode cX5_init 0 = .ok (.aload_n 0, 1) := by decide +kernel
theorem dX5_init_1 : decode cX5_init 1 = .ok (.invokespecial 1, 3) := by decide +kernel
theorem dX5_init_4 : decode cX5_init 4 = .ok (.aload_n 0, 1) := by decide +kernel
theorem dX5_init_5 : decode cX5_init 5 = .ok (.new 7, 3) := by decide +kernel
theorem dX5_init_8 : decode cX5_init 8 = .ok (.dup, 1) := by decide +kernel
theorem dX5_init_9 : decode cX5_init 9 = .ok (.invokespecial 9, 3) := by decide +kernel
theorem dX5_init_12 : decode cX5_init 12 = .ok (.putfield 10, 3) := by decide +kernel
theorem dX5_init_15 : decode cX5_init 15 = .ok (.aload_n 0, 1) := by decide +kernel
theorem dX5_init_16 : decode cX5_init 16 = .ok (.new 16, 3) := by decide +kernel
theorem dX5_init_19 : decode cX5_init 19 = .ok (.dup, 1) := by decide +kernel
theorem dX5_init_20 : decode cX5_init 20 = .ok (.invokespecial 18, 3) := by decide +kernel
theorem dX5_init_23 : decode cX5_init 23 = .ok (.putfield 19, 3) := by decide +kernel
theorem dX5_init_26 : decode cX5_init 26 = .ok (.aload_n 0, 1) := by decide +kernel
theorem dX5_init_27 : decode cX5_init 27 = .ok (.new 7, 3) := by decide +kernel
theorem dX5_init_30 : decode cX5_init 30 = .ok (.dup, 1) := by decide +kernel
theorem dX5_init_31 : decode cX5_init 31 = .ok (.invokespecial 9, 3) := by decide +kernel
theorem dX5_init_34 : decode cX5_init 34 = .ok (.putfield 23, 3) := by decide +kernel
theorem dX5_init_37 : decode cX5_init 37 = .ok (.aload_n 0, 1) := by decide +kernel
theorem dX5_init_38 : decode cX5_init 38 = .ok (.iconst 0, 1) := by decide +kernel
theorem dX5_init_39 : decode cX5_init 39 = .ok (.putfield 26, 3) := by decide +kernel
theorem dX5_init_42 : decode cX5_init 42 = .ok (.aload_n 0, 1) := by decide +kernel
theorem dX5_init_43 : decode cX5_init 43 = .ok (.new 30, 3) := by decide +kernel
theorem dX5_init_46 : decode cX5_init 46 = .ok (.dup, 1) := by decide +kernel
theorem dX5_init_47 : decode cX5_init 47 = .ok (.invokespecial 32, 3) := by decide +kernel
theorem dX5_init_50 : decode cX5_init 50 = .ok (.putfield 33, 3) := by decide +kernel
theorem dX5_init_53 : decode cX5_init 53 = .ok (.return_, 1) := by decide +kernel
set_option maxRecDepth 20000 in
theorem ggX5_lay_X0_record : GoodIn wsX5_lay wsX0_record := goodIn_r _ [7, 8, 9, 10, 11, 12, 6, 13, 14, 15, 16, 17, 18, 19, 20, 21, 22, 23, 24, 25, 26, 27, 28, 29, 30, 31, 32, 33, 34, 35, 36, 37, 38, 39, 40, 41, 42, 43, 44, 45, 46, 47, 48, 49, 50, 51, 52, 53, 136, 137, 127, 128, 129, 130, 131, 132, 133, 134, 135, 138, 139, 140, 141, 142, 143] (by decide +kernel) (by decide +kernel)
set_option maxRecDepth 20000 in
theorem gX5_lay_X0_record : GoodIn wsX5_lay (wsV RX5 37 RX0 yX0_record wsX0_record) := goodIn_app (goodIn_of _ (by decide +kernel)) ggX5_lay_X0_record
set_option maxRecDepth 20000 in
theorem ggX5_lay_X2_abandonRound : GoodIn wsX5_lay wsX2_abandonRound := goodIn_r _ [57, 33, 24, 23, 34, 58, 59, 60, 48, 61, 50, 62, 63, 64, 65, 51, 66, 67, 68, 69, 70, 71, 72, 39, 73, 44, 127, 128, 129, 130, 131, 132, 133, 134, 135, 141, 142, 143, 138, 139, 140] (by decide +kernel) (by decide +kernel)
set_option maxRecDepth 20000 in
theorem gX5_lay_X2_abandonRound : GoodIn wsX5_lay (wsV RX5 41 RX2 yX2_abandonRound wsX2_abandonRound) := goodIn_app (goodIn_of _ (by decide +kernel)) ggX5_lay_X2_abandonRound
set_option maxRecDepth 20000 in
theorem ggX5_lay_X1_layInOrder : GoodIn wsX5_lay wsX1_layInOrder := goodIn_r _ [77, 41, 42, 138, 139, 140] (by decide +kernel) (by decide +kernel)
set_option maxRecDepth 20000 in
theorem gX5_lay_X1_layInOrder : GoodIn wsX5_lay (wsV RX5 48 RX1 yX1_layInOrder wsX1_layInOrder) := goodIn_app (goodIn_of _ (by decide +kernel)) ggX5_lay_X1_layInOrder
set_option maxRecDepth 20000 in
theorem ggX5_lay_X1_shuffle : GoodIn wsX5_lay wsX1_shuffle := goodIn_r _ [81, 82, 83, 84, 39, 85, 41, 86, 87, 88, 89, 42, 138, 139, 140] (by decide +kernel) (by decide +kernel)
set_option maxRecDepth 20000 in
theorem gX5_lay_X1_shuffle : GoodIn wsX5_lay (wsV RX5 54 RX1 yX1_shuffle wsX1_shuffle) := goodIn_app (goodIn_of _ (by decide +kernel)) ggX5_lay_X1_shuffle
set_option maxRecDepth 20000 in
theorem ggX5_lay_X1_wayOff : GoodIn wsX5_lay wsX1_wayOff := goodIn_r _ [93, 94, 95, 96, 39, 97, 41, 98, 99, 100, 101, 102, 103, 104, 105, 106, 107, 108, 109, 110, 111, 112, 113, 114, 115, 116, 117, 42, 118, 119, 120, 121, 138, 139, 140] (by decide +kernel) (by decide +kernel)
set_option maxRecDepth 20000 in
theorem gX5_lay_X1_wayOff : GoodIn wsX5_lay (wsV RX5 57 RX1 yX1_wayOff wsX1_wayOff) := goodIn_app (goodIn_of _ (by decide +kernel)) ggX5_lay_X1_wayOff
theorem dX5_lay_0 : decode cX5_lay 0 = .ok (.iload_n 1, 1) := by decide +kernel
theorem dX5_lay_1 : decode cX5_lay 1 = .ok (.iconst 3, 1) := by decide +kernel
theorem dX5_lay_2 : decode cX5_lay 2 = .ok (.if_icmp .eq 11, 3) := by decide +kernel
theorem dX5_lay_5 : decode cX5_lay 5 = .ok (.iload_n 1, 1) := by decide +kernel
theorem dX5_lay_6 : decode cX5_lay 6 = .ok (.iconst 4, 1) := by decide +kernel
theorem dX5_lay_7 : decode cX5_lay 7 = .ok (.if_icmp .eq 6, 3) := by decide +kernel
theorem dX5_lay_10 : decode cX5_lay 10 = .ok (.bipush (-2), 2) := by decide +kernel
theorem dX5_lay_12 : decode cX5_lay 12 = .ok (.ireturn, 1) := by decide +kernel
theorem dX5_lay_13 : decode cX5_lay 13 = .ok (.iload_n 2, 1) := by decide +kernel
theorem dX5_lay_14 : decode cX5_lay 14 = .ok (.ifCond .lt 10, 3) := by decide +kernel
theorem dX5_lay_17 : decode cX5_lay 17 = .ok (.iload_n 2, 1) := by decide +kernel
theorem dX5_lay_18 : decode cX5_lay 18 = .ok (.sipush 9999, 3) := by decide +kernel
theorem dX5_lay_21 : decode cX5_lay 21 = .ok (.if_icmp .le 6, 3) := by decide +kernel
theorem dX5_lay_24 : decode cX5_lay 24 = .ok (.bipush (-2), 2) := by decide +kernel
theorem dX5_lay_26 : decode cX5_lay 26 = .ok (.ireturn, 1) := by decide +kernel
theorem dX5_lay_27 : decode cX5_lay 27 = .ok (.aload_n 0, 1) := by decide +kernel
theorem dX5_lay_28 : decode cX5_lay 28 = .ok (.getfield 19, 3) := by decide +kernel
theorem dX5_lay_31 : decode cX5_lay 31 = .ok (.aload_n 0, 1) := by decide +kernel
theorem dX5_lay_32 : decode cX5_lay 32 = .ok (.getfield 10, 3) := by decide +kernel
theorem dX5_lay_35 : decode cX5_lay 35 = .ok (.invokevirtual 37, 3) := by decide +kernel
theorem dX5_lay_38 : decode cX5_lay 38 = .ok (.aload_n 0, 1) := by decide +kernel
theorem dX5_lay_39 : decode cX5_lay 39 = .ok (.getfield 10, 3) := by decide +kernel
theorem dX5_lay_42 : decode cX5_lay 42 = .ok (.invokevirtual 41, 3) := by decide +kernel
theorem dX5_lay_45 : decode cX5_lay 45 = .ok (.aload_n 0, 1) := by decide +kernel
theorem dX5_lay_46 : decode cX5_lay 46 = .ok (.getfield 10, 3) := by decide +kernel
theorem dX5_lay_49 : decode cX5_lay 49 = .ok (.getfield 44, 3) := by decide +kernel
theorem dX5_lay_52 : decode cX5_lay 52 = .ok (.iload_n 1, 1) := by decide +kernel
theorem dX5_lay_53 : decode cX5_lay 53 = .ok (.invokevirtual 48, 3) := by decide +kernel
theorem dX5_lay_56 : decode cX5_lay 56 = .ok (.aload_n 0, 1) := by decide +kernel
theorem dX5_lay_57 : decode cX5_lay 57 = .ok (.getfield 10, 3) := by decide +kernel
theorem dX5_lay_60 : decode cX5_lay 60 = .ok (.getfield 44, 3) := by decide +kernel
theorem dX5_lay_63 : decode cX5_lay 63 = .ok (.iload_n 2, 1) := by decide +kernel
theorem dX5_lay_64 : decode cX5_lay 64 = .ok (.invokevirtual 54, 3) := by decide +kernel
theorem dX5_lay_67 : decode cX5_lay 67 = .ok (.aload_n 0, 1) := by decide +kernel
theorem dX5_lay_68 : decode cX5_lay 68 = .ok (.getfield 10, 3) := by decide +kernel
theorem dX5_lay_71 : decode cX5_lay 71 = .ok (.getfield 44, 3) := by decide +kernel
theorem dX5_lay_74 : decode cX5_lay 74 = .ok (.invokevirtual 57, 3) := by decide +kernel
theorem dX5_lay_77 : decode cX5_lay 77 = .ok (.ireturn, 1) := by decide +kernel
set_option maxRecDepth 20000 in
theorem ggX5_read_X4_fault : GoodIn wsX5_read wsX4_fault := goodIn_r _ [8, 9, 10, 11, 12, 7, 13, 14, 15, 16, 17, 18, 19, 20, 21, 22, 150, 151] (by decide +kernel) (by decide +kernel)
set_option maxRecDepth 20000 in
theorem gX5_read_X4_fault : GoodIn wsX5_read (wsV RX5 61 RX4 yX4_fault wsX4_fault) := goodIn_app (goodIn_of _ (by decide +kernel)) ggX5_read_X4_fault
set_option maxRecDepth 20000 in
theorem ggX5_read_X0_record : GoodIn wsX5_read wsX0_record := goodIn_r _ [27, 28, 29, 30, 31, 32, 26, 33, 34, 35, 36, 37, 38, 39, 40, 41, 42, 43, 44, 45, 46, 47, 48, 49, 50, 51, 52, 53, 54, 55, 56, 57, 58, 59, 60, 61, 62, 63, 64, 65, 66, 67, 68, 69, 70, 71, 72, 73, 152, 153, 141, 142, 143, 144, 145, 146, 147, 148, 149, 154, 155, 156, 157, 158, 159] (by decide +kernel) (by decide +kernel)
set_option maxRecDepth 20000 in
theorem gX5_read_X0_record : GoodIn wsX5_read (wsV RX5 37 RX0 yX0_record wsX0_record) := goodIn_app (goodIn_of _ (by decide +kernel)) ggX5_read_X0_record
set_option maxRecDepth 20000 in
theorem ggX5_read_X2_abandonRound : GoodIn wsX5_read wsX2_abandonRound := goodIn_r _ [77, 53, 44, 43, 54, 78, 79, 80, 68, 81, 70, 82, 83, 84, 85, 71, 86, 87, 88, 89, 90, 91, 92, 59, 93, 64, 141, 142, 143, 144, 145, 146, 147, 148, 149, 157, 158, 159, 154, 155, 156] (by decide +kernel) (by decide +kernel)
set_option maxRecDepth 20000 in
theorem gX5_read_X2_abandonRound : GoodIn wsX5_read (wsV RX5 41 RX2 yX2_abandonRound wsX2_abandonRound) := goodIn_app (goodIn_of _ (by decide +kernel)) ggX5_read_X2_abandonRound
set_option maxRecDepth 20000 in
theorem ggX5_read_X1_layFrom : GoodIn wsX5_read wsX1_layFrom := goodIn_r _ [97, 61, 62, 98, 11, 12, 7, 13, 14, 15, 16, 17, 9, 18, 99, 100, 101, 59, 102, 103, 20, 21, 22, 10, 154, 155, 156, 150, 151] (by decide +kernel) (by decide +kernel)
set_option maxRecDepth 20000 in
theorem gX5_read_X1_layFrom : GoodIn wsX5_read (wsV RX5 64 RX1 yX1_layFrom wsX1_layFrom) := goodIn_app (goodIn_of _ (by decide +kernel)) ggX5_read_X1_layFrom
set_option maxRecDepth 20000 in
theorem ggX5_read_X1_wayOff : GoodIn wsX5_read wsX1_wayOff := goodIn_r _ [107, 108, 109, 110, 59, 111, 61, 112, 113, 114, 115, 116, 117, 118, 119, 120, 121, 122, 123, 124, 125, 126, 127, 128, 129, 130, 131, 62, 132, 133, 134, 135, 154, 155, 156] (by decide +kernel) (by decide +kernel)
set_option maxRecDepth 20000 in
theorem gX5_read_X1_wayOff : GoodIn wsX5_read (wsV RX5 57 RX1 yX1_wayOff wsX1_wayOff) := goodIn_app (goodIn_of _ (by decide +kernel)) ggX5_read_X1_wayOff
theorem dX5_read_0 : decode cX5_read 0 = .ok (.aload_n 0, 1) := by decide +kernel
theorem dX5_read_1 : decode cX5_read 1 = .ok (.getfield 33, 3) := by decide +kernel
theorem dX5_read_4 : decode cX5_read 4 = .ok (.invokevirtual 61, 3) := by decide +kernel
theorem dX5_read_7 : decode cX5_read 7 = .ok (.istore_n 1, 1) := by decide +kernel
theorem dX5_read_8 : decode cX5_read 8 = .ok (.iload_n 1, 1) := by decide +kernel
theorem dX5_read_9 : decode cX5_read 9 = .ok (.iconst (-1), 1) := by decide +kernel
theorem dX5_read_10 : decode cX5_read 10 = .ok (.if_icmp .eq 8, 3) := by decide +kernel
theorem dX5_read_13 : decode cX5_read 13 = .ok (.bipush (-100), 2) := by decide +kernel
theorem dX5_read_15 : decode cX5_read 15 = .ok (.iload_n 1, 1) := by decide +kernel
theorem dX5_read_16 : decode cX5_read 16 = .ok (.isub, 1) := by decide +kernel
theorem dX5_read_17 : decode cX5_read 17 = .ok (.ireturn, 1) := by decide +kernel
theorem dX5_read_18 : decode cX5_read 18 = .ok (.aload_n 0, 1) := by decide +kernel
theorem dX5_read_19 : decode cX5_read 19 = .ok (.getfield 19, 3) := by decide +kernel
theorem dX5_read_22 : decode cX5_read 22 = .ok (.aload_n 0, 1) := by decide +kernel
theorem dX5_read_23 : decode cX5_read 23 = .ok (.getfield 10, 3) := by decide +kernel
theorem dX5_read_26 : decode cX5_read 26 = .ok (.invokevirtual 37, 3) := by decide +kernel
theorem dX5_read_29 : decode cX5_read 29 = .ok (.aload_n 0, 1) := by decide +kernel
theorem dX5_read_30 : decode cX5_read 30 = .ok (.getfield 10, 3) := by decide +kernel
theorem dX5_read_33 : decode cX5_read 33 = .ok (.invokevirtual 41, 3) := by decide +kernel
theorem dX5_read_36 : decode cX5_read 36 = .ok (.aload_n 0, 1) := by decide +kernel
theorem dX5_read_37 : decode cX5_read 37 = .ok (.getfield 10, 3) := by decide +kernel
theorem dX5_read_40 : decode cX5_read 40 = .ok (.getfield 44, 3) := by decide +kernel
theorem dX5_read_43 : decode cX5_read 43 = .ok (.aload_n 0, 1) := by decide +kernel
theorem dX5_read_44 : decode cX5_read 44 = .ok (.getfield 33, 3) := by decide +kernel
theorem dX5_read_47 : decode cX5_read 47 = .ok (.invokevirtual 64, 3) := by decide +kernel
theorem dX5_read_50 : decode cX5_read 50 = .ok (.aload_n 0, 1) := by decide +kernel
theorem dX5_read_51 : decode cX5_read 51 = .ok (.getfield 10, 3) := by decide +kernel
theorem dX5_read_54 : decode cX5_read 54 = .ok (.getfield 44, 3) := by decide +kernel
theorem dX5_read_57 : decode cX5_read 57 = .ok (.invokevirtual 57, 3) := by decide +kernel
theorem dX5_read_60 : decode cX5_read 60 = .ok (.ireturn, 1) := by decide +kernel
set_option maxRecDepth 20000 in
theorem ggX5_swap_X5_swapError : GoodIn wsX5_swap wsX5_swapError := goodIn_r _ [7, 2, 8, 9, 10, 11, 12, 13, 14, 15, 16, 17, 18, 19, 20, 21, 22, 23, 24, 25, 26, 27, 28, 29, 30, 31, 32, 33, 34, 35, 36, 37, 38, 39, 40, 41, 42, 43, 44, 45, 46, 189, 190, 191, 192, 193, 194, 195, 196, 197, 198, 199, 200, 201, 202, 203, 204, 205] (by decide +kernel) (by decide +kernel)
set_option maxRecDepth 20000 in
theorem gX5_swap_X5_swapError : GoodIn wsX5_swap (wsV RX5 68 RX5 yX5_swapError wsX5_swapError) := goodIn_app (goodIn_of _ (by decide +kernel)) ggX5_swap_X5_swapError
set_option maxRecDepth 20000 in
theorem ggX5_swap_X0_record : GoodIn wsX5_swap wsX0_record := goodIn_r _ [51, 52, 53, 54, 55, 56, 50, 57, 58, 59, 60, 61, 62, 63, 64, 30, 65, 66, 67, 46, 68, 69, 70, 71, 72, 36, 41, 73, 74, 75, 76, 77, 78, 11, 79, 17, 80, 81, 26, 82, 83, 84, 85, 86, 87, 88, 89, 90, 206, 207, 194, 195, 196, 197, 198, 199, 200, 201, 202, 203, 204, 205, 208, 209, 210] (by decide +kernel) (by decide +kernel)
set_option maxRecDepth 20000 in
theorem gX5_swap_X0_record : GoodIn wsX5_swap (wsV RX5 37 RX0 yX0_record wsX0_record) := goodIn_app (goodIn_of _ (by decide +kernel)) ggX5_swap_X0_record
set_option maxRecDepth 20000 in
theorem ggX5_swap_X2_makeSwap : GoodIn wsX5_swap wsX2_makeSwap := goodIn_r _ [94, 66, 74, 75, 95, 96, 97, 11, 98, 99, 100, 101, 102, 103, 104, 105, 106, 17, 107, 108, 109, 110, 111, 112, 113, 114, 115, 116, 117, 118, 119, 120, 121, 122, 80, 123, 124, 125, 126, 127, 28, 29, 30, 31, 32, 33, 34, 35, 36, 128, 129, 130, 131, 41, 73, 132, 133, 134, 135, 46, 136, 137, 138, 139, 140, 141, 142, 143, 144, 145, 146, 147, 148, 26, 149, 150, 151, 152, 67, 153, 154, 155, 85, 156, 87, 157, 158, 159, 160, 161, 162, 163, 164, 88, 165, 166, 167, 168, 169, 170, 171, 172, 173, 174, 175, 90, 176, 177, 178, 179, 180, 181, 182, 183, 72, 184, 185, 186, 187, 194, 195, 196, 197, 198, 199, 200, 201, 202, 203, 204, 205, 208, 209, 210] (by decide +kernel) (by decide +kernel)
set_option maxRecDepth 20000 in
theorem gX5_swap_X2_makeSwap : GoodIn wsX5_swap (wsV RX5 72 RX2 yX2_makeSwap wsX2_makeSwap) := goodIn_app (goodIn_of _ (by decide +kernel)) ggX5_swap_X2_makeSwap
set_option maxRecDepth 20000 in
theorem ggX5_swap_X1_magicLines : GoodIn wsX5_swap wsX1_magicLines := goodIn_r _ [102, 103, 104, 105, 11, 106, 17, 107, 108, 109, 110, 111, 112, 113, 114, 115, 116, 117, 118, 119, 120, 121, 122, 80, 123, 124, 125, 126, 203, 204, 205] (by decide +kernel) (by decide +kernel)
set_option maxRecDepth 20000 in
theorem gX5_swap_X1_magicLines : GoodIn wsX5_swap (wsV RX5 76 RX1 yX1_magicLines wsX1_magicLines) := goodIn_app (goodIn_of _ (by decide +kernel)) ggX5_swap_X1_magicLines
theorem dX5_swap_0 : decode cX5_swap 0 = .ok (.aload_n 0, 1) := by decide +kernel
theorem dX5_swap_1 : decode cX5_swap 1 = .ok (.iload_n 1, 1) := by decide +kernel
theorem dX5_swap_2 : decode cX5_swap 2 = .ok (.iload_n 2, 1) := by decide +kernel
theorem dX5_swap_3 : decode cX5_swap 3 = .ok (.invokevirtual 68, 3) := by decide +kernel
theorem dX5_swap_6 : decode cX5_swap 6 = .ok (.istore_n 3, 1) := by decide +kernel
theorem dX5_swap_7 : decode cX5_swap 7 = .ok (.iload_n 3, 1) := by decide +kernel
theorem dX5_swap_8 : decode cX5_swap 8 = .ok (.ifCond .eq 5, 3) := by decide +kernel
theorem dX5_swap_11 : decode cX5_swap 11 = .ok (.iload_n 3, 1) := by decide +kernel
theorem dX5_swap_12 : decode cX5_swap 12 = .ok (.ireturn, 1) := by decide +kernel
theorem dX5_swap_13 : decode cX5_swap 13 = .ok (.aload_n 0, 1) := by decide +kernel
theorem dX5_swap_14 : decode cX5_swap 14 = .ok (.getfield 19, 3) := by decide +kernel
theorem dX5_swap_17 : decode cX5_swap 17 = .ok (.aload_n 0, 1) := by decide +kernel
theorem dX5_swap_18 : decode cX5_swap 18 = .ok (.getfield 10, 3) := by decide +kernel
theorem dX5_swap_21 : decode cX5_swap 21 = .ok (.invokevirtual 37, 3) := by decide +kernel
theorem dX5_swap_24 : decode cX5_swap 24 = .ok (.aload_n 0, 1) := by decide +kernel
theorem dX5_swap_25 : decode cX5_swap 25 = .ok (.getfield 10, 3) := by decide +kernel
theorem dX5_swap_28 : decode cX5_swap 28 = .ok (.iload_n 1, 1) := by decide +kernel
theorem dX5_swap_29 : decode cX5_swap 29 = .ok (.iload_n 2, 1) := by decide +kernel
theorem dX5_swap_30 : decode cX5_swap 30 = .ok (.invokevirtual 72, 3) := by decide +kernel
theorem dX5_swap_33 : decode cX5_swap 33 = .ok (.aload_n 0, 1) := by decide +kernel
theorem dX5_swap_34 : decode cX5_swap 34 = .ok (.getfield 10, 3) := by decide +kernel
theorem dX5_swap_37 : decode cX5_swap 37 = .ok (.getfield 44, 3) := by decide +kernel
theorem dX5_swap_40 : decode cX5_swap 40 = .ok (.invokevirtual 76, 3) := by decide +kernel
theorem dX5_swap_43 : decode cX5_swap 43 = .ok (.ireturn, 1) := by decide +kernel
set_option maxRecDepth 20000 in
theorem ggX5_swapError_X1_hasCell : GoodIn wsX5_swapError wsX1_hasCell := goodIn_r _ [6, 7, 8, 9, 5, 10, 11, 55, 56, 57] (by decide +kernel) (by decide +kernel)
set_option maxRecDepth 20000 in
theorem gX5_swapError_X1_hasCell : GoodIn wsX5_swapError (wsV RX5 79 RX1 yX1_hasCell wsX1_hasCell) := goodIn_app (goodIn_of _ (by decide +kernel)) ggX5_swapError_X1_hasCell
set_option maxRecDepth 20000 in
theorem ggX5_swapError_X1_isFrozen : GoodIn wsX5_swapError wsX1_isFrozen := goodIn_r _ [15, 16, 17, 18, 5, 19, 20, 55, 56, 57] (by decide +kernel) (by decide +kernel)
set_option maxRecDepth 20000 in
theorem gX5_swapError_X1_isFrozen : GoodIn wsX5_swapError (wsV RX5 83 RX1 yX1_isFrozen wsX1_isFrozen) := goodIn_app (goodIn_of _ (by decide +kernel)) ggX5_swapError_X1_isFrozen
set_option maxRecDepth 20000 in
theorem ggX5_swapError_X2_priceOfSwap : GoodIn wsX5_swapError wsX2_priceOfSwap := goodIn_r _ [25, 26, 27, 28, 24, 29, 30, 46, 47, 48, 49, 50, 51, 52, 53, 54] (by decide +kernel) (by decide +kernel)
set_option maxRecDepth 20000 in
theorem gX5_swapError_X2_priceOfSwap : GoodIn wsX5_swapError (wsV RX5 86 RX2 yX2_priceOfSwap wsX2_priceOfSwap) := goodIn_app (goodIn_of _ (by decide +kernel)) ggX5_swapError_X2_priceOfSwap
set_option maxRecDepth 20000 in
theorem ggX5_swapError_X2_canPay : GoodIn wsX5_swapError wsX2_canPay := goodIn_r _ [34, 35, 36, 37, 38, 24, 39, 40, 46, 47, 48, 49, 50, 51, 52, 53, 54] (by decide +kernel) (by decide +kernel)
set_option maxRecDepth 20000 in
theorem gX5_swapError_X2_canPay : GoodIn wsX5_swapError (wsV RX5 89 RX2 yX2_canPay wsX2_canPay) := goodIn_app (goodIn_of _ (by decide +kernel)) ggX5_swapError_X2_canPay
theorem dX5_swapError_0 : decode cX5_swapError 0 = .ok (.aload_n 0, 1) := by decide +kernel
theorem dX5_swapError_1 : decode cX5_swapError 1 = .ok (.getfield 10, 3) := by decide +kernel
theorem dX5_swapError_4 : decode cX5_swapError 4 = .ok (.getfield 44, 3) := by decide +kernel
theorem dX5_swapError_7 : decode cX5_swapError 7 = .ok (.iload_n 1, 1) := by decide +kernel
theorem dX5_swapError_8 : decode cX5_swapError 8 = .ok (.invokevirtual 79, 3) := by decide +kernel
theorem dX5_swapError_11 : decode cX5_swapError 11 = .ok (.ifCond .eq 17, 3) := by decide +kernel
theorem dX5_swapError_14 : decode cX5_swapError 14 = .ok (.aload_n 0, 1) := by decide +kernel
theorem dX5_swapError_15 : decode cX5_swapError 15 = .ok (.getfield 10, 3) := by decide +kernel
theorem dX5_swapError_18 : decode cX5_swapError 18 = .ok (.getfield 44, 3) := by decide +kernel
theorem dX5_swapError_21 : decode cX5_swapError 21 = .ok (.iload_n 2, 1) := by decide +kernel
theorem dX5_swapError_22 : decode cX5_swapError 22 = .ok (.invokevirtual 79, 3) := by decide +kernel
theorem dX5_swapError_25 : decode cX5_swapError 25 = .ok (.ifCond .ne 5, 3) := by decide +kernel
theorem dX5_swapError_28 : decode cX5_swapError 28 = .ok (.iconst (-1), 1) := by decide +kernel
theorem dX5_swapError_29 : decode cX5_swapError 29 = .ok (.ireturn, 1) := by decide +kernel
theorem dX5_swapError_30 : decode cX5_swapError 30 = .ok (.iload_n 1, 1) := by decide +kernel
theorem dX5_swapError_31 : decode cX5_swapError 31 = .ok (.iload_n 2, 1) := by decide +kernel
theorem dX5_swapError_32 : decode cX5_swapError 32 = .ok (.if_icmp .ne 6, 3) := by decide +kernel
theorem dX5_swapError_35 : decode cX5_swapError 35 = .ok (.bipush (-2), 2) := by decide +kernel
theorem dX5_swapError_37 : decode cX5_swapError 37 = .ok (.ireturn, 1) := by decide +kernel
theorem dX5_swapError_38 : decode cX5_swapError 38 = .ok (.aload_n 0, 1) := by decide +kernel
theorem dX5_swapError_39 : decode cX5_swapError 39 = .ok (.getfield 10, 3) := by decide +kernel
theorem dX5_swapError_42 : decode cX5_swapError 42 = .ok (.getfield 44, 3) := by decide +kernel
theorem dX5_swapError_45 : decode cX5_swapError 45 = .ok (.iload_n 1, 1) := by decide +kernel
theorem dX5_swapError_46 : decode cX5_swapError 46 = .ok (.invokevirtual 83, 3) := by decide +kernel
theorem dX5_swapError_49 : decode cX5_swapError 49 = .ok (.ifCond .ne 17, 3) := by decide +kernel
theorem dX5_swapError_52 : decode cX5_swapError 52 = .ok (.aload_n 0, 1) := by decide +kernel
theorem dX5_swapError_53 : decode cX5_swapError 53 = .ok (.getfield 10, 3) := by decide +kernel
theorem dX5_swapError_56 : decode cX5_swapError 56 = .ok (.getfield 44, 3) := by decide +kernel
theorem dX5_swapError_59 : decode cX5_swapError 59 = .ok (.iload_n 2, 1) := by decide +kernel
theorem dX5_swapError_60 : decode cX5_swapError 60 = .ok (.invokevirtual 83, 3) := by decide +kernel
theorem dX5_swapError_63 : decode cX5_swapError 63 = .ok (.ifCond .eq 6, 3) := by decide +kernel
