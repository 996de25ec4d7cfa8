set_option maxRecDepth 20000 in
theorem gX6_settle_X6_gain : GoodIn wsX6_settle (wsV RX6 71 RX6 yX6_gain wsX6_gain) := goodIn_app (goodIn_of _ (by decide +kernel)) ggX6_settle_X6_gain
theorem dX6_settle_0 : decode cX6_settle 0 = .ok (.iconst 0, 1) := by decide +kernel
theorem dX6_settle_1 : decode cX6_settle 1 = .ok (.istore_n 1, 1) := by decide +kernel
theorem dX6_settle_2 : decode cX6_settle 2 = .ok (.iload_n 1, 1) := by decide +kernel
theorem dX6_settle_3 : decode cX6_settle 3 = .ok (.aload_n 0, 1) := by decide +kernel
theorem dX6_settle_4 : decode cX6_settle 4 = .ok (.getfield 7, 3) := by decide +kernel
theorem dX6_settle_7 : decode cX6_settle 7 = .ok (.iconst 5, 1) := by decide +kernel
theorem dX6_settle_8 : decode cX6_settle 8 = .ok (.iaload, 1) := by decide +kernel
theorem dX6_settle_9 : decode cX6_settle 9 = .ok (.if_icmp .ge 58, 3) := by decide +kernel
theorem dX6_settle_12 : decode cX6_settle 12 = .ok (.aload_n 0, 1) := by decide +kernel
theorem dX6_settle_13 : decode cX6_settle 13 = .ok (.iload_n 1, 1) := by decide +kernel
theorem dX6_settle_14 : decode cX6_settle 14 = .ok (.invokevirtual 63, 3) := by decide +kernel
theorem dX6_settle_17 : decode cX6_settle 17 = .ok (.ifCond .eq 25, 3) := by decide +kernel
theorem dX6_settle_20 : decode cX6_settle 20 = .ok (.aload_n 0, 1) := by decide +kernel
theorem dX6_settle_21 : decode cX6_settle 21 = .ok (.aload_n 0, 1) := by decide +kernel
theorem dX6_settle_22 : decode cX6_settle 22 = .ok (.getfield 7, 3) := by decide +kernel
theorem dX6_settle_25 : decode cX6_settle 25 = .ok (.iload_n 1, 1) := by decide +kernel
theorem dX6_settle_26 : decode cX6_settle 26 = .ok (.iconst 0, 1) := by decide +kernel
theorem dX6_settle_27 : decode cX6_settle 27 = .ok (.invokestatic 55, 3) := by decide +kernel
theorem dX6_settle_30 : decode cX6_settle 30 = .ok (.iaload, 1) := by decide +kernel
theorem dX6_settle_31 : decode cX6_settle 31 = .ok (.aload_n 0, 1) := by decide +kernel
theorem dX6_settle_32 : decode cX6_settle 32 = .ok (.iload_n 1, 1) := by decide +kernel
theorem dX6_settle_33 : decode cX6_settle 33 = .ok (.invokevirtual 67, 3) := by decide +kernel
theorem dX6_settle_36 : decode cX6_settle 36 = .ok (.invokevirtual 71, 3) := by decide +kernel
theorem dX6_settle_39 : decode cX6_settle 39 = .ok (.goto 22, 3) := by decide +kernel
theorem dX6_settle_42 : decode cX6_settle 42 = .ok (.aload_n 0, 1) := by decide +kernel
theorem dX6_settle_43 : decode cX6_settle 43 = .ok (.getfield 7, 3) := by decide +kernel
theorem dX6_settle_46 : decode cX6_settle 46 = .ok (.iconst 2, 1) := by decide +kernel
theorem dX6_settle_47 : decode cX6_settle 47 = .ok (.dup2, 1) := by decide +kernel
theorem dX6_settle_48 : decode cX6_settle 48 = .ok (.iaload, 1) := by decide +kernel
theorem dX6_settle_49 : decode cX6_settle 49 = .ok (.aload_n 0, 1) := by decide +kernel
theorem dX6_settle_50 : decode cX6_settle 50 = .ok (.getfield 7, 3) := by decide +kernel
theorem dX6_settle_53 : decode cX6_settle 53 = .ok (.iload_n 1, 1) := by decide +kernel
theorem dX6_settle_54 : decode cX6_settle 54 = .ok (.iconst 3, 1) := by decide +kernel
theorem dX6_settle_55 : decode cX6_settle 55 = .ok (.invokestatic 55, 3) := by decide +kernel
theorem dX6_settle_58 : decode cX6_settle 58 = .ok (.iaload, 1) := by decide +kernel
theorem dX6_settle_59 : decode cX6_settle 59 = .ok (.iadd, 1) := by decide +kernel
theorem dX6_settle_60 : decode cX6_settle 60 = .ok (.iastore, 1) := by decide +kernel
theorem dX6_settle_61 : decode cX6_settle 61 = .ok (.iinc 1 1, 3) := by decide +kernel
theorem dX6_settle_64 : decode cX6_settle 64 = .ok (.goto (-62), 3) := by decide +kernel
theorem dX6_settle_67 : decode cX6_settle 67 = .ok (.aload_n 0, 1) := by decide +kernel
theorem dX6_settle_68 : decode cX6_settle 68 = .ok (.getfield 7, 3) := by decide +kernel
theorem dX6_settle_71 : decode cX6_settle 71 = .ok (.iconst 5, 1) := by decide +kernel
theorem dX6_settle_72 : decode cX6_settle 72 = .ok (.iconst 0, 1) := by decide +kernel
theorem dX6_settle_73 : decode cX6_settle 73 = .ok (.iastore, 1) := by decide +kernel
theorem dX6_settle_74 : decode cX6_settle 74 = .ok (.return_, 1) := by decide +kernel
set_option maxRecDepth 20000 in
theorem ggX6_table_X6_of : GoodIn wsX6_table wsX6_of := goodIn_r _ [5] (by decide +kernel) (by decide +kernel)
set_option maxRecDepth 20000 in
theorem gX6_table_X6_of : GoodIn wsX6_table (va_wsS RX6 55 yX6_of wsX6_of) := goodIn_app (goodIn_of _ (by decide +kernel)) ggX6_table_X6_of
theorem dX6_table_0 : decode cX6_table 0 = .ok (.iconst 0, 1) := by decide +kernel
theorem dX6_table_1 : decode cX6_table 1 = .ok (.istore_n 1, 1) := by decide +kernel
theorem dX6_table_2 : decode cX6_table 2 = .ok (.iconst 0, 1) := by decide +kernel
theorem dX6_table_3 : decode cX6_table 3 = .ok (.istore_n 2, 1) := by decide +kernel
theorem dX6_table_4 : decode cX6_table 4 = .ok (.iload_n 2, 1) := by decide +kernel
theorem dX6_table_5 : decode cX6_table 5 = .ok (.aload_n 0, 1) := by decide +kernel
theorem dX6_table_6 : decode cX6_table 6 = .ok (.getfield 7, 3) := by decide +kernel
theorem dX6_table_9 : decode cX6_table 9 = .ok (.iconst 5, 1) := by decide +kernel
theorem dX6_table_10 : decode cX6_table 10 = .ok (.iaload, 1) := by decide +kernel
theorem dX6_table_11 : decode cX6_table 11 = .ok (.if_icmp .ge 22, 3) := by decide +kernel
theorem dX6_table_14 : decode cX6_table 14 = .ok (.iload_n 1, 1) := by decide +kernel
theorem dX6_table_15 : decode cX6_table 15 = .ok (.aload_n 0, 1) := by decide +kernel
theorem dX6_table_16 : decode cX6_table 16 = .ok (.getfield 7, 3) := by decide +kernel
theorem dX6_table_19 : decode cX6_table 19 = .ok (.iload_n 2, 1) := by decide +kernel
theorem dX6_table_20 : decode cX6_table 20 = .ok (.iconst 3, 1) := by decide +kernel
theorem dX6_table_21 : decode cX6_table 21 = .ok (.invokestatic 55, 3) := by decide +kernel
theorem dX6_table_24 : decode cX6_table 24 = .ok (.iaload, 1) := by decide +kernel
theorem dX6_table_25 : decode cX6_table 25 = .ok (.iadd, 1) := by decide +kernel
theorem dX6_table_26 : decode cX6_table 26 = .ok (.istore_n 1, 1) := by decide +kernel
theorem dX6_table_27 : decode cX6_table 27 = .ok (.iinc 2 1, 3) := by decide +kernel
theorem dX6_table_30 : decode cX6_table 30 = .ok (.goto (-26), 3) := by decide +kernel
theorem dX6_table_33 : decode cX6_table 33 = .ok (.iload_n 1, 1) := by decide +kernel
theorem dX6_table_34 : decode cX6_table 34 = .ok (.ireturn, 1) := by decide +kernel
set_option maxRecDepth 20000 in
theorem ggX6_clear_X6_table : GoodIn wsX6_clear wsX6_table := goodIn_r _ [6, 1, 7, 8, 5, 9, 10, 11, 12, 13, 14, 15, 16] (by decide +kernel) (by decide +kernel)
set_option maxRecDepth 20000 in
theorem gX6_clear_X6_table : GoodIn wsX6_clear (wsV RX6 75 RX6 yX6_table wsX6_table) := goodIn_app (goodIn_of _ (by decide +kernel)) ggX6_clear_X6_table
theorem dX6_clear_0 : decode cX6_clear 0 = .ok (.aload_n 0, 1) := by decide +kernel
theorem dX6_clear_1 : decode cX6_clear 1 = .ok (.getfield 7, 3) := by decide +kernel
theorem dX6_clear_4 : decode cX6_clear 4 = .ok (.iconst 2, 1) := by decide +kernel
theorem dX6_clear_5 : decode cX6_clear 5 = .ok (.dup2, 1) := by decide +kernel
theorem dX6_clear_6 : decode cX6_clear 6 = .ok (.iaload, 1) := by decide +kernel
theorem dX6_clear_7 : decode cX6_clear 7 = .ok (.aload_n 0, 1) := by decide +kernel
theorem dX6_clear_8 : decode cX6_clear 8 = .ok (.invokevirtual 75, 3) := by decide +kernel
theorem dX6_clear_11 : decode cX6_clear 11 = .ok (.iadd, 1) := by decide +kernel
theorem dX6_clear_12 : decode cX6_clear 12 = .ok (.iastore, 1) := by decide +kernel
theorem dX6_clear_13 : decode cX6_clear 13 = .ok (.aload_n 0, 1) := by decide +kernel
theorem dX6_clear_14 : decode cX6_clear 14 = .ok (.getfield 7, 3) := by decide +kernel
theorem dX6_clear_17 : decode cX6_clear 17 = .ok (.iconst 5, 1) := by decide +kernel
theorem dX6_clear_18 : decode cX6_clear 18 = .ok (.iconst 0, 1) := by decide +kernel
theorem dX6_clear_19 : decode cX6_clear 19 = .ok (.iastore, 1) := by decide +kernel
theorem dX6_clear_20 : decode cX6_clear 20 = .ok (.aload_n 0, 1) := by decide +kernel
theorem dX6_clear_21 : decode cX6_clear 21 = .ok (.getfield 7, 3) := by decide +kernel
theorem dX6_clear_24 : decode cX6_clear 24 = .ok (.iconst 3, 1) := by decide +kernel
theorem dX6_clear_25 : decode cX6_clear 25 = .ok (.iconst 0, 1) := by decide +kernel
theorem dX6_clear_26 : decode cX6_clear 26 = .ok (.iastore, 1) := by decide +kernel
theorem dX6_clear_27 : decode cX6_clear 27 = .ok (.iconst 0, 1) := by decide +kernel
theorem dX6_clear_28 : decode cX6_clear 28 = .ok (.istore_n 1, 1) := by decide +kernel
theorem dX6_clear_29 : decode cX6_clear 29 = .ok (.iload_n 1, 1) := by decide +kernel
theorem dX6_clear_30 : decode cX6_clear 30 = .ok (.bipush 16, 2) := by decide +kernel
theorem dX6_clear_32 : decode cX6_clear 32 = .ok (.if_icmp .ge 19, 3) := by decide +kernel
theorem dX6_clear_35 : decode cX6_clear 35 = .ok (.aload_n 0, 1) := by decide +kernel
theorem dX6_clear_36 : decode cX6_clear 36 = .ok (.getfield 7, 3) := by decide +kernel
theorem dX6_clear_39 : decode cX6_clear 39 = .ok (.bipush 31, 2) := by decide +kernel
theorem dX6_clear_41 : decode cX6_clear 41 = .ok (.iload_n 1, 1) := by decide +kernel
theorem dX6_clear_42 : decode cX6_clear 42 = .ok (.iadd, 1) := by decide +kernel
theorem dX6_clear_43 : decode cX6_clear 43 = .ok (.iconst 0, 1) := by decide +kernel
theorem dX6_clear_44 : decode cX6_clear 44 = .ok (.iastore, 1) := by decide +kernel
theorem dX6_clear_45 : decode cX6_clear 45 = .ok (.iinc 1 1, 3) := by decide +kernel
theorem dX6_clear_48 : decode cX6_clear 48 = .ok (.goto (-19), 3) := by decide +kernel
theorem dX6_clear_51 : decode cX6_clear 51 = .ok (.return_, 1) := by decide +kernel
set_option maxRecDepth 20000 in
theorem ggX6_lay_X6_in : GoodIn wsX6_lay wsX6_in := goodIn_r _ [4] (by decide +kernel) (by decide +kernel)
set_option maxRecDepth 20000 in
theorem gX6_lay_X6_in : GoodIn wsX6_lay (va_wsS RX6 30 yX6_in wsX6_in) := goodIn_app (goodIn_of _ (by decide +kernel)) ggX6_lay_X6_in
set_option maxRecDepth 20000 in
theorem ggX6_lay_X6_know : GoodIn wsX6_lay wsX6_know := goodIn_r _ [8, 9, 10, 11, 59, 60, 61, 62, 63, 64, 65] (by decide +kernel) (by decide +kernel)
set_option maxRecDepth 20000 in
theorem gX6_lay_X6_know : GoodIn wsX6_lay (wsV RX6 78 RX6 yX6_know wsX6_know) := goodIn_app (goodIn_of _ (by decide +kernel)) ggX6_lay_X6_know
set_option maxRecDepth 20000 in
theorem ggX6_lay_X6_clear : GoodIn wsX6_lay wsX6_clear := goodIn_r _ [15, 11, 16, 17, 18, 3, 19, 20, 21, 22, 59, 60, 61, 62, 63, 64, 65] (by decide +kernel) (by decide +kernel)
set_option maxRecDepth 20000 in
theorem gX6_lay_X6_clear : GoodIn wsX6_lay (wsV RX6 81 RX6 yX6_clear wsX6_clear) := goodIn_app (goodIn_of _ (by decide +kernel)) ggX6_lay_X6_clear
set_option maxRecDepth 20000 in
theorem ggX6_lay_X6_order : GoodIn wsX6_lay wsX6_order := goodIn_r _ [26, 11, 59, 60, 61, 62, 63, 64, 65] (by decide +kernel) (by decide +kernel)
set_option maxRecDepth 20000 in
theorem gX6_lay_X6_order : GoodIn wsX6_lay (wsV RX6 22 RX6 yX6_order wsX6_order) := goodIn_app (goodIn_of _ (by decide +kernel)) ggX6_lay_X6_order
set_option maxRecDepth 20000 in
theorem ggX6_lay_X6_cells : GoodIn wsX6_lay wsX6_cells := goodIn_r _ [30, 11, 59, 60, 61, 62, 63, 64, 65] (by decide +kernel) (by decide +kernel)
set_option maxRecDepth 20000 in
theorem gX6_lay_X6_cells : GoodIn wsX6_lay (wsV RX6 26 RX6 yX6_cells wsX6_cells) := goodIn_app (goodIn_of _ (by decide +kernel)) ggX6_lay_X6_cells
set_option maxRecDepth 20000 in
theorem ggX6_lay_X6_exchange : GoodIn wsX6_lay wsX6_exchange := goodIn_r _ [34, 11, 59, 60, 61, 62, 63, 64, 65] (by decide +kernel) (by decide +kernel)
set_option maxRecDepth 20000 in
theorem gX6_lay_X6_exchange : GoodIn wsX6_lay (wsV RX6 84 RX6 yX6_exchange wsX6_exchange) := goodIn_app (goodIn_of _ (by decide +kernel)) ggX6_lay_X6_exchange
set_option maxRecDepth 20000 in
theorem ggX6_lay_X6_wayOff : GoodIn wsX6_lay wsX6_wayOff := goodIn_r _ [38, 39, 40, 41, 3, 42, 11, 43, 44, 45, 46, 47, 48, 49, 50, 27, 28, 29, 30, 51, 52, 53, 54, 55, 56, 57, 58, 59, 60, 61, 62, 63, 64, 65] (by decide +kernel) (by decide +kernel)
set_option maxRecDepth 20000 in
theorem gX6_lay_X6_wayOff : GoodIn wsX6_lay (wsV RX6 87 RX6 yX6_wayOff wsX6_wayOff) := goodIn_app (goodIn_of _ (by decide +kernel)) ggX6_lay_X6_wayOff
theorem dX6_lay_0 : decode cX6_lay 0 = .ok (.iload_n 1, 1) := by decide +kernel
theorem dX6_lay_1 : decode cX6_lay 1 = .ok (.iconst 3, 1) := by decide +kernel
theorem dX6_lay_2 : decode cX6_lay 2 = .ok (.iconst 4, 1) := by decide +kernel
theorem dX6_lay_3 : decode cX6_lay 3 = .ok (.invokestatic 30, 3) := by decide +kernel
theorem dX6_lay_6 : decode cX6_lay 6 = .ok (.ifCond .eq 14, 3) := by decide +kernel
theorem dX6_lay_9 : decode cX6_lay 9 = .ok (.iload_n 2, 1) := by decide +kernel
theorem dX6_lay_10 : decode cX6_lay 10 = .ok (.iconst 0, 1) := by decide +kernel
theorem dX6_lay_11 : decode cX6_lay 11 = .ok (.sipush 9999, 3) := by decide +kernel
theorem dX6_lay_14 : decode cX6_lay 14 = .ok (.invokestatic 30, 3) := by decide +kernel
theorem dX6_lay_17 : decode cX6_lay 17 = .ok (.ifCond .ne 6, 3) := by decide +kernel
theorem dX6_lay_20 : decode cX6_lay 20 = .ok (.bipush (-2), 2) := by decide +kernel
theorem dX6_lay_22 : decode cX6_lay 22 = .ok (.ireturn, 1) := by decide +kernel
theorem dX6_lay_23 : decode cX6_lay 23 = .ok (.aload_n 0, 1) := by decide +kernel
theorem dX6_lay_24 : decode cX6_lay 24 = .ok (.invokevirtual 78, 3) := by decide +kernel
theorem dX6_lay_27 : decode cX6_lay 27 = .ok (.aload_n 0, 1) := by decide +kernel
theorem dX6_lay_28 : decode cX6_lay 28 = .ok (.invokevirtual 81, 3) := by decide +kernel
theorem dX6_lay_31 : decode cX6_lay 31 = .ok (.aload_n 0, 1) := by decide +kernel
theorem dX6_lay_32 : decode cX6_lay 32 = .ok (.iload_n 1, 1) := by decide +kernel
theorem dX6_lay_33 : decode cX6_lay 33 = .ok (.invokevirtual 22, 3) := by decide +kernel
theorem dX6_lay_36 : decode cX6_lay 36 = .ok (.iload_n 2, 1) := by decide +kernel
theorem dX6_lay_37 : decode cX6_lay 37 = .ok (.istore_n 3, 1) := by decide +kernel
theorem dX6_lay_38 : decode cX6_lay 38 = .ok (.aload_n 0, 1) := by decide +kernel
theorem dX6_lay_39 : decode cX6_lay 39 = .ok (.invokevirtual 26, 3) := by decide +kernel
theorem dX6_lay_42 : decode cX6_lay 42 = .ok (.iconst 1, 1) := by decide +kernel
theorem dX6_lay_43 : decode cX6_lay 43 = .ok (.isub, 1) := by decide +kernel
theorem dX6_lay_44 : decode cX6_lay 44 = .ok (.istore 4, 2) := by decide +kernel
theorem dX6_lay_46 : decode cX6_lay 46 = .ok (.iload 4, 2) := by decide +kernel
theorem dX6_lay_48 : decode cX6_lay 48 = .ok (.ifCond .le 35, 3) := by decide +kernel
theorem dX6_lay_51 : decode cX6_lay 51 = .ok (.sipush 421, 3) := by decide +kernel
theorem dX6_lay_54 : decode cX6_lay 54 = .ok (.iload_n 3, 1) := by decide +kernel
theorem dX6_lay_55 : decode cX6_lay 55 = .ok (.imul, 1) := by decide +kernel
theorem dX6_lay_56 : decode cX6_lay 56 = .ok (.sipush 1663, 3) := by decide +kernel
theorem dX6_lay_59 : decode cX6_lay 59 = .ok (.iadd, 1) := by decide +kernel
theorem dX6_lay_60 : decode cX6_lay 60 = .ok (.sipush 10000, 3) := by decide +kernel
theorem dX6_lay_63 : decode cX6_lay 63 = .ok (.irem, 1) := by decide +kernel
theorem dX6_lay_64 : decode cX6_lay 64 = .ok (.istore_n 3, 1) := by decide +kernel
theorem dX6_lay_65 : decode cX6_lay 65 = .ok (.aload_n 0, 1) := by decide +kernel
theorem dX6_lay_66 : decode cX6_lay 66 = .ok (.iload 4, 2) := by decide +kernel
theorem dX6_lay_68 : decode cX6_lay 68 = .ok (.iload_n 3, 1) := by decide +kernel
theorem dX6_lay_69 : decode cX6_lay 69 = .ok (.iload 4, 2) := by decide +kernel
theorem dX6_lay_71 : decode cX6_lay 71 = .ok (.iconst 1, 1) := by decide +kernel
theorem dX6_lay_72 : decode cX6_lay 72 = .ok (.iadd, 1) := by decide +kernel
theorem dX6_lay_73 : decode cX6_lay 73 = .ok (.irem, 1) := by decide +kernel
theorem dX6_lay_74 : decode cX6_lay 74 = .ok (.invokevirtual 84, 3) := by decide +kernel
theorem dX6_lay_77 : decode cX6_lay 77 = .ok (.iinc 4 (-1), 3) := by decide +kernel
theorem dX6_lay_80 : decode cX6_lay 80 = .ok (.goto (-34), 3) := by decide +kernel
theorem dX6_lay_83 : decode cX6_lay 83 = .ok (.aload_n 0, 1) := by decide +kernel
theorem dX6_lay_84 : decode cX6_lay 84 = .ok (.invokevirtual 87, 3) := by decide +kernel
theorem dX6_lay_87 : decode cX6_lay 87 = .ok (.ireturn, 1) := by decide +kernel
set_option maxRecDepth 20000 in
theorem ggX6_textFault_X6_in : GoodIn wsX6_textFault wsX6_in := goodIn_r _ [6] (by decide +kernel) (by decide +kernel)
set_option maxRecDepth 20000 in
theorem gX6_textFault_X6_in : GoodIn wsX6_textFault (va_wsS RX6 30 yX6_in wsX6_in) := goodIn_app (goodIn_of _ (by decide +kernel)) ggX6_textFault_X6_in
theorem dX6_textFault_0 : decode cX6_textFault 0 = .ok (.aload_n 0, 1) := by decide +kernel
theorem dX6_textFault_1 : decode cX6_textFault 1 = .ok (.getfield 90, 3) := by decide +kernel
theorem dX6_textFault_4 : decode cX6_textFault 4 = .ok (.ifCond .le 23, 3) := by decide +kernel
theorem dX6_textFault_7 : decode cX6_textFault 7 = .ok (.aload_n 0, 1) := by decide +kernel
theorem dX6_textFault_8 : decode cX6_textFault 8 = .ok (.getfield 19, 3) := by decide +kernel
theorem dX6_textFault_11 : decode cX6_textFault 11 = .ok (.iconst 0, 1) := by decide +kernel
theorem dX6_textFault_12 : decode cX6_textFault 12 = .ok (.iaload, 1) := by decide +kernel
theorem dX6_textFault_13 : decode cX6_textFault 13 = .ok (.bipush 97, 2) := by decide +kernel
theorem dX6_textFault_15 : decode cX6_textFault 15 = .ok (.bipush 112, 2) := by decide +kernel
theorem dX6_textFault_17 : decode cX6_textFault 17 = .ok (.invokestatic 30, 3) := by decide +kernel
theorem dX6_textFault_20 : decode cX6_textFault 20 = .ok (.ifCond .eq 7, 3) := by decide +kernel
theorem dX6_textFault_23 : decode cX6_textFault 23 = .ok (.iconst 1, 1) := by decide +kernel
theorem dX6_textFault_24 : decode cX6_textFault 24 = .ok (.goto 4, 3) := by decide +kernel
theorem dX6_textFault_27 : decode cX6_textFault 27 = .ok (.iconst 0, 1) := by decide +kernel
theorem dX6_textFault_28 : decode cX6_textFault 28 = .ok (.istore_n 1, 1) := by decide +kernel
theorem dX6_textFault_29 : decode cX6_textFault 29 = .ok (.iload_n 1, 1) := by decide +kernel
theorem dX6_textFault_30 : decode cX6_textFault 30 = .ok (.ifCond .eq 8, 3) := by decide +kernel
theorem dX6_textFault_33 : decode cX6_textFault 33 = .ok (.bipush 16, 2) := by decide +kernel
theorem dX6_textFault_35 : decode cX6_textFault 35 = .ok (.goto 5, 3) := by decide +kernel
theorem dX6_textFault_38 : decode cX6_textFault 38 = .ok (.bipush 9, 2) := by decide +kernel
theorem dX6_textFault_40 : decode cX6_textFault 40 = .ok (.istore_n 2, 1) := by decide +kernel
theorem dX6_textFault_41 : decode cX6_textFault 41 = .ok (.iload_n 1, 1) := by decide +kernel
theorem dX6_textFault_42 : decode cX6_textFault 42 = .ok (.ifCond .eq 8, 3) := by decide +kernel
theorem dX6_textFault_45 : decode cX6_textFault 45 = .ok (.bipush 97, 2) := by decide +kernel
theorem dX6_textFault_47 : decode cX6_textFault 47 = .ok (.goto 5, 3) := by decide +kernel
theorem dX6_textFault_50 : decode cX6_textFault 50 = .ok (.bipush 49, 2) := by decide +kernel
theorem dX6_textFault_52 : decode cX6_textFault 52 = .ok (.istore_n 3, 1) := by decide +kernel
theorem dX6_textFault_53 : decode cX6_textFault 53 = .ok (.iconst 0, 1) := by decide +kernel
theorem dX6_textFault_54 : decode cX6_textFault 54 = .ok (.istore 4, 2) := by decide +kernel
theorem dX6_textFault_56 : decode cX6_textFault 56 = .ok (.iconst 0, 1) := by decide +kernel
theorem dX6_textFault_57 : decode cX6_textFault 57 = .ok (.istore 5, 2) := by decide +kernel
theorem dX6_textFault_59 : decode cX6_textFault 59 = .ok (.iload 5, 2) := by decide +kernel
theorem dX6_textFault_61 : decode cX6_textFault 61 = .ok (.aload_n 0, 1) := by decide +kernel
theorem dX6_textFault_62 : decode cX6_textFault 62 = .ok (.getfield 90, 3) := by decide +kernel
theorem dX6_textFault_65 : decode cX6_textFault 65 = .ok (.if_icmp .ge 61, 3) := by decide +kernel
theorem dX6_textFault_68 : decode cX6_textFault 68 = .ok (.aload_n 0, 1) := by decide +kernel
theorem dX6_textFault_69 : decode cX6_textFault 69 = .ok (.getfield 19, 3) := by decide +kernel
theorem dX6_textFault_72 : decode cX6_textFault 72 = .ok (.iload 5, 2) := by decide +kernel
theorem dX6_textFault_74 : decode cX6_textFault 74 = .ok (.iaload, 1) := by decide +kernel
theorem dX6_textFault_75 : decode cX6_textFault 75 = .ok (.iload_n 3, 1) := by decide +kernel
theorem dX6_textFault_76 : decode cX6_textFault 76 = .ok (.isub, 1) := by decide +kernel
theorem dX6_textFault_77 : decode cX6_textFault 77 = .ok (.istore 6, 2) := by decide +kernel
theorem dX6_textFault_79 : decode cX6_textFault 79 = .ok (.iload 5, 2) := by decide +kernel
theorem dX6_textFault_81 : decode cX6_textFault 81 = .ok (.iload_n 2, 1) := by decide +kernel
theorem dX6_textFault_82 : decode cX6_textFault 82 = .ok (.if_icmp .ge 26, 3) := by decide +kernel
theorem dX6_textFault_85 : decode cX6_textFault 85 = .ok (.iload 6, 2) := by decide +kernel
theorem dX6_textFault_87 : decode cX6_textFault 87 = .ok (.iconst 0, 1) := by decide +kernel
theorem dX6_textFault_88 : decode cX6_textFault 88 = .ok (.iload_n 2, 1) := by decide +kernel
theorem dX6_textFault_89 : decode cX6_textFault 89 = .ok (.iconst 1, 1) := by decide +kernel
theorem dX6_textFault_90 : decode cX6_textFault 90 = .ok (.isub, 1) := by decide +kernel
theorem dX6_textFault_91 : decode cX6_textFault 91 = .ok (.invokestatic 30, 3) := by decide +kernel
theorem dX6_textFault_94 : decode cX6_textFault 94 = .ok (.ifCond .eq 14, 3) := by decide +kernel
theorem dX6_textFault_97 : decode cX6_textFault 97 = .ok (.iload 4, 2) := by decide +kernel
theorem dX6_textFault_99 : decode cX6_textFault 99 = .ok (.iload 6, 2) := by decide +kernel
theorem dX6_textFault_101 : decode cX6_textFault 101 = .ok (.ishr, 1) := by decide +kernel
theorem dX6_textFault_102 : decode cX6_textFault 102 = .ok (.iconst 1, 1) := by decide +kernel
theorem dX6_textFault_103 : decode cX6_textFault 103 = .ok (.iand, 1) := by decide +kernel
theorem dX6_textFault_104 : decode cX6_textFault 104 = .ok (.iconst 1, 1) := by decide +kernel
theorem dX6_textFault_105 : decode cX6_textFault 105 = .ok (.if_icmp .ne 6, 3) := by decide +kernel
theorem dX6_textFault_108 : decode cX6_textFault 108 = .ok (.iload 5, 2) := by decide +kernel
theorem dX6_textFault_110 : decode cX6_textFault 110 = .ok (.ireturn, 1) := by decide +kernel
theorem dX6_textFault_111 : decode cX6_textFault 111 = .ok (.iload 4, 2) := by decide +kernel
theorem dX6_textFault_113 : decode cX6_textFault 113 = .ok (.iconst 1, 1) := by decide +kernel
theorem dX6_textFault_114 : decode cX6_textFault 114 = .ok (.iload 6, 2) := by decide +kernel
theorem dX6_textFault_116 : decode cX6_textFault 116 = .ok (.ishl, 1) := by decide +kernel
theorem dX6_textFault_117 : decode cX6_textFault 117 = .ok (.ior, 1) := by decide +kernel
theorem dX6_textFault_118 : decode cX6_textFault 118 = .ok (.istore 4, 2) := by decide +kernel
theorem dX6_textFault_120 : decode cX6_textFault 120 = .ok (.iinc 5 1, 3) := by decide +kernel
theorem dX6_textFault_123 : decode cX6_textFault 123 = .ok (.goto (-64), 3) := by decide +kernel
theorem dX6_textFault_126 : decode cX6_textFault 126 = .ok (.aload_n 0, 1) := by decide +kernel
theorem dX6_textFault_127 : decode cX6_textFault 127 = .ok (.getfield 90, 3) := by decide +kernel
theorem dX6_textFault_130 : decode cX6_textFault 130 = .ok (.iload_n 2, 1) := by decide +kernel
theorem dX6_textFault_131 : decode cX6_textFault 131 = .ok (.if_icmp .ge 10, 3) := by decide +kernel
theorem dX6_textFault_134 : decode cX6_textFault 134 = .ok (.aload_n 0, 1) := by decide +kernel
theorem dX6_textFault_135 : decode cX6_textFault 135 = .ok (.getfield 90, 3) := by decide +kernel
theorem dX6_textFault_138 : decode cX6_textFault 138 = .ok (.goto 5, 3) := by decide +kernel
theorem dX6_textFault_141 : decode cX6_textFault 141 = .ok (.bipush (-5), 2) := by decide +kernel
theorem dX6_textFault_143 : decode cX6_textFault 143 = .ok (.ireturn, 1) := by decide +kernel
set_option maxRecDepth 20000 in
theorem ggX6_read_X6_textFault : GoodIn wsX6_read wsX6_textFault := goodIn_r _ [8, 2, 3, 9, 10, 7, 11, 57, 58, 59, 60, 61, 62, 63] (by decide +kernel) (by decide +kernel)
set_option maxRecDepth 20000 in
theorem gX6_read_X6_textFault : GoodIn wsX6_read (wsV RX6 93 RX6 yX6_textFault wsX6_textFault) := goodIn_app (goodIn_of _ (by decide +kernel)) ggX6_read_X6_textFault
set_option maxRecDepth 20000 in
theorem ggX6_read_X6_know : GoodIn wsX6_read wsX6_know := goodIn_r _ [15, 16, 17, 1, 57, 58, 59, 60, 61, 62, 63] (by decide +kernel) (by decide +kernel)
set_option maxRecDepth 20000 in
theorem gX6_read_X6_know : GoodIn wsX6_read (wsV RX6 78 RX6 yX6_know wsX6_know) := goodIn_app (goodIn_of _ (by decide +kernel)) ggX6_read_X6_know
set_option maxRecDepth 20000 in
theorem ggX6_read_X6_clear : GoodIn wsX6_read wsX6_clear := goodIn_r _ [21, 1, 22, 23, 24, 7, 25, 26, 27, 28, 57, 58, 59, 60, 61, 62, 63] (by decide +kernel) (by decide +kernel)
set_option maxRecDepth 20000 in
theorem gX6_read_X6_clear : GoodIn wsX6_read (wsV RX6 81 RX6 yX6_clear wsX6_clear) := goodIn_app (goodIn_of _ (by decide +kernel)) ggX6_read_X6_clear
set_option maxRecDepth 20000 in
theorem ggX6_read_X6_wayOff : GoodIn wsX6_read wsX6_wayOff := goodIn_r _ [32, 33, 34, 35, 7, 36, 1, 37, 38, 39, 40, 41, 42, 43, 44, 45, 46, 47, 48, 49, 50, 51, 52, 53, 54, 55, 56, 57, 58, 59, 60, 61, 62, 63] (by decide +kernel) (by decide +kernel)
set_option maxRecDepth 20000 in
theorem gX6_read_X6_wayOff : GoodIn wsX6_read (wsV RX6 87 RX6 yX6_wayOff wsX6_wayOff) := goodIn_app (goodIn_of _ (by decide +kernel)) ggX6_read_X6_wayOff
theorem dX6_read_0 : decode cX6_read 0 = .ok (.aload_n 0, 1) := by decide +kernel
theorem dX6_read_1 : decode cX6_read 1 = .ok (.invokevirtual 93, 3) := by decide +kernel
theorem dX6_read_4 : decode cX6_read 4 = .ok (.istore_n 1, 1) := by decide +kernel
theorem dX6_read_5 : decode cX6_read 5 = .ok (.iload_n 1, 1) := by decide +kernel
theorem dX6_read_6 : decode cX6_read 6 = .ok (.bipush (-5), 2) := by decide +kernel
theorem dX6_read_8 : decode cX6_read 8 = .ok (.if_icmp .eq 8, 3) := by decide +kernel
theorem dX6_read_11 : decode cX6_read 11 = .ok (.bipush (-100), 2) := by decide +kernel
theorem dX6_read_13 : decode cX6_read 13 = .ok (.iload_n 1, 1) := by decide +kernel
theorem dX6_read_14 : decode cX6_read 14 = .ok (.isub, 1) := by decide +kernel
theorem dX6_read_15 : decode cX6_read 15 = .ok (.ireturn, 1) := by decide +kernel
theorem dX6_read_16 : decode cX6_read 16 = .ok (.aload_n 0, 1) := by decide +kernel
theorem dX6_read_17 : decode cX6_read 17 = .ok (.invokevirtual 78, 3) := by decide +kernel
theorem dX6_read_20 : decode cX6_read 20 = .ok (.aload_n 0, 1) := by decide +kernel
theorem dX6_read_21 : decode cX6_read 21 = .ok (.invokevirtual 81, 3) := by decide +kernel
theorem dX6_read_24 : decode cX6_read 24 = .ok (.aload_n 0, 1) := by decide +kernel
theorem dX6_read_25 : decode cX6_read 25 = .ok (.getfield 7, 3) := by decide +kernel
theorem dX6_read_28 : decode cX6_read 28 = .ok (.iconst 0, 1) := by decide +kernel
theorem dX6_read_29 : decode cX6_read 29 = .ok (.aload_n 0, 1) := by decide +kernel
theorem dX6_read_30 : decode cX6_read 30 = .ok (.getfield 90, 3) := by decide +kernel
theorem dX6_read_33 : decode cX6_read 33 = .ok (.bipush 16, 2) := by decide +kernel
theorem dX6_read_35 : decode cX6_read 35 = .ok (.if_icmp .ne 7, 3) := by decide +kernel
theorem dX6_read_38 : decode cX6_read 38 = .ok (.iconst 4, 1) := by decide +kernel
theorem dX6_read_39 : decode cX6_read 39 = .ok (.goto 4, 3) := by decide +kernel
theorem dX6_read_42 : decode cX6_read 42 = .ok (.iconst 3, 1) := by decide +kernel
theorem dX6_read_43 : decode cX6_read 43 = .ok (.iastore, 1) := by decide +kernel
theorem dX6_read_44 : decode cX6_read 44 = .ok (.iconst 0, 1) := by decide +kernel
theorem dX6_read_45 : decode cX6_read 45 = .ok (.istore_n 2, 1) := by decide +kernel
theorem dX6_read_46 : decode cX6_read 46 = .ok (.iload_n 2, 1) := by decide +kernel
theorem dX6_read_47 : decode cX6_read 47 = .ok (.aload_n 0, 1) := by decide +kernel
theorem dX6_read_48 : decode cX6_read 48 = .ok (.getfield 90, 3) := by decide +kernel
theorem dX6_read_51 : decode cX6_read 51 = .ok (.if_icmp .ge 43, 3) := by decide +kernel
theorem dX6_read_54 : decode cX6_read 54 = .ok (.aload_n 0, 1) := by decide +kernel
theorem dX6_read_55 : decode cX6_read 55 = .ok (.getfield 7, 3) := by decide +kernel
theorem dX6_read_58 : decode cX6_read 58 = .ok (.bipush 15, 2) := by decide +kernel
theorem dX6_read_60 : decode cX6_read 60 = .ok (.iload_n 2, 1) := by decide +kernel
theorem dX6_read_61 : decode cX6_read 61 = .ok (.iadd, 1) := by decide +kernel
theorem dX6_read_62 : decode cX6_read 62 = .ok (.aload_n 0, 1) := by decide +kernel
theorem dX6_read_63 : decode cX6_read 63 = .ok (.getfield 19, 3) := by decide +kernel
theorem dX6_read_66 : decode cX6_read 66 = .ok (.iload_n 2, 1) := by decide +kernel
theorem dX6_read_67 : decode cX6_read 67 = .ok (.iaload, 1) := by decide +kernel
theorem dX6_read_68 : decode cX6_read 68 = .ok (.aload_n 0, 1) := by decide +kernel
theorem dX6_read_69 : decode cX6_read 69 = .ok (.getfield 90, 3) := by decide +kernel
theorem dX6_read_72 : decode cX6_read 72 = .ok (.bipush 16, 2) := by decide +kernel
theorem dX6_read_74 : decode cX6_read 74 = .ok (.if_icmp .ne 8, 3) := by decide +kernel
theorem dX6_read_77 : decode cX6_read 77 = .ok (.bipush 97, 2) := by decide +kernel
theorem dX6_read_79 : decode cX6_read 79 = .ok (.goto 5, 3) := by decide +kernel
theorem dX6_read_82 : decode cX6_read 82 = .ok (.bipush 49, 2) := by decide +kernel
theorem dX6_read_84 : decode cX6_read 84 = .ok (.isub, 1) := by decide +kernel
theorem dX6_read_85 : decode cX6_read 85 = .ok (.iconst 1, 1) := by decide +kernel
theorem dX6_read_86 : decode cX6_read 86 = .ok (.iadd, 1) := by decide +kernel
theorem dX6_read_87 : decode cX6_read 87 = .ok (.iastore, 1) := by decide +kernel
theorem dX6_read_88 : decode cX6_read 88 = .ok (.iinc 2 1, 3) := by decide +kernel
theorem dX6_read_91 : decode cX6_read 91 = .ok (.goto (-45), 3) := by decide +kernel
theorem dX6_read_94 : decode cX6_read 94 = .ok (.aload_n 0, 1) := by decide +kernel
theorem dX6_read_95 : decode cX6_read 95 = .ok (.invokevirtual 87, 3) := by decide +kernel
theorem dX6_read_98 : decode cX6_read 98 = .ok (.ireturn, 1) := by decide +kernel
theorem dX6_nextTurn_0 : decode cX6_nextTurn 0 = .ok (.aload_n 0, 1) := by decide +kernel
theorem dX6_nextTurn_1 : decode cX6_nextTurn 1 = .ok (.getfield 7, 3) := by decide +kernel
theorem dX6_nextTurn_4 : decode cX6_nextTurn 4 = .ok (.iconst 1, 1) := by decide +kernel
theorem dX6_nextTurn_5 : decode cX6_nextTurn 5 = .ok (.aload_n 0, 1) := by decide +kernel
theorem dX6_nextTurn_6 : decode cX6_nextTurn 6 = .ok (.getfield 7, 3) := by decide +kernel
theorem dX6_nextTurn_9 : decode cX6_nextTurn 9 = .ok (.iconst 1, 1) := by decide +kernel
theorem dX6_nextTurn_10 : decode cX6_nextTurn 10 = .ok (.iaload, 1) := by decide +kernel
theorem dX6_nextTurn_11 : decode cX6_nextTurn 11 = .ok (.iconst 1, 1) := by decide +kernel
theorem dX6_nextTurn_12 : decode cX6_nextTurn 12 = .ok (.iadd, 1) := by decide +kernel
theorem dX6_nextTurn_13 : decode cX6_nextTurn 13 = .ok (.iconst 3, 1) := by decide +kernel
theorem dX6_nextTurn_14 : decode cX6_nextTurn 14 = .ok (.irem, 1) := by decide +kernel
theorem dX6_nextTurn_15 : decode cX6_nextTurn 15 = .ok (.iastore, 1) := by decide +kernel
theorem dX6_nextTurn_16 : decode cX6_nextTurn 16 = .ok (.return_, 1) := by decide +kernel
set_option maxRecDepth 20000 in
theorem ggX6_frozen_X6_cells : GoodIn wsX6_frozen wsX6_cells := goodIn_r _ [6, 1, 7, 8, 9, 10, 11, 12, 13] (by decide +kernel) (by decide +kernel)
set_option maxRecDepth 20000 in
theorem gX6_frozen_X6_cells : GoodIn wsX6_frozen (wsV RX6 26 RX6 yX6_cells wsX6_cells) := goodIn_app (goodIn_of _ (by decide +kernel)) ggX6_frozen_X6_cells
theorem dX6_frozen_0 : decode cX6_frozen 0 = .ok (.iconst 0, 1) := by decide +kernel
theorem dX6_frozen_1 : decode cX6_frozen 1 = .ok (.istore_n 1, 1) := by decide +kernel
theorem dX6_frozen_2 : decode cX6_frozen 2 = .ok (.iconst 0, 1) := by decide +kernel
theorem dX6_frozen_3 : decode cX6_frozen 3 = .ok (.istore_n 2, 1) := by decide +kernel
theorem dX6_frozen_4 : decode cX6_frozen 4 = .ok (.iload_n 2, 1) := by decide +kernel
theorem dX6_frozen_5 : decode cX6_frozen 5 = .ok (.aload_n 0, 1) := by decide +kernel
theorem dX6_frozen_6 : decode cX6_frozen 6 = .ok (.invokevirtual 26, 3) := by decide +kernel
theorem dX6_frozen_9 : decode cX6_frozen 9 = .ok (.if_icmp .ge 29, 3) := by decide +kernel
theorem dX6_frozen_12 : decode cX6_frozen 12 = .ok (.iload_n 1, 1) := by decide +kernel
theorem dX6_frozen_13 : decode cX6_frozen 13 = .ok (.aload_n 0, 1) := by decide +kernel
theorem dX6_frozen_14 : decode cX6_frozen 14 = .ok (.getfield 7, 3) := by decide +kernel
theorem dX6_frozen_17 : decode cX6_frozen 17 = .ok (.bipush 31, 2) := by decide +kernel
theorem dX6_frozen_19 : decode cX6_frozen 19 = .ok (.iload_n 2, 1) := by decide +kernel
theorem dX6_frozen_20 : decode cX6_frozen 20 = .ok (.iadd, 1) := by decide +kernel
theorem dX6_frozen_21 : decode cX6_frozen 21 = .ok (.iaload, 1) := by decide +kernel
theorem dX6_frozen_22 : decode cX6_frozen 22 = .ok (.ifCond .le 7, 3) := by decide +kernel
theorem dX6_frozen_25 : decode cX6_frozen 25 = .ok (.iconst 1, 1) := by decide +kernel
theorem dX6_frozen_26 : decode cX6_frozen 26 = .ok (.goto 4, 3) := by decide +kernel
theorem dX6_frozen_29 : decode cX6_frozen 29 = .ok (.iconst 0, 1) := by decide +kernel
theorem dX6_frozen_30 : decode cX6_frozen 30 = .ok (.iadd, 1) := by decide +kernel
theorem dX6_frozen_31 : decode cX6_frozen 31 = .ok (.istore_n 1, 1) := by decide +kernel
theorem dX6_frozen_32 : decode cX6_frozen 32 = .ok (.iinc 2 1, 3) := by decide +kernel
theorem dX6_frozen_35 : decode cX6_frozen 35 = .ok (.goto (-31), 3) := by decide +kernel
theorem dX6_frozen_38 : decode cX6_frozen 38 = .ok (.iload_n 1, 1) := by decide +kernel
theorem dX6_frozen_39 : decode cX6_frozen 39 = .ok (.ireturn, 1) := by decide +kernel
set_option maxRecDepth 20000 in
theorem ggX6_swap_X6_isCell : GoodIn wsX6_swap wsX6_isCell := goodIn_r _ [6, 7, 8, 9, 5, 10, 1, 11, 12, 13, 84, 85, 86, 87, 88, 89, 90] (by decide +kernel) (by decide +kernel)
set_option maxRecDepth 20000 in
theorem gX6_swap_X6_isCell : GoodIn wsX6_swap (wsV RX6 96 RX6 yX6_isCell wsX6_isCell) := goodIn_app (goodIn_of _ (by decide +kernel)) ggX6_swap_X6_isCell
set_option maxRecDepth 20000 in
theorem ggX6_swap_X6_know : GoodIn wsX6_swap wsX6_know := goodIn_r _ [17, 18, 19, 1, 84, 85, 86, 87, 88, 89, 90] (by decide +kernel) (by decide +kernel)
set_option maxRecDepth 20000 in
theorem gX6_swap_X6_know : GoodIn wsX6_swap (wsV RX6 78 RX6 yX6_know wsX6_know) := goodIn_app (goodIn_of _ (by decide +kernel)) ggX6_swap_X6_know
set_option maxRecDepth 20000 in
theorem ggX6_swap_X6_spend : GoodIn wsX6_swap wsX6_spend := goodIn_r _ [23, 1, 84, 85, 86, 87, 88, 89, 90] (by decide +kernel) (by decide +kernel)
set_option maxRecDepth 20000 in
theorem gX6_swap_X6_spend : GoodIn wsX6_swap (wsV RX6 99 RX6 yX6_spend wsX6_spend) := goodIn_app (goodIn_of _ (by decide +kernel)) ggX6_swap_X6_spend
set_option maxRecDepth 20000 in
theorem ggX6_swap_X6_wayOff : GoodIn wsX6_swap wsX6_wayOff := goodIn_r _ [27, 28, 29, 30, 5, 31, 1, 32, 33, 34, 35, 36, 37, 38, 39, 7, 8, 9, 10, 40, 41, 42, 43, 44, 45, 46, 47, 84, 85, 86, 87, 88, 89, 90] (by decide +kernel) (by decide +kernel)
set_option maxRecDepth 20000 in
theorem gX6_swap_X6_wayOff : GoodIn wsX6_swap (wsV RX6 87 RX6 yX6_wayOff wsX6_wayOff) := goodIn_app (goodIn_of _ (by decide +kernel)) ggX6_swap_X6_wayOff
set_option maxRecDepth 20000 in
theorem ggX6_swap_X6_exchange : GoodIn wsX6_swap wsX6_exchange := goodIn_r _ [51, 1, 84, 85, 86, 87, 88, 89, 90] (by decide +kernel) (by decide +kernel)
set_option maxRecDepth 20000 in
theorem gX6_swap_X6_exchange : GoodIn wsX6_swap (wsV RX6 84 RX6 yX6_exchange wsX6_exchange) := goodIn_app (goodIn_of _ (by decide +kernel)) ggX6_swap_X6_exchange
set_option maxRecDepth 20000 in
theorem ggX6_swap_X6_cells : GoodIn wsX6_swap wsX6_cells := goodIn_r _ [10, 1, 84, 85, 86, 87, 88, 89, 90] (by decide +kernel) (by decide +kernel)
set_option maxRecDepth 20000 in
theorem gX6_swap_X6_cells : GoodIn wsX6_swap (wsV RX6 26 RX6 yX6_cells wsX6_cells) := goodIn_app (goodIn_of _ (by decide +kernel)) ggX6_swap_X6_cells
set_option maxRecDepth 20000 in
theorem ggX6_swap_X6_settle : GoodIn wsX6_swap wsX6_settle := goodIn_r _ [55, 1, 56, 57, 58, 5, 59, 60, 61, 62, 36, 37, 38, 39, 7, 8, 9, 10, 40, 41, 42, 43, 32, 33, 34, 35, 44, 45, 46, 47, 63, 64, 65, 66, 67, 68, 69, 70, 71, 72, 73, 74, 75, 84, 85, 86, 87, 88, 89, 90] (by decide +kernel) (by decide +kernel)
set_option maxRecDepth 20000 in
theorem gX6_swap_X6_settle : GoodIn wsX6_swap (wsV RX6 102 RX6 yX6_settle wsX6_settle) := goodIn_app (goodIn_of _ (by decide +kernel)) ggX6_swap_X6_settle
set_option maxRecDepth 20000 in
theorem ggX6_swap_X6_gain : GoodIn wsX6_swap wsX6_gain := goodIn_r _ [74, 1, 75, 84, 85, 86, 87, 88, 89, 90] (by decide +kernel) (by decide +kernel)
set_option maxRecDepth 20000 in
theorem gX6_swap_X6_gain : GoodIn wsX6_swap (wsV RX6 71 RX6 yX6_gain wsX6_gain) := goodIn_app (goodIn_of _ (by decide +kernel)) ggX6_swap_X6_gain
set_option maxRecDepth 20000 in
theorem ggX6_swap_X6_nextTurn : GoodIn wsX6_swap wsX6_nextTurn := goodIn_r _ [79, 1, 84, 85, 86, 87, 88, 89, 90] (by decide +kernel) (by decide +kernel)
set_option maxRecDepth 20000 in
theorem gX6_swap_X6_nextTurn : GoodIn wsX6_swap (wsV RX6 105 RX6 yX6_nextTurn wsX6_nextTurn) := goodIn_app (goodIn_of _ (by decide +kernel)) ggX6_swap_X6_nextTurn
set_option maxRecDepth 20000 in
theorem ggX6_swap_X6_magicLines : GoodIn wsX6_swap wsX6_magicLines := goodIn_r _ [83, 28, 29, 30, 5, 31, 1, 32, 33, 34, 35, 36, 37, 38, 39, 7, 8, 9, 10, 40, 41, 42, 43, 44, 45, 46, 47, 84, 85, 86, 87, 88, 89, 90] (by decide +kernel) (by decide +kernel)
set_option maxRecDepth 20000 in
theorem gX6_swap_X6_magicLines : GoodIn wsX6_swap (wsV RX6 108 RX6 yX6_magicLines wsX6_magicLines) := goodIn_app (goodIn_of _ (by decide +kernel)) ggX6_swap_X6_magicLines
theorem dX6_swap_0 : decode cX6_swap 0 = .ok (.aload_n 0, 1) := by decide +kernel
theorem dX6_swap_1 : decode cX6_swap 1 = .ok (.iload_n 1, 1) := by decide +kernel
theorem dX6_swap_2 : decode cX6_swap 2 = .ok (.invokevirtual 96, 3) := by decide +kernel
theorem dX6_swap_5 : decode cX6_swap 5 = .ok (.ifCond .eq 11, 3) := by decide +kernel
theorem dX6_swap_8 : decode cX6_swap 8 = .ok (.aload_n 0, 1) := by decide +kernel
theorem dX6_swap_9 : decode cX6_swap 9 = .ok (.iload_n 2, 1) := by decide +kernel
theorem dX6_swap_10 : decode cX6_swap 10 = .ok (.invokevirtual 96, 3) := by decide +kernel
theorem dX6_swap_13 : decode cX6_swap 13 = .ok (.ifCond .ne 5, 3) := by decide +kernel
theorem dX6_swap_16 : decode cX6_swap 16 = .ok (.iconst (-1), 1) := by decide +kernel
theorem dX6_swap_17 : decode cX6_swap 17 = .ok (.ireturn, 1) := by decide +kernel
theorem dX6_swap_18 : decode cX6_swap 18 = .ok (.iload_n 1, 1) := by decide +kernel
theorem dX6_swap_19 : decode cX6_swap 19 = .ok (.iload_n 2, 1) := by decide +kernel
theorem dX6_swap_20 : decode cX6_swap 20 = .ok (.if_icmp .ne 6, 3) := by decide +kernel
theorem dX6_swap_23 : decode cX6_swap 23 = .ok (.bipush (-2), 2) := by decide +kernel
theorem dX6_swap_25 : decode cX6_swap 25 = .ok (.ireturn, 1) := by decide +kernel
theorem dX6_swap_26 : decode cX6_swap 26 = .ok (.aload_n 0, 1) := by decide +kernel
theorem dX6_swap_27 : decode cX6_swap 27 = .ok (.getfield 7, 3) := by decide +kernel
theorem dX6_swap_30 : decode cX6_swap 30 = .ok (.bipush 31, 2) := by decide +kernel
theorem dX6_swap_32 : decode cX6_swap 32 = .ok (.iload_n 1, 1) := by decide +kernel
theorem dX6_swap_33 : decode cX6_swap 33 = .ok (.iadd, 1) := by decide +kernel
theorem dX6_swap_34 : decode cX6_swap 34 = .ok (.iaload, 1) := by decide +kernel
theorem dX6_swap_35 : decode cX6_swap 35 = .ok (.ifCond .gt 15, 3) := by decide +kernel
theorem dX6_swap_38 : decode cX6_swap 38 = .ok (.aload_n 0, 1) := by decide +kernel
theorem dX6_swap_39 : decode cX6_swap 39 = .ok (.getfield 7, 3) := by decide +kernel
theorem dX6_swap_42 : decode cX6_swap 42 = .ok (.bipush 31, 2) := by decide +kernel
theorem dX6_swap_44 : decode cX6_swap 44 = .ok (.iload_n 2, 1) := by decide +kernel
theorem dX6_swap_45 : decode cX6_swap 45 = .ok (.iadd, 1) := by decide +kernel
theorem dX6_swap_46 : decode cX6_swap 46 = .ok (.iaload, 1) := by decide +kernel
theorem dX6_swap_47 : decode cX6_swap 47 = .ok (.ifCond .le 6, 3) := by decide +kernel
theorem dX6_swap_50 : decode cX6_swap 50 = .ok (.bipush (-4), 2) := by decide +kernel
theorem dX6_swap_52 : decode cX6_swap 52 = .ok (.ireturn, 1) := by decide +kernel
theorem dX6_swap_53 : decode cX6_swap 53 = .ok (.aload_n 0, 1) := by decide +kernel
theorem dX6_swap_54 : decode cX6_swap 54 = .ok (.getfield 7, 3) := by decide +kernel
theorem dX6_swap_57 : decode cX6_swap 57 = .ok (.iconst 1, 1) := by decide +kernel
theorem dX6_swap_58 : decode cX6_swap 58 = .ok (.iaload, 1) := by decide +kernel
theorem dX6_swap_59 : decode cX6_swap 59 = .ok (.istore_n 3, 1) := by decide +kernel
theorem dX6_swap_60 : decode cX6_swap 60 = .ok (.aload_n 0, 1) := by decide +kernel
theorem dX6_swap_61 : decode cX6_swap 61 = .ok (.getfield 7, 3) := by decide +kernel
theorem dX6_swap_64 : decode cX6_swap 64 = .ok (.bipush 9, 2) := by decide +kernel
theorem dX6_swap_66 : decode cX6_swap 66 = .ok (.iload_n 3, 1) := by decide +kernel
theorem dX6_swap_67 : decode cX6_swap 67 = .ok (.iadd, 1) := by decide +kernel
theorem dX6_swap_68 : decode cX6_swap 68 = .ok (.iaload, 1) := by decide +kernel
theorem dX6_swap_69 : decode cX6_swap 69 = .ok (.aload_n 0, 1) := by decide +kernel
theorem dX6_swap_70 : decode cX6_swap 70 = .ok (.getfield 7, 3) := by decide +kernel
theorem dX6_swap_73 : decode cX6_swap 73 = .ok (.bipush 7, 2) := by decide +kernel
theorem dX6_swap_75 : decode cX6_swap 75 = .ok (.iaload, 1) := by decide +kernel
theorem dX6_swap_76 : decode cX6_swap 76 = .ok (.if_icmp .ge 6, 3) := by decide +kernel
theorem dX6_swap_79 : decode cX6_swap 79 = .ok (.bipush (-3), 2) := by decide +kernel
theorem dX6_swap_81 : decode cX6_swap 81 = .ok (.ireturn, 1) := by decide +kernel
theorem dX6_swap_82 : decode cX6_swap 82 = .ok (.aload_n 0, 1) := by decide +kernel
theorem dX6_swap_83 : decode cX6_swap 83 = .ok (.invokevirtual 78, 3) := by decide +kernel
theorem dX6_swap_86 : decode cX6_swap 86 = .ok (.aload_n 0, 1) := by decide +kernel
theorem dX6_swap_87 : decode cX6_swap 87 = .ok (.aload_n 0, 1) := by decide +kernel
theorem dX6_swap_88 : decode cX6_swap 88 = .ok (.getfield 7, 3) := by decide +kernel
theorem dX6_swap_91 : decode cX6_swap 91 = .ok (.bipush 7, 2) := by decide +kernel
theorem dX6_swap_93 : decode cX6_swap 93 = .ok (.iaload, 1) := by decide +kernel
theorem dX6_swap_94 : decode cX6_swap 94 = .ok (.invokevirtual 99, 3) := by decide +kernel
theorem dX6_swap_97 : decode cX6_swap 97 = .ok (.aload_n 0, 1) := by decide +kernel
theorem dX6_swap_98 : decode cX6_swap 98 = .ok (.invokevirtual 87, 3) := by decide +kernel
theorem dX6_swap_101 : decode cX6_swap 101 = .ok (.ifCond .ne 7, 3) := by decide +kernel
theorem dX6_swap_104 : decode cX6_swap 104 = .ok (.iconst 1, 1) := by decide +kernel
theorem dX6_swap_105 : decode cX6_swap 105 = .ok (.goto 4, 3) := by decide +kernel
theorem dX6_swap_108 : decode cX6_swap 108 = .ok (.iconst 0, 1) := by decide +kernel
theorem dX6_swap_109 : decode cX6_swap 109 = .ok (.istore 4, 2) := by decide +kernel
theorem dX6_swap_111 : decode cX6_swap 111 = .ok (.aload_n 0, 1) := by decide +kernel
theorem dX6_swap_112 : decode cX6_swap 112 = .ok (.iload_n 1, 1) := by decide +kernel
theorem dX6_swap_113 : decode cX6_swap 113 = .ok (.iload_n 2, 1) := by decide +kernel
theorem dX6_swap_114 : decode cX6_swap 114 = .ok (.invokevirtual 84, 3) := by decide +kernel
theorem dX6_swap_117 : decode cX6_swap 117 = .ok (.iconst 0, 1) := by decide +kernel
theorem dX6_swap_118 : decode cX6_swap 118 = .ok (.istore 5, 2) := by decide +kernel
theorem dX6_swap_120 : decode cX6_swap 120 = .ok (.iload 5, 2) := by decide +kernel
theorem dX6_swap_122 : decode cX6_swap 122 = .ok (.aload_n 0, 1) := by decide +kernel
theorem dX6_swap_123 : decode cX6_swap 123 = .ok (.invokevirtual 26, 3) := by decide +kernel
theorem dX6_swap_126 : decode cX6_swap 126 = .ok (.if_icmp .ge 40, 3) := by decide +kernel
theorem dX6_swap_129 : decode cX6_swap 129 = .ok (.aload_n 0, 1) := by decide +kernel
theorem dX6_swap_130 : decode cX6_swap 130 = .ok (.getfield 7, 3) := by decide +kernel
theorem dX6_swap_133 : decode cX6_swap 133 = .ok (.bipush 31, 2) := by decide +kernel
theorem dX6_swap_135 : decode cX6_swap 135 = .ok (.iload 5, 2) := by decide +kernel
theorem dX6_swap_137 : decode cX6_swap 137 = .ok (.iadd, 1) := by decide +kernel
theorem dX6_swap_138 : decode cX6_swap 138 = .ok (.dup2, 1) := by decide +kernel
theorem dX6_swap_139 : decode cX6_swap 139 = .ok (.iaload, 1) := by decide +kernel
theorem dX6_swap_140 : decode cX6_swap 140 = .ok (.aload_n 0, 1) := by decide +kernel
theorem dX6_swap_141 : decode cX6_swap 141 = .ok (.getfield 7, 3) := by decide +kernel
theorem dX6_swap_144 : decode cX6_swap 144 = .ok (.bipush 31, 2) := by decide +kernel
theorem dX6_swap_146 : decode cX6_swap 146 = .ok (.iload 5, 2) := by decide +kernel
theorem dX6_swap_148 : decode cX6_swap 148 = .ok (.iadd, 1) := by decide +kernel
theorem dX6_swap_149 : decode cX6_swap 149 = .ok (.iaload, 1) := by decide +kernel
theorem dX6_swap_150 : decode cX6_swap 150 = .ok (.ifCond .le 7, 3) := by decide +kernel
theorem dX6_swap_153 : decode cX6_swap 153 = .ok (.iconst 1, 1) := by decide +kernel
theorem dX6_swap_154 : decode cX6_swap 154 = .ok (.goto 4, 3) := by decide +kernel
theorem dX6_swap_157 : decode cX6_swap 157 = .ok (.iconst 0, 1) := by decide +kernel
theorem dX6_swap_158 : decode cX6_swap 158 = .ok (.isub, 1) := by decide +kernel
theorem dX6_swap_159 : decode cX6_swap 159 = .ok (.iastore, 1) := by decide +kernel
theorem dX6_swap_160 : decode cX6_swap 160 = .ok (.iinc 5 1, 3) := by decide +kernel
theorem dX6_swap_163 : decode cX6_swap 163 = .ok (.goto (-43), 3) := by decide +kernel
theorem dX6_swap_166 : decode cX6_swap 166 = .ok (.aload_n 0, 1) := by decide +kernel
theorem dX6_swap_167 : decode cX6_swap 167 = .ok (.getfield 7, 3) := by decide +kernel
theorem dX6_swap_170 : decode cX6_swap 170 = .ok (.iconst 3, 1) := by decide +kernel
theorem dX6_swap_171 : decode cX6_swap 171 = .ok (.dup2, 1) := by decide +kernel
theorem dX6_swap_172 : decode cX6_swap 172 = .ok (.iaload, 1) := by decide +kernel
theorem dX6_swap_173 : decode cX6_swap 173 = .ok (.iconst 1, 1) := by decide +kernel
theorem dX6_swap_174 : decode cX6_swap 174 = .ok (.iadd, 1) := by decide +kernel
theorem dX6_swap_175 : decode cX6_swap 175 = .ok (.iastore, 1) := by decide +kernel
theorem dX6_swap_176 : decode cX6_swap 176 = .ok (.aload_n 0, 1) := by decide +kernel
theorem dX6_swap_177 : decode cX6_swap 177 = .ok (.getfield 7, 3) := by decide +kernel
theorem dX6_swap_180 : decode cX6_swap 180 = .ok (.iconst 4, 1) := by decide +kernel
theorem dX6_swap_181 : decode cX6_swap 181 = .ok (.dup2, 1) := by decide +kernel
theorem dX6_swap_182 : decode cX6_swap 182 = .ok (.iaload, 1) := by decide +kernel
theorem dX6_swap_183 : decode cX6_swap 183 = .ok (.iconst 1, 1) := by decide +kernel
theorem dX6_swap_184 : decode cX6_swap 184 = .ok (.iadd, 1) := by decide +kernel
theorem dX6_swap_185 : decode cX6_swap 185 = .ok (.iastore, 1) := by decide +kernel
theorem dX6_swap_186 : decode cX6_swap 186 = .ok (.aload_n 0, 1) := by decide +kernel
theorem dX6_swap_187 : decode cX6_swap 187 = .ok (.getfield 7, 3) := by decide +kernel
theorem dX6_swap_190 : decode cX6_swap 190 = .ok (.iconst 3, 1) := by decide +kernel
theorem dX6_swap_191 : decode cX6_swap 191 = .ok (.iaload, 1) := by decide +kernel
theorem dX6_swap_192 : decode cX6_swap 192 = .ok (.aload_n 0, 1) := by decide +kernel
theorem dX6_swap_193 : decode cX6_swap 193 = .ok (.getfield 7, 3) := by decide +kernel
theorem dX6_swap_196 : decode cX6_swap 196 = .ok (.bipush 6, 2) := by decide +kernel
theorem dX6_swap_198 : decode cX6_swap 198 = .ok (.iaload, 1) := by decide +kernel
theorem dX6_swap_199 : decode cX6_swap 199 = .ok (.if_icmp .lt 14, 3) := by decide +kernel
theorem dX6_swap_202 : decode cX6_swap 202 = .ok (.aload_n 0, 1) := by decide +kernel
theorem dX6_swap_203 : decode cX6_swap 203 = .ok (.invokevirtual 102, 3) := by decide +kernel
theorem dX6_swap_206 : decode cX6_swap 206 = .ok (.aload_n 0, 1) := by decide +kernel
theorem dX6_swap_207 : decode cX6_swap 207 = .ok (.getfield 7, 3) := by decide +kernel
theorem dX6_swap_210 : decode cX6_swap 210 = .ok (.iconst 3, 1) := by decide +kernel
theorem dX6_swap_211 : decode cX6_swap 211 = .ok (.iconst 0, 1) := by decide +kernel
theorem dX6_swap_212 : decode cX6_swap 212 = .ok (.iastore, 1) := by decide +kernel
theorem dX6_swap_213 : decode cX6_swap 213 = .ok (.iload 4, 2) := by decide +kernel
theorem dX6_swap_215 : decode cX6_swap 215 = .ok (.ifCond .ne 41, 3) := by decide +kernel
theorem dX6_swap_218 : decode cX6_swap 218 = .ok (.aload_n 0, 1) := by decide +kernel
theorem dX6_swap_219 : decode cX6_swap 219 = .ok (.invokevirtual 87, 3) := by decide +kernel
theorem dX6_swap_222 : decode cX6_swap 222 = .ok (.ifCond .ne 34, 3) := by decide +kernel
theorem dX6_swap_225 : decode cX6_swap 225 = .ok (.aload_n 0, 1) := by decide +kernel
theorem dX6_swap_226 : decode cX6_swap 226 = .ok (.iload_n 3, 1) := by decide +kernel
theorem dX6_swap_227 : decode cX6_swap 227 = .ok (.aload_n 0, 1) := by decide +kernel
theorem dX6_swap_228 : decode cX6_swap 228 = .ok (.getfield 7, 3) := by decide +kernel
theorem dX6_swap_231 : decode cX6_swap 231 = .ok (.iconst 2, 1) := by decide +kernel
theorem dX6_swap_232 : decode cX6_swap 232 = .ok (.iaload, 1) := by decide +kernel
theorem dX6_swap_233 : decode cX6_swap 233 = .ok (.invokevirtual 71, 3) := by decide +kernel
theorem dX6_swap_236 : decode cX6_swap 236 = .ok (.aload_n 0, 1) := by decide +kernel
theorem dX6_swap_237 : decode cX6_swap 237 = .ok (.getfield 7, 3) := by decide +kernel
theorem dX6_swap_240 : decode cX6_swap 240 = .ok (.iconst 2, 1) := by decide +kernel
theorem dX6_swap_241 : decode cX6_swap 241 = .ok (.iconst 0, 1) := by decide +kernel
theorem dX6_swap_242 : decode cX6_swap 242 = .ok (.iastore, 1) := by decide +kernel
theorem dX6_swap_243 : decode cX6_swap 243 = .ok (.aload_n 0, 1) := by decide +kernel
theorem dX6_swap_244 : decode cX6_swap 244 = .ok (.getfield 7, 3) := by decide +kernel
theorem dX6_swap_247 : decode cX6_swap 247 = .ok (.bipush 12, 2) := by decide +kernel
theorem dX6_swap_249 : decode cX6_swap 249 = .ok (.iload_n 3, 1) := by decide +kernel
theorem dX6_swap_250 : decode cX6_swap 250 = .ok (.iadd, 1) := by decide +kernel
theorem dX6_swap_251 : decode cX6_swap 251 = .ok (.dup2, 1) := by decide +kernel
theorem dX6_swap_252 : decode cX6_swap 252 = .ok (.iaload, 1) := by decide +kernel
theorem dX6_swap_253 : decode cX6_swap 253 = .ok (.iconst 1, 1) := by decide +kernel
theorem dX6_swap_254 : decode cX6_swap 254 = .ok (.iadd, 1) := by decide +kernel
theorem dX6_swap_255 : decode cX6_swap 255 = .ok (.iastore, 1) := by decide +kernel
theorem dX6_swap_256 : decode cX6_swap 256 = .ok (.aload_n 0, 1) := by decide +kernel
theorem dX6_swap_257 : decode cX6_swap 257 = .ok (.invokevirtual 105, 3) := by decide +kernel
theorem dX6_swap_260 : decode cX6_swap 260 = .ok (.aload_n 0, 1) := by decide +kernel
theorem dX6_swap_261 : decode cX6_swap 261 = .ok (.invokevirtual 108, 3) := by decide +kernel
theorem dX6_swap_264 : decode cX6_swap 264 = .ok (.ireturn, 1) := by decide +kernel
theorem dX6_spend_0 : decode cX6_spend 0 = .ok (.aload_n 0, 1) := by decide +kernel
theorem dX6_spend_1 : decode cX6_spend 1 = .ok (.getfield 7, 3) := by decide +kernel
theorem dX6_spend_4 : decode cX6_spend 4 = .ok (.bipush 9, 2) := by decide +kernel
theorem dX6_spend_6 : decode cX6_spend 6 = .ok (.aload_n 0, 1) := by decide +kernel
theorem dX6_spend_7 : decode cX6_spend 7 = .ok (.getfield 7, 3) := by decide +kernel
theorem dX6_spend_10 : decode cX6_spend 10 = .ok (.iconst 1, 1) := by decide +kernel
theorem dX6_spend_11 : decode cX6_spend 11 = .ok (.iaload, 1) := by decide +kernel
theorem dX6_spend_12 : decode cX6_spend 12 = .ok (.iadd, 1) := by decide +kernel
theorem dX6_spend_13 : decode cX6_spend 13 = .ok (.dup2, 1) := by decide +kernel
theorem dX6_spend_14 : decode cX6_spend 14 = .ok (.iaload, 1) := by decide +kernel
theorem dX6_spend_15 : decode cX6_spend 15 = .ok (.iload_n 1, 1) := by decide +kernel
theorem dX6_spend_16 : decode cX6_spend 16 = .ok (.isub, 1) := by decide +kernel
theorem dX6_spend_17 : decode cX6_spend 17 = .ok (.iastore, 1) := by decide +kernel
theorem dX6_spend_18 : decode cX6_spend 18 = .ok (.aload_n 0, 1) := by decide +kernel
theorem dX6_spend_19 : decode cX6_spend 19 = .ok (.getfield 7, 3) := by decide +kernel
theorem dX6_spend_22 : decode cX6_spend 22 = .ok (.iconst 2, 1) := by decide +kernel
theorem dX6_spend_23 : decode cX6_spend 23 = .ok (.dup2, 1) := by decide +kernel
theorem dX6_spend_24 : decode cX6_spend 24 = .ok (.iaload, 1) := by decide +kernel
theorem dX6_spend_25 : decode cX6_spend 25 = .ok (.iload_n 1, 1) := by decide +kernel
theorem dX6_spend_26 : decode cX6_spend 26 = .ok (.iadd, 1) := by decide +kernel
theorem dX6_spend_27 : decode cX6_spend 27 = .ok (.iastore, 1) := by decide +kernel
theorem dX6_spend_28 : decode cX6_spend 28 = .ok (.return_, 1) := by decide +kernel
set_option maxRecDepth 20000 in
theorem ggX6_freeze_X6_isCell : GoodIn wsX6_freeze wsX6_isCell := goodIn_r _ [6, 7, 8, 9, 5, 10, 1, 11, 12, 13, 32, 33, 34, 35, 36, 37, 38] (by decide +kernel) (by decide +kernel)
set_option maxRecDepth 20000 in
theorem gX6_freeze_X6_isCell : GoodIn wsX6_freeze (wsV RX6 96 RX6 yX6_isCell wsX6_isCell) := goodIn_app (goodIn_of _ (by decide +kernel)) ggX6_freeze_X6_isCell
set_option maxRecDepth 20000 in
theorem ggX6_freeze_X6_in : GoodIn wsX6_freeze wsX6_in := goodIn_r _ [13] (by decide +kernel) (by decide +kernel)
set_option maxRecDepth 20000 in
theorem gX6_freeze_X6_in : GoodIn wsX6_freeze (va_wsS RX6 30 yX6_in wsX6_in) := goodIn_app (goodIn_of _ (by decide +kernel)) ggX6_freeze_X6_in
set_option maxRecDepth 20000 in
theorem ggX6_freeze_X6_know : GoodIn wsX6_freeze wsX6_know := goodIn_r _ [17, 18, 19, 1, 32, 33, 34, 35, 36, 37, 38] (by decide +kernel) (by decide +kernel)
set_option maxRecDepth 20000 in
theorem gX6_freeze_X6_know : GoodIn wsX6_freeze (wsV RX6 78 RX6 yX6_know wsX6_know) := goodIn_app (goodIn_of _ (by decide +kernel)) ggX6_freeze_X6_know
set_option maxRecDepth 20000 in
theorem ggX6_freeze_X6_spend : GoodIn wsX6_freeze wsX6_spend := goodIn_r _ [23, 1, 32, 33, 34, 35, 36, 37, 38] (by decide +kernel) (by decide +kernel)
set_option maxRecDepth 20000 in
theorem gX6_freeze_X6_spend : GoodIn wsX6_freeze (wsV RX6 99 RX6 yX6_spend wsX6_spend) := goodIn_app (goodIn_of _ (by decide +kernel)) ggX6_freeze_X6_spend
set_option maxRecDepth 20000 in
theorem ggX6_freeze_X6_nextTurn : GoodIn wsX6_freeze wsX6_nextTurn := goodIn_r _ [27, 1, 32, 33, 34, 35, 36, 37, 38] (by decide +kernel) (by decide +kernel)
set_option maxRecDepth 20000 in
theorem gX6_freeze_X6_nextTurn : GoodIn wsX6_freeze (wsV RX6 105 RX6 yX6_nextTurn wsX6_nextTurn) := goodIn_app (goodIn_of _ (by decide +kernel)) ggX6_freeze_X6_nextTurn
set_option maxRecDepth 20000 in
theorem ggX6_freeze_X6_frozen : GoodIn wsX6_freeze wsX6_frozen := goodIn_r _ [31, 1, 7, 8, 9, 5, 10, 32, 33, 34, 35, 36, 37, 38] (by decide +kernel) (by decide +kernel)
set_option maxRecDepth 20000 in
theorem gX6_freeze_X6_frozen : GoodIn wsX6_freeze (wsV RX6 111 RX6 yX6_frozen wsX6_frozen) := goodIn_app (goodIn_of _ (by decide +kernel)) ggX6_freeze_X6_frozen
theorem dX6_freeze_0 : decode cX6_freeze 0 = .ok (.aload_n 0, 1) := by decide +kernel
theorem dX6_freeze_1 : decode cX6_freeze 1 = .ok (.iload_n 1, 1) := by decide +kernel
theorem dX6_freeze_2 : decode cX6_freeze 2 = .ok (.invokevirtual 96, 3) := by decide +kernel
theorem dX6_freeze_5 : decode cX6_freeze 5 = .ok (.ifCond .ne 5, 3) := by decide +kernel
theorem dX6_freeze_8 : decode cX6_freeze 8 = .ok (.iconst (-1), 1) := by decide +kernel
theorem dX6_freeze_9 : decode cX6_freeze 9 = .ok (.ireturn, 1) := by decide +kernel
theorem dX6_freeze_10 : decode cX6_freeze 10 = .ok (.iload_n 2, 1) := by decide +kernel
theorem dX6_freeze_11 : decode cX6_freeze 11 = .ok (.iconst 1, 1) := by decide +kernel
theorem dX6_freeze_12 : decode cX6_freeze 12 = .ok (.bipush 6, 2) := by decide +kernel
theorem dX6_freeze_14 : decode cX6_freeze 14 = .ok (.invokestatic 30, 3) := by decide +kernel
theorem dX6_freeze_17 : decode cX6_freeze 17 = .ok (.ifCond .ne 6, 3) := by decide +kernel
theorem dX6_freeze_20 : decode cX6_freeze 20 = .ok (.bipush (-2), 2) := by decide +kernel
theorem dX6_freeze_22 : decode cX6_freeze 22 = .ok (.ireturn, 1) := by decide +kernel
theorem dX6_freeze_23 : decode cX6_freeze 23 = .ok (.aload_n 0, 1) := by decide +kernel
theorem dX6_freeze_24 : decode cX6_freeze 24 = .ok (.getfield 7, 3) := by decide +kernel
theorem dX6_freeze_27 : decode cX6_freeze 27 = .ok (.bipush 31, 2) := by decide +kernel
theorem dX6_freeze_29 : decode cX6_freeze 29 = .ok (.iload_n 1, 1) := by decide +kernel
theorem dX6_freeze_30 : decode cX6_freeze 30 = .ok (.iadd, 1) := by decide +kernel
theorem dX6_freeze_31 : decode cX6_freeze 31 = .ok (.iaload, 1) := by decide +kernel
theorem dX6_freeze_32 : decode cX6_freeze 32 = .ok (.ifCond .le 6, 3) := by decide +kernel
theorem dX6_freeze_35 : decode cX6_freeze 35 = .ok (.bipush (-4), 2) := by decide +kernel
theorem dX6_freeze_37 : decode cX6_freeze 37 = .ok (.ireturn, 1) := by decide +kernel
theorem dX6_freeze_38 : decode cX6_freeze 38 = .ok (.iload_n 2, 1) := by decide +kernel
theorem dX6_freeze_39 : decode cX6_freeze 39 = .ok (.aload_n 0, 1) := by decide +kernel
theorem dX6_freeze_40 : decode cX6_freeze 40 = .ok (.getfield 7, 3) := by decide +kernel
theorem dX6_freeze_43 : decode cX6_freeze 43 = .ok (.bipush 8, 2) := by decide +kernel
theorem dX6_freeze_45 : decode cX6_freeze 45 = .ok (.iaload, 1) := by decide +kernel
theorem dX6_freeze_46 : decode cX6_freeze 46 = .ok (.imul, 1) := by decide +kernel
theorem dX6_freeze_47 : decode cX6_freeze 47 = .ok (.istore_n 3, 1) := by decide +kernel
theorem dX6_freeze_48 : decode cX6_freeze 48 = .ok (.aload_n 0, 1) := by decide +kernel
theorem dX6_freeze_49 : decode cX6_freeze 49 = .ok (.getfield 7, 3) := by decide +kernel
theorem dX6_freeze_52 : decode cX6_freeze 52 = .ok (.bipush 9, 2) := by decide +kernel
theorem dX6_freeze_54 : decode cX6_freeze 54 = .ok (.aload_n 0, 1) := by decide +kernel
theorem dX6_freeze_55 : decode cX6_freeze 55 = .ok (.getfield 7, 3) := by decide +kernel
theorem dX6_freeze_58 : decode cX6_freeze 58 = .ok (.iconst 1, 1) := by decide +kernel
theorem dX6_freeze_59 : decode cX6_freeze 59 = .ok (.iaload, 1) := by decide +kernel
theorem dX6_freeze_60 : decode cX6_freeze 60 = .ok (.iadd, 1) := by decide +kernel
theorem dX6_freeze_61 : decode cX6_freeze 61 = .ok (.iaload, 1) := by decide +kernel
theorem dX6_freeze_62 : decode cX6_freeze 62 = .ok (.iload_n 3, 1) := by decide +kernel
theorem dX6_freeze_63 : decode cX6_freeze 63 = .ok (.if_icmp .ge 6, 3) := by decide +kernel
theorem dX6_freeze_66 : decode cX6_freeze 66 = .ok (.bipush (-3), 2) := by decide +kernel
theorem dX6_freeze_68 : decode cX6_freeze 68 = .ok (.ireturn, 1) := by decide +kernel
theorem dX6_freeze_69 : decode cX6_freeze 69 = .ok (.aload_n 0, 1) := by decide +kernel
theorem dX6_freeze_70 : decode cX6_freeze 70 = .ok (.invokevirtual 78, 3) := by decide +kernel
theorem dX6_freeze_73 : decode cX6_freeze 73 = .ok (.aload_n 0, 1) := by decide +kernel
theorem dX6_freeze_74 : decode cX6_freeze 74 = .ok (.iload_n 3, 1) := by decide +kernel
theorem dX6_freeze_75 : decode cX6_freeze 75 = .ok (.invokevirtual 99, 3) := by decide +kernel
theorem dX6_freeze_78 : decode cX6_freeze 78 = .ok (.aload_n 0, 1) := by decide +kernel
theorem dX6_freeze_79 : decode cX6_freeze 79 = .ok (.getfield 7, 3) := by decide +kernel
theorem dX6_freeze_82 : decode cX6_freeze 82 = .ok (.bipush 31, 2) := by decide +kernel
theorem dX6_freeze_84 : decode cX6_freeze 84 = .ok (.iload_n 1, 1) := by decide +kernel
theorem dX6_freeze_85 : decode cX6_freeze 85 = .ok (.iadd, 1) := by decide +kernel
theorem dX6_freeze_86 : decode cX6_freeze 86 = .ok (.iload_n 2, 1) := by decide +kernel
theorem dX6_freeze_87 : decode cX6_freeze 87 = .ok (.iastore, 1) := by decide +kernel
theorem dX6_freeze_88 : decode cX6_freeze 88 = .ok (.aload_n 0, 1) := by decide +kernel
theorem dX6_freeze_89 : decode cX6_freeze 89 = .ok (.invokevirtual 105, 3) := by decide +kernel
theorem dX6_freeze_92 : decode cX6_freeze 92 = .ok (.aload_n 0, 1) := by decide +kernel
theorem dX6_freeze_93 : decode cX6_freeze 93 = .ok (.invokevirtual 111, 3) := by decide +kernel
theorem dX6_freeze_96 : decode cX6_freeze 96 = .ok (.ireturn, 1) := by decide +kernel
set_option maxRecDepth 20000 in
theorem ggX6_stake_X6_isLine : GoodIn wsX6_stake wsX6_isLine := goodIn_r _ [6, 7, 8, 9, 5, 10, 1, 11, 12, 13, 47, 48, 49, 50, 51, 52, 53] (by decide +kernel) (by decide +kernel)
set_option maxRecDepth 20000 in
theorem gX6_stake_X6_isLine : GoodIn wsX6_stake (wsV RX6 114 RX6 yX6_isLine wsX6_isLine) := goodIn_app (goodIn_of _ (by decide +kernel)) ggX6_stake_X6_isLine
set_option maxRecDepth 20000 in
theorem ggX6_stake_X6_in : GoodIn wsX6_stake wsX6_in := goodIn_r _ [13] (by decide +kernel) (by decide +kernel)
set_option maxRecDepth 20000 in
theorem gX6_stake_X6_in : GoodIn wsX6_stake (va_wsS RX6 30 yX6_in wsX6_in) := goodIn_app (goodIn_of _ (by decide +kernel)) ggX6_stake_X6_in
set_option maxRecDepth 20000 in
theorem ggX6_stake_X6_know : GoodIn wsX6_stake wsX6_know := goodIn_r _ [17, 18, 19, 1, 47, 48, 49, 50, 51, 52, 53] (by decide +kernel) (by decide +kernel)
set_option maxRecDepth 20000 in
theorem gX6_stake_X6_know : GoodIn wsX6_stake (wsV RX6 78 RX6 yX6_know wsX6_know) := goodIn_app (goodIn_of _ (by decide +kernel)) ggX6_stake_X6_know
set_option maxRecDepth 20000 in
theorem ggX6_stake_X6_of : GoodIn wsX6_stake wsX6_of := goodIn_r _ [22] (by decide +kernel) (by decide +kernel)
set_option maxRecDepth 20000 in
theorem gX6_stake_X6_of : GoodIn wsX6_stake (va_wsS RX6 55 yX6_of wsX6_of) := goodIn_app (goodIn_of _ (by decide +kernel)) ggX6_stake_X6_of
set_option maxRecDepth 20000 in
theorem ggX6_stake_X6_sum : GoodIn wsX6_stake wsX6_sum := goodIn_r _ [26, 1, 27, 28, 29, 5, 30, 31, 32, 33, 34, 47, 48, 49, 50, 51, 52, 53] (by decide +kernel) (by decide +kernel)
set_option maxRecDepth 20000 in
theorem gX6_stake_X6_sum : GoodIn wsX6_stake (wsV RX6 45 RX6 yX6_sum wsX6_sum) := goodIn_app (goodIn_of _ (by decide +kernel)) ggX6_stake_X6_sum
set_option maxRecDepth 20000 in
theorem ggX6_stake_X6_off : GoodIn wsX6_stake wsX6_off := goodIn_r _ [38, 23, 24, 25, 5, 26, 1, 27, 28, 29, 30, 31, 32, 33, 34, 39, 40, 41, 42, 47, 48, 49, 50, 51, 52, 53] (by decide +kernel) (by decide +kernel)
set_option maxRecDepth 20000 in
theorem gX6_stake_X6_off : GoodIn wsX6_stake (wsV RX6 52 RX6 yX6_off wsX6_off) := goodIn_app (goodIn_of _ (by decide +kernel)) ggX6_stake_X6_off
set_option maxRecDepth 20000 in
theorem ggX6_stake_X6_magicLines : GoodIn wsX6_stake wsX6_magicLines := goodIn_r _ [46, 7, 8, 9, 5, 10, 1, 35, 36, 37, 38, 23, 24, 25, 26, 27, 28, 29, 30, 31, 32, 33, 34, 39, 40, 41, 42, 47, 48, 49, 50, 51, 52, 53] (by decide +kernel) (by decide +kernel)
set_option maxRecDepth 20000 in
theorem gX6_stake_X6_magicLines : GoodIn wsX6_stake (wsV RX6 108 RX6 yX6_magicLines wsX6_magicLines) := goodIn_app (goodIn_of _ (by decide +kernel)) ggX6_stake_X6_magicLines
set_option maxRecDepth 20000 in
theorem ggX6_stake_X6_lines : GoodIn wsX6_stake wsX6_lines := goodIn_r _ [10, 1, 47, 48, 49, 50, 51, 52, 53] (by decide +kernel) (by decide +kernel)
set_option maxRecDepth 20000 in
theorem gX6_stake_X6_lines : GoodIn wsX6_stake (wsV RX6 34 RX6 yX6_lines wsX6_lines) := goodIn_app (goodIn_of _ (by decide +kernel)) ggX6_stake_X6_lines
theorem dX6_stake_0 : decode cX6_stake 0 = .ok (.aload_n 0, 1) := by decide +kernel
theorem dX6_stake_1 : decode cX6_stake 1 = .ok (.iload_n 1, 1) := by decide +kernel
theorem dX6_stake_2 : decode cX6_stake 2 = .ok (.invokevirtual 114, 3) := by decide +kernel
theorem dX6_stake_5 : decode cX6_stake 5 = .ok (.ifCond .ne 5, 3) := by decide +kernel
theorem dX6_stake_8 : decode cX6_stake 8 = .ok (.iconst (-1), 1) := by decide +kernel
theorem dX6_stake_9 : decode cX6_stake 9 = .ok (.ireturn, 1) := by decide +kernel
theorem dX6_stake_10 : decode cX6_stake 10 = .ok (.iload_n 2, 1) := by decide +kernel
theorem dX6_stake_11 : decode cX6_stake 11 = .ok (.iconst 0, 1) := by decide +kernel
theorem dX6_stake_12 : decode cX6_stake 12 = .ok (.iconst 2, 1) := by decide +kernel
theorem dX6_stake_13 : decode cX6_stake 13 = .ok (.invokestatic 30, 3) := by decide +kernel
theorem dX6_stake_16 : decode cX6_stake 16 = .ok (.ifCond .eq 13, 3) := by decide +kernel
theorem dX6_stake_19 : decode cX6_stake 19 = .ok (.iload_n 3, 1) := by decide +kernel
theorem dX6_stake_20 : decode cX6_stake 20 = .ok (.iconst 1, 1) := by decide +kernel
theorem dX6_stake_21 : decode cX6_stake 21 = .ok (.bipush 99, 2) := by decide +kernel
theorem dX6_stake_23 : decode cX6_stake 23 = .ok (.invokestatic 30, 3) := by decide +kernel
theorem dX6_stake_26 : decode cX6_stake 26 = .ok (.ifCond .ne 6, 3) := by decide +kernel
theorem dX6_stake_29 : decode cX6_stake 29 = .ok (.bipush (-2), 2) := by decide +kernel
theorem dX6_stake_31 : decode cX6_stake 31 = .ok (.ireturn, 1) := by decide +kernel
theorem dX6_stake_32 : decode cX6_stake 32 = .ok (.aload_n 0, 1) := by decide +kernel
theorem dX6_stake_33 : decode cX6_stake 33 = .ok (.getfield 7, 3) := by decide +kernel
theorem dX6_stake_36 : decode cX6_stake 36 = .ok (.iconst 5, 1) := by decide +kernel
theorem dX6_stake_37 : decode cX6_stake 37 = .ok (.iaload, 1) := by decide +kernel
theorem dX6_stake_38 : decode cX6_stake 38 = .ok (.istore 4, 2) := by decide +kernel
theorem dX6_stake_40 : decode cX6_stake 40 = .ok (.iload 4, 2) := by decide +kernel
theorem dX6_stake_42 : decode cX6_stake 42 = .ok (.bipush 10, 2) := by decide +kernel
theorem dX6_stake_44 : decode cX6_stake 44 = .ok (.if_icmp .eq 21, 3) := by decide +kernel
theorem dX6_stake_47 : decode cX6_stake 47 = .ok (.aload_n 0, 1) := by decide +kernel
theorem dX6_stake_48 : decode cX6_stake 48 = .ok (.getfield 7, 3) := by decide +kernel
theorem dX6_stake_51 : decode cX6_stake 51 = .ok (.bipush 9, 2) := by decide +kernel
theorem dX6_stake_53 : decode cX6_stake 53 = .ok (.aload_n 0, 1) := by decide +kernel
theorem dX6_stake_54 : decode cX6_stake 54 = .ok (.getfield 7, 3) := by decide +kernel
theorem dX6_stake_57 : decode cX6_stake 57 = .ok (.iconst 1, 1) := by decide +kernel
theorem dX6_stake_58 : decode cX6_stake 58 = .ok (.iaload, 1) := by decide +kernel
theorem dX6_stake_59 : decode cX6_stake 59 = .ok (.iadd, 1) := by decide +kernel
theorem dX6_stake_60 : decode cX6_stake 60 = .ok (.iaload, 1) := by decide +kernel
theorem dX6_stake_61 : decode cX6_stake 61 = .ok (.iload_n 3, 1) := by decide +kernel
theorem dX6_stake_62 : decode cX6_stake 62 = .ok (.if_icmp .ge 6, 3) := by decide +kernel
theorem dX6_stake_65 : decode cX6_stake 65 = .ok (.bipush (-3), 2) := by decide +kernel
theorem dX6_stake_67 : decode cX6_stake 67 = .ok (.ireturn, 1) := by decide +kernel
theorem dX6_stake_68 : decode cX6_stake 68 = .ok (.aload_n 0, 1) := by decide +kernel
theorem dX6_stake_69 : decode cX6_stake 69 = .ok (.invokevirtual 78, 3) := by decide +kernel
