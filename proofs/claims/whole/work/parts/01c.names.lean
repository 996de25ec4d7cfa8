theorem dX1_wayOff_14 : decode cX1_wayOff 14 = .ok (.iload_n 2, 1) := by decide +kernel
theorem dX1_wayOff_15 : decode cX1_wayOff 15 = .ok (.invokevirtual 78, 3) := by decide +kernel
theorem dX1_wayOff_18 : decode cX1_wayOff 18 = .ok (.iadd, 1) := by decide +kernel
theorem dX1_wayOff_19 : decode cX1_wayOff 19 = .ok (.istore_n 1, 1) := by decide +kernel
theorem dX1_wayOff_20 : decode cX1_wayOff 20 = .ok (.iinc 2 1, 3) := by decide +kernel
theorem dX1_wayOff_23 : decode cX1_wayOff 23 = .ok (.goto (-19), 3) := by decide +kernel
theorem dX1_wayOff_26 : decode cX1_wayOff 26 = .ok (.iload_n 1, 1) := by decide +kernel
theorem dX1_wayOff_27 : decode cX1_wayOff 27 = .ok (.ireturn, 1) := by decide +kernel
set_option maxRecDepth 20000 in
theorem ggX1_wayOffBehind_X1_exchange : GoodIn wsX1_wayOffBehind wsX1_exchange := goodIn_r _ [5, 6, 40, 41, 42] (by decide +kernel) (by decide +kernel)
set_option maxRecDepth 20000 in
theorem gX1_wayOffBehind_X1_exchange : GoodIn wsX1_wayOffBehind (wsV RX1 35 RX1 yX1_exchange wsX1_exchange) := goodIn_app (goodIn_of _ (by decide +kernel)) ggX1_wayOffBehind_X1_exchange
set_option maxRecDepth 20000 in
theorem ggX1_wayOffBehind_X1_wayOff : GoodIn wsX1_wayOffBehind wsX1_wayOff := goodIn_r _ [10, 11, 12, 13, 4, 14, 15, 16, 17, 18, 19, 20, 21, 22, 23, 24, 25, 26, 27, 28, 29, 30, 31, 32, 33, 34, 35, 6, 36, 37, 38, 39, 40, 41, 42] (by decide +kernel) (by decide +kernel)
set_option maxRecDepth 20000 in
theorem gX1_wayOffBehind_X1_wayOff : GoodIn wsX1_wayOffBehind (wsV RX1 81 RX1 yX1_wayOff wsX1_wayOff) := goodIn_app (goodIn_of _ (by decide +kernel)) ggX1_wayOffBehind_X1_wayOff
theorem dX1_wayOffBehind_0 : decode cX1_wayOffBehind 0 = .ok (.aload_n 0, 1) := by decide +kernel
theorem dX1_wayOffBehind_1 : decode cX1_wayOffBehind 1 = .ok (.iload_n 1, 1) := by decide +kernel
theorem dX1_wayOffBehind_2 : decode cX1_wayOffBehind 2 = .ok (.iload_n 2, 1) := by decide +kernel
theorem dX1_wayOffBehind_3 : decode cX1_wayOffBehind 3 = .ok (.invokevirtual 35, 3) := by decide +kernel
theorem dX1_wayOffBehind_6 : decode cX1_wayOffBehind 6 = .ok (.aload_n 0, 1) := by decide +kernel
theorem dX1_wayOffBehind_7 : decode cX1_wayOffBehind 7 = .ok (.invokevirtual 81, 3) := by decide +kernel
theorem dX1_wayOffBehind_10 : decode cX1_wayOffBehind 10 = .ok (.istore_n 3, 1) := by decide +kernel
theorem dX1_wayOffBehind_11 : decode cX1_wayOffBehind 11 = .ok (.aload_n 0, 1) := by decide +kernel
theorem dX1_wayOffBehind_12 : decode cX1_wayOffBehind 12 = .ok (.iload_n 1, 1) := by decide +kernel
theorem dX1_wayOffBehind_13 : decode cX1_wayOffBehind 13 = .ok (.iload_n 2, 1) := by decide +kernel
theorem dX1_wayOffBehind_14 : decode cX1_wayOffBehind 14 = .ok (.invokevirtual 35, 3) := by decide +kernel
theorem dX1_wayOffBehind_17 : decode cX1_wayOffBehind 17 = .ok (.iload_n 3, 1) := by decide +kernel
theorem dX1_wayOffBehind_18 : decode cX1_wayOffBehind 18 = .ok (.ireturn, 1) := by decide +kernel
set_option maxRecDepth 20000 in
theorem ggX1_bestSwap_X1_cells : GoodIn wsX1_bestSwap wsX1_cells := goodIn_r _ [5, 6, 57, 58, 59] (by decide +kernel) (by decide +kernel)
set_option maxRecDepth 20000 in
theorem gX1_bestSwap_X1_cells : GoodIn wsX1_bestSwap (wsV RX1 28 RX1 yX1_cells wsX1_cells) := goodIn_app (goodIn_of _ (by decide +kernel)) ggX1_bestSwap_X1_cells
set_option maxRecDepth 20000 in
theorem ggX1_bestSwap_X1_isFrozen : GoodIn wsX1_bestSwap wsX1_isFrozen := goodIn_r _ [10, 11, 12, 13, 4, 14, 15, 57, 58, 59] (by decide +kernel) (by decide +kernel)
set_option maxRecDepth 20000 in
theorem gX1_bestSwap_X1_isFrozen : GoodIn wsX1_bestSwap (wsV RX1 84 RX1 yX1_isFrozen wsX1_isFrozen) := goodIn_app (goodIn_of _ (by decide +kernel)) ggX1_bestSwap_X1_isFrozen
set_option maxRecDepth 20000 in
theorem ggX1_bestSwap_X1_wayOffBehind : GoodIn wsX1_bestSwap wsX1_wayOffBehind := goodIn_r _ [19, 20, 21, 22, 4, 23, 24, 25, 26, 27, 28, 29, 30, 31, 32, 6, 33, 34, 35, 36, 37, 38, 39, 40, 41, 42, 43, 44, 45, 46, 47, 48, 49, 50, 51, 52, 53, 54, 55, 56, 57, 58, 59] (by decide +kernel) (by decide +kernel)
set_option maxRecDepth 20000 in
theorem gX1_bestSwap_X1_wayOffBehind : GoodIn wsX1_bestSwap (wsV RX1 87 RX1 yX1_wayOffBehind wsX1_wayOffBehind) := goodIn_app (goodIn_of _ (by decide +kernel)) ggX1_bestSwap_X1_wayOffBehind
theorem dX1_bestSwap_0 : decode cX1_bestSwap 0 = .ok (.bipush (-5), 2) := by decide +kernel
theorem dX1_bestSwap_2 : decode cX1_bestSwap 2 = .ok (.istore_n 1, 1) := by decide +kernel
theorem dX1_bestSwap_3 : decode cX1_bestSwap 3 = .ok (.iconst 0, 1) := by decide +kernel
theorem dX1_bestSwap_4 : decode cX1_bestSwap 4 = .ok (.istore_n 2, 1) := by decide +kernel
theorem dX1_bestSwap_5 : decode cX1_bestSwap 5 = .ok (.iconst 0, 1) := by decide +kernel
theorem dX1_bestSwap_6 : decode cX1_bestSwap 6 = .ok (.istore_n 3, 1) := by decide +kernel
theorem dX1_bestSwap_7 : decode cX1_bestSwap 7 = .ok (.iload_n 3, 1) := by decide +kernel
theorem dX1_bestSwap_8 : decode cX1_bestSwap 8 = .ok (.aload_n 0, 1) := by decide +kernel
theorem dX1_bestSwap_9 : decode cX1_bestSwap 9 = .ok (.invokevirtual 28, 3) := by decide +kernel
theorem dX1_bestSwap_12 : decode cX1_bestSwap 12 = .ok (.if_icmp .ge 81, 3) := by decide +kernel
theorem dX1_bestSwap_15 : decode cX1_bestSwap 15 = .ok (.iload_n 3, 1) := by decide +kernel
theorem dX1_bestSwap_16 : decode cX1_bestSwap 16 = .ok (.iconst 1, 1) := by decide +kernel
theorem dX1_bestSwap_17 : decode cX1_bestSwap 17 = .ok (.iadd, 1) := by decide +kernel
theorem dX1_bestSwap_18 : decode cX1_bestSwap 18 = .ok (.istore 4, 2) := by decide +kernel
theorem dX1_bestSwap_20 : decode cX1_bestSwap 20 = .ok (.iload 4, 2) := by decide +kernel
theorem dX1_bestSwap_22 : decode cX1_bestSwap 22 = .ok (.aload_n 0, 1) := by decide +kernel
theorem dX1_bestSwap_23 : decode cX1_bestSwap 23 = .ok (.invokevirtual 28, 3) := by decide +kernel
theorem dX1_bestSwap_26 : decode cX1_bestSwap 26 = .ok (.if_icmp .ge 61, 3) := by decide +kernel
theorem dX1_bestSwap_29 : decode cX1_bestSwap 29 = .ok (.aload_n 0, 1) := by decide +kernel
theorem dX1_bestSwap_30 : decode cX1_bestSwap 30 = .ok (.iload_n 3, 1) := by decide +kernel
theorem dX1_bestSwap_31 : decode cX1_bestSwap 31 = .ok (.invokevirtual 84, 3) := by decide +kernel
theorem dX1_bestSwap_34 : decode cX1_bestSwap 34 = .ok (.ifCond .ne 47, 3) := by decide +kernel
theorem dX1_bestSwap_37 : decode cX1_bestSwap 37 = .ok (.aload_n 0, 1) := by decide +kernel
theorem dX1_bestSwap_38 : decode cX1_bestSwap 38 = .ok (.iload 4, 2) := by decide +kernel
theorem dX1_bestSwap_40 : decode cX1_bestSwap 40 = .ok (.invokevirtual 84, 3) := by decide +kernel
theorem dX1_bestSwap_43 : decode cX1_bestSwap 43 = .ok (.ifCond .eq 6, 3) := by decide +kernel
theorem dX1_bestSwap_46 : decode cX1_bestSwap 46 = .ok (.goto 35, 3) := by decide +kernel
theorem dX1_bestSwap_49 : decode cX1_bestSwap 49 = .ok (.aload_n 0, 1) := by decide +kernel
theorem dX1_bestSwap_50 : decode cX1_bestSwap 50 = .ok (.iload_n 3, 1) := by decide +kernel
theorem dX1_bestSwap_51 : decode cX1_bestSwap 51 = .ok (.iload 4, 2) := by decide +kernel
theorem dX1_bestSwap_53 : decode cX1_bestSwap 53 = .ok (.invokevirtual 87, 3) := by decide +kernel
theorem dX1_bestSwap_56 : decode cX1_bestSwap 56 = .ok (.istore 5, 2) := by decide +kernel
theorem dX1_bestSwap_58 : decode cX1_bestSwap 58 = .ok (.iload_n 1, 1) := by decide +kernel
theorem dX1_bestSwap_59 : decode cX1_bestSwap 59 = .ok (.bipush (-5), 2) := by decide +kernel
theorem dX1_bestSwap_61 : decode cX1_bestSwap 61 = .ok (.if_icmp .eq 9, 3) := by decide +kernel
theorem dX1_bestSwap_64 : decode cX1_bestSwap 64 = .ok (.iload 5, 2) := by decide +kernel
theorem dX1_bestSwap_66 : decode cX1_bestSwap 66 = .ok (.iload_n 2, 1) := by decide +kernel
theorem dX1_bestSwap_67 : decode cX1_bestSwap 67 = .ok (.if_icmp .ge 14, 3) := by decide +kernel
theorem dX1_bestSwap_70 : decode cX1_bestSwap 70 = .ok (.bipush 100, 2) := by decide +kernel
theorem dX1_bestSwap_72 : decode cX1_bestSwap 72 = .ok (.iload_n 3, 1) := by decide +kernel
theorem dX1_bestSwap_73 : decode cX1_bestSwap 73 = .ok (.imul, 1) := by decide +kernel
theorem dX1_bestSwap_74 : decode cX1_bestSwap 74 = .ok (.iload 4, 2) := by decide +kernel
theorem dX1_bestSwap_76 : decode cX1_bestSwap 76 = .ok (.iadd, 1) := by decide +kernel
theorem dX1_bestSwap_77 : decode cX1_bestSwap 77 = .ok (.istore_n 1, 1) := by decide +kernel
theorem dX1_bestSwap_78 : decode cX1_bestSwap 78 = .ok (.iload 5, 2) := by decide +kernel
theorem dX1_bestSwap_80 : decode cX1_bestSwap 80 = .ok (.istore_n 2, 1) := by decide +kernel
theorem dX1_bestSwap_81 : decode cX1_bestSwap 81 = .ok (.iinc 4 1, 3) := by decide +kernel
theorem dX1_bestSwap_84 : decode cX1_bestSwap 84 = .ok (.goto (-64), 3) := by decide +kernel
theorem dX1_bestSwap_87 : decode cX1_bestSwap 87 = .ok (.iinc 3 1, 3) := by decide +kernel
theorem dX1_bestSwap_90 : decode cX1_bestSwap 90 = .ok (.goto (-83), 3) := by decide +kernel
theorem dX1_bestSwap_93 : decode cX1_bestSwap 93 = .ok (.iload_n 1, 1) := by decide +kernel
theorem dX1_bestSwap_94 : decode cX1_bestSwap 94 = .ok (.ireturn, 1) := by decide +kernel
set_option maxRecDepth 20000 in
theorem ggX2_init_X1_init : GoodIn wsX2_init wsX1_init := goodIn_r _ [22, 23, 2, 3, 24, 12, 25, 26, 35, 36, 37] (by decide +kernel) (by decide +kernel)
set_option maxRecDepth 20000 in
theorem gX2_init_X1_init : GoodIn wsX2_init (wsX1_init) := ggX2_init_X1_init
set_option maxRecDepth 20000 in
theorem ggX2_init_X3_init : GoodIn wsX2_init wsX3_init := goodIn_r _ [29, 30, 2, 3, 31, 12, 32, 33, 34, 47, 48, 49] (by decide +kernel) (by decide +kernel)
set_option maxRecDepth 20000 in
theorem gX2_init_X3_init : GoodIn wsX2_init (wsX3_init) := ggX2_init_X3_init
theorem dX2_init_0 : decode cX2_init 0 = .ok (.aload_n 0, 1) := by decide +kernel
theorem dX2_init_1 : decode cX2_init 1 = .ok (.invokespecial 1, 3) := by decide +kernel
theorem dX2_init_4 : decode cX2_init 4 = .ok (.aload_n 0, 1) := by decide +kernel
theorem dX2_init_5 : decode cX2_init 5 = .ok (.new 7, 3) := by decide +kernel
theorem dX2_init_8 : decode cX2_init 8 = .ok (.dup, 1) := by decide +kernel
theorem dX2_init_9 : decode cX2_init 9 = .ok (.invokespecial 9, 3) := by decide +kernel
theorem dX2_init_12 : decode cX2_init 12 = .ok (.putfield 10, 3) := by decide +kernel
theorem dX2_init_15 : decode cX2_init 15 = .ok (.aload_n 0, 1) := by decide +kernel
theorem dX2_init_16 : decode cX2_init 16 = .ok (.new 16, 3) := by decide +kernel
theorem dX2_init_19 : decode cX2_init 19 = .ok (.dup, 1) := by decide +kernel
theorem dX2_init_20 : decode cX2_init 20 = .ok (.invokespecial 18, 3) := by decide +kernel
theorem dX2_init_23 : decode cX2_init 23 = .ok (.putfield 19, 3) := by decide +kernel
theorem dX2_init_26 : decode cX2_init 26 = .ok (.aload_n 0, 1) := by decide +kernel
theorem dX2_init_27 : decode cX2_init 27 = .ok (.iconst 3, 1) := by decide +kernel
theorem dX2_init_28 : decode cX2_init 28 = .ok (.newarray .int, 2) := by decide +kernel
theorem dX2_init_30 : decode cX2_init 30 = .ok (.putfield 23, 3) := by decide +kernel
theorem dX2_init_33 : decode cX2_init 33 = .ok (.aload_n 0, 1) := by decide +kernel
theorem dX2_init_34 : decode cX2_init 34 = .ok (.iconst 3, 1) := by decide +kernel
theorem dX2_init_35 : decode cX2_init 35 = .ok (.newarray .int, 2) := by decide +kernel
theorem dX2_init_37 : decode cX2_init 37 = .ok (.putfield 27, 3) := by decide +kernel
theorem dX2_init_40 : decode cX2_init 40 = .ok (.aload_n 0, 1) := by decide +kernel
theorem dX2_init_41 : decode cX2_init 41 = .ok (.iconst 3, 1) := by decide +kernel
theorem dX2_init_42 : decode cX2_init 42 = .ok (.newarray .int, 2) := by decide +kernel
theorem dX2_init_44 : decode cX2_init 44 = .ok (.dup, 1) := by decide +kernel
theorem dX2_init_45 : decode cX2_init 45 = .ok (.iconst 0, 1) := by decide +kernel
theorem dX2_init_46 : decode cX2_init 46 = .ok (.iconst 3, 1) := by decide +kernel
theorem dX2_init_47 : decode cX2_init 47 = .ok (.iastore, 1) := by decide +kernel
theorem dX2_init_48 : decode cX2_init 48 = .ok (.dup, 1) := by decide +kernel
theorem dX2_init_49 : decode cX2_init 49 = .ok (.iconst 1, 1) := by decide +kernel
theorem dX2_init_50 : decode cX2_init 50 = .ok (.iconst 1, 1) := by decide +kernel
theorem dX2_init_51 : decode cX2_init 51 = .ok (.iastore, 1) := by decide +kernel
theorem dX2_init_52 : decode cX2_init 52 = .ok (.dup, 1) := by decide +kernel
theorem dX2_init_53 : decode cX2_init 53 = .ok (.iconst 2, 1) := by decide +kernel
theorem dX2_init_54 : decode cX2_init 54 = .ok (.iconst 2, 1) := by decide +kernel
theorem dX2_init_55 : decode cX2_init 55 = .ok (.iastore, 1) := by decide +kernel
theorem dX2_init_56 : decode cX2_init 56 = .ok (.putfield 30, 3) := by decide +kernel
theorem dX2_init_59 : decode cX2_init 59 = .ok (.aload_n 0, 1) := by decide +kernel
theorem dX2_init_60 : decode cX2_init 60 = .ok (.iconst 0, 1) := by decide +kernel
theorem dX2_init_61 : decode cX2_init 61 = .ok (.putfield 33, 3) := by decide +kernel
theorem dX2_init_64 : decode cX2_init 64 = .ok (.aload_n 0, 1) := by decide +kernel
theorem dX2_init_65 : decode cX2_init 65 = .ok (.iconst 0, 1) := by decide +kernel
theorem dX2_init_66 : decode cX2_init 66 = .ok (.putfield 37, 3) := by decide +kernel
theorem dX2_init_69 : decode cX2_init 69 = .ok (.aload_n 0, 1) := by decide +kernel
theorem dX2_init_70 : decode cX2_init 70 = .ok (.iconst 0, 1) := by decide +kernel
theorem dX2_init_71 : decode cX2_init 71 = .ok (.putfield 40, 3) := by decide +kernel
theorem dX2_init_74 : decode cX2_init 74 = .ok (.aload_n 0, 1) := by decide +kernel
theorem dX2_init_75 : decode cX2_init 75 = .ok (.iconst 0, 1) := by decide +kernel
theorem dX2_init_76 : decode cX2_init 76 = .ok (.putfield 43, 3) := by decide +kernel
theorem dX2_init_79 : decode cX2_init 79 = .ok (.iconst 0, 1) := by decide +kernel
theorem dX2_init_80 : decode cX2_init 80 = .ok (.istore_n 1, 1) := by decide +kernel
theorem dX2_init_81 : decode cX2_init 81 = .ok (.iload_n 1, 1) := by decide +kernel
theorem dX2_init_82 : decode cX2_init 82 = .ok (.aload_n 0, 1) := by decide +kernel
theorem dX2_init_83 : decode cX2_init 83 = .ok (.getfield 23, 3) := by decide +kernel
theorem dX2_init_86 : decode cX2_init 86 = .ok (.arraylength, 1) := by decide +kernel
theorem dX2_init_87 : decode cX2_init 87 = .ok (.if_icmp .ge 17, 3) := by decide +kernel
theorem dX2_init_90 : decode cX2_init 90 = .ok (.aload_n 0, 1) := by decide +kernel
theorem dX2_init_91 : decode cX2_init 91 = .ok (.getfield 23, 3) := by decide +kernel
theorem dX2_init_94 : decode cX2_init 94 = .ok (.iload_n 1, 1) := by decide +kernel
theorem dX2_init_95 : decode cX2_init 95 = .ok (.bipush 100, 2) := by decide +kernel
theorem dX2_init_97 : decode cX2_init 97 = .ok (.iastore, 1) := by decide +kernel
theorem dX2_init_98 : decode cX2_init 98 = .ok (.iinc 1 1, 3) := by decide +kernel
theorem dX2_init_101 : decode cX2_init 101 = .ok (.goto (-20), 3) := by decide +kernel
theorem dX2_init_104 : decode cX2_init 104 = .ok (.return_, 1) := by decide +kernel
set_option maxRecDepth 20000 in
theorem ggX2_takeFrom_X1_takeFrom : GoodIn wsX2_takeFrom wsX1_takeFrom := goodIn_r _ [18, 19, 20, 21, 5, 6, 7, 22, 41, 42, 43] (by decide +kernel) (by decide +kernel)
set_option maxRecDepth 20000 in
theorem gX2_takeFrom_X1_takeFrom : GoodIn wsX2_takeFrom (wsV RX2 46 RX1 yX1_takeFrom wsX1_takeFrom) := goodIn_app (goodIn_of _ (by decide +kernel)) ggX2_takeFrom_X1_takeFrom
set_option maxRecDepth 20000 in
theorem ggX2_takeFrom_X3_takeFrom : GoodIn wsX2_takeFrom wsX3_takeFrom := goodIn_r _ [27, 28, 29, 30, 5, 6, 7, 31, 44, 45, 46] (by decide +kernel) (by decide +kernel)
set_option maxRecDepth 20000 in
theorem gX2_takeFrom_X3_takeFrom : GoodIn wsX2_takeFrom (wsV RX2 50 RX3 yX3_takeFrom wsX3_takeFrom) := goodIn_app (goodIn_of _ (by decide +kernel)) ggX2_takeFrom_X3_takeFrom
theorem dX2_takeFrom_0 : decode cX2_takeFrom 0 = .ok (.aload_n 0, 1) := by decide +kernel
theorem dX2_takeFrom_1 : decode cX2_takeFrom 1 = .ok (.getfield 10, 3) := by decide +kernel
theorem dX2_takeFrom_4 : decode cX2_takeFrom 4 = .ok (.aload_n 1, 1) := by decide +kernel
theorem dX2_takeFrom_5 : decode cX2_takeFrom 5 = .ok (.getfield 10, 3) := by decide +kernel
theorem dX2_takeFrom_8 : decode cX2_takeFrom 8 = .ok (.invokevirtual 46, 3) := by decide +kernel
theorem dX2_takeFrom_11 : decode cX2_takeFrom 11 = .ok (.aload_n 0, 1) := by decide +kernel
theorem dX2_takeFrom_12 : decode cX2_takeFrom 12 = .ok (.getfield 19, 3) := by decide +kernel
theorem dX2_takeFrom_15 : decode cX2_takeFrom 15 = .ok (.aload_n 1, 1) := by decide +kernel
theorem dX2_takeFrom_16 : decode cX2_takeFrom 16 = .ok (.getfield 19, 3) := by decide +kernel
theorem dX2_takeFrom_19 : decode cX2_takeFrom 19 = .ok (.invokevirtual 50, 3) := by decide +kernel
theorem dX2_takeFrom_22 : decode cX2_takeFrom 22 = .ok (.aload_n 1, 1) := by decide +kernel
theorem dX2_takeFrom_23 : decode cX2_takeFrom 23 = .ok (.getfield 23, 3) := by decide +kernel
theorem dX2_takeFrom_26 : decode cX2_takeFrom 26 = .ok (.iconst 0, 1) := by decide +kernel
theorem dX2_takeFrom_27 : decode cX2_takeFrom 27 = .ok (.aload_n 0, 1) := by decide +kernel
theorem dX2_takeFrom_28 : decode cX2_takeFrom 28 = .ok (.getfield 23, 3) := by decide +kernel
theorem dX2_takeFrom_31 : decode cX2_takeFrom 31 = .ok (.iconst 0, 1) := by decide +kernel
theorem dX2_takeFrom_32 : decode cX2_takeFrom 32 = .ok (.iconst 3, 1) := by decide +kernel
theorem dX2_takeFrom_33 : decode cX2_takeFrom 33 = .ok (.invokestatic 53, 3) := by decide +kernel
theorem dX2_takeFrom_36 : decode cX2_takeFrom 36 = .ok (.aload_n 1, 1) := by decide +kernel
theorem dX2_takeFrom_37 : decode cX2_takeFrom 37 = .ok (.getfield 27, 3) := by decide +kernel
theorem dX2_takeFrom_40 : decode cX2_takeFrom 40 = .ok (.iconst 0, 1) := by decide +kernel
theorem dX2_takeFrom_41 : decode cX2_takeFrom 41 = .ok (.aload_n 0, 1) := by decide +kernel
theorem dX2_takeFrom_42 : decode cX2_takeFrom 42 = .ok (.getfield 27, 3) := by decide +kernel
theorem dX2_takeFrom_45 : decode cX2_takeFrom 45 = .ok (.iconst 0, 1) := by decide +kernel
theorem dX2_takeFrom_46 : decode cX2_takeFrom 46 = .ok (.iconst 3, 1) := by decide +kernel
theorem dX2_takeFrom_47 : decode cX2_takeFrom 47 = .ok (.invokestatic 53, 3) := by decide +kernel
theorem dX2_takeFrom_50 : decode cX2_takeFrom 50 = .ok (.aload_n 1, 1) := by decide +kernel
theorem dX2_takeFrom_51 : decode cX2_takeFrom 51 = .ok (.getfield 30, 3) := by decide +kernel
theorem dX2_takeFrom_54 : decode cX2_takeFrom 54 = .ok (.iconst 0, 1) := by decide +kernel
theorem dX2_takeFrom_55 : decode cX2_takeFrom 55 = .ok (.aload_n 0, 1) := by decide +kernel
theorem dX2_takeFrom_56 : decode cX2_takeFrom 56 = .ok (.getfield 30, 3) := by decide +kernel
theorem dX2_takeFrom_59 : decode cX2_takeFrom 59 = .ok (.iconst 0, 1) := by decide +kernel
theorem dX2_takeFrom_60 : decode cX2_takeFrom 60 = .ok (.iconst 3, 1) := by decide +kernel
theorem dX2_takeFrom_61 : decode cX2_takeFrom 61 = .ok (.invokestatic 53, 3) := by decide +kernel
theorem dX2_takeFrom_64 : decode cX2_takeFrom 64 = .ok (.aload_n 0, 1) := by decide +kernel
theorem dX2_takeFrom_65 : decode cX2_takeFrom 65 = .ok (.aload_n 1, 1) := by decide +kernel
theorem dX2_takeFrom_66 : decode cX2_takeFrom 66 = .ok (.getfield 33, 3) := by decide +kernel
theorem dX2_takeFrom_69 : decode cX2_takeFrom 69 = .ok (.putfield 33, 3) := by decide +kernel
theorem dX2_takeFrom_72 : decode cX2_takeFrom 72 = .ok (.aload_n 0, 1) := by decide +kernel
theorem dX2_takeFrom_73 : decode cX2_takeFrom 73 = .ok (.aload_n 1, 1) := by decide +kernel
theorem dX2_takeFrom_74 : decode cX2_takeFrom 74 = .ok (.getfield 37, 3) := by decide +kernel
theorem dX2_takeFrom_77 : decode cX2_takeFrom 77 = .ok (.putfield 37, 3) := by decide +kernel
theorem dX2_takeFrom_80 : decode cX2_takeFrom 80 = .ok (.aload_n 0, 1) := by decide +kernel
theorem dX2_takeFrom_81 : decode cX2_takeFrom 81 = .ok (.aload_n 1, 1) := by decide +kernel
theorem dX2_takeFrom_82 : decode cX2_takeFrom 82 = .ok (.getfield 40, 3) := by decide +kernel
theorem dX2_takeFrom_85 : decode cX2_takeFrom 85 = .ok (.putfield 40, 3) := by decide +kernel
theorem dX2_takeFrom_88 : decode cX2_takeFrom 88 = .ok (.aload_n 0, 1) := by decide +kernel
theorem dX2_takeFrom_89 : decode cX2_takeFrom 89 = .ok (.aload_n 1, 1) := by decide +kernel
theorem dX2_takeFrom_90 : decode cX2_takeFrom 90 = .ok (.getfield 43, 3) := by decide +kernel
theorem dX2_takeFrom_93 : decode cX2_takeFrom 93 = .ok (.putfield 43, 3) := by decide +kernel
theorem dX2_takeFrom_96 : decode cX2_takeFrom 96 = .ok (.return_, 1) := by decide +kernel
theorem dX2_turn_0 : decode cX2_turn 0 = .ok (.aload_n 0, 1) := by decide +kernel
theorem dX2_turn_1 : decode cX2_turn 1 = .ok (.getfield 33, 3) := by decide +kernel
theorem dX2_turn_4 : decode cX2_turn 4 = .ok (.ireturn, 1) := by decide +kernel
theorem dX2_pot_0 : decode cX2_pot 0 = .ok (.aload_n 0, 1) := by decide +kernel
theorem dX2_pot_1 : decode cX2_pot 1 = .ok (.getfield 37, 3) := by decide +kernel
theorem dX2_pot_4 : decode cX2_pot 4 = .ok (.ireturn, 1) := by decide +kernel
theorem dX2_roundSwaps_0 : decode cX2_roundSwaps 0 = .ok (.aload_n 0, 1) := by decide +kernel
theorem dX2_roundSwaps_1 : decode cX2_roundSwaps 1 = .ok (.getfield 40, 3) := by decide +kernel
theorem dX2_roundSwaps_4 : decode cX2_roundSwaps 4 = .ok (.ireturn, 1) := by decide +kernel
theorem dX2_allSwaps_0 : decode cX2_allSwaps 0 = .ok (.aload_n 0, 1) := by decide +kernel
theorem dX2_allSwaps_1 : decode cX2_allSwaps 1 = .ok (.getfield 43, 3) := by decide +kernel
theorem dX2_allSwaps_4 : decode cX2_allSwaps 4 = .ok (.ireturn, 1) := by decide +kernel
theorem dX2_hasRival_0 : decode cX2_hasRival 0 = .ok (.iload_n 0, 1) := by decide +kernel
theorem dX2_hasRival_1 : decode cX2_hasRival 1 = .ok (.ifCond .lt 12, 3) := by decide +kernel
theorem dX2_hasRival_4 : decode cX2_hasRival 4 = .ok (.iload_n 0, 1) := by decide +kernel
theorem dX2_hasRival_5 : decode cX2_hasRival 5 = .ok (.iconst 3, 1) := by decide +kernel
theorem dX2_hasRival_6 : decode cX2_hasRival 6 = .ok (.if_icmp .ge 7, 3) := by decide +kernel
theorem dX2_hasRival_9 : decode cX2_hasRival 9 = .ok (.iconst 1, 1) := by decide +kernel
theorem dX2_hasRival_10 : decode cX2_hasRival 10 = .ok (.goto 4, 3) := by decide +kernel
theorem dX2_hasRival_13 : decode cX2_hasRival 13 = .ok (.iconst 0, 1) := by decide +kernel
theorem dX2_hasRival_14 : decode cX2_hasRival 14 = .ok (.ireturn, 1) := by decide +kernel
theorem dX2_purseOf_0 : decode cX2_purseOf 0 = .ok (.iload_n 1, 1) := by decide +kernel
theorem dX2_purseOf_1 : decode cX2_purseOf 1 = .ok (.ifCond .lt 21, 3) := by decide +kernel
theorem dX2_purseOf_4 : decode cX2_purseOf 4 = .ok (.iload_n 1, 1) := by decide +kernel
theorem dX2_purseOf_5 : decode cX2_purseOf 5 = .ok (.aload_n 0, 1) := by decide +kernel
theorem dX2_purseOf_6 : decode cX2_purseOf 6 = .ok (.getfield 23, 3) := by decide +kernel
theorem dX2_purseOf_9 : decode cX2_purseOf 9 = .ok (.arraylength, 1) := by decide +kernel
theorem dX2_purseOf_10 : decode cX2_purseOf 10 = .ok (.if_icmp .ge 12, 3) := by decide +kernel
theorem dX2_purseOf_13 : decode cX2_purseOf 13 = .ok (.aload_n 0, 1) := by decide +kernel
theorem dX2_purseOf_14 : decode cX2_purseOf 14 = .ok (.getfield 23, 3) := by decide +kernel
theorem dX2_purseOf_17 : decode cX2_purseOf 17 = .ok (.iload_n 1, 1) := by decide +kernel
theorem dX2_purseOf_18 : decode cX2_purseOf 18 = .ok (.iaload, 1) := by decide +kernel
theorem dX2_purseOf_19 : decode cX2_purseOf 19 = .ok (.goto 4, 3) := by decide +kernel
theorem dX2_purseOf_22 : decode cX2_purseOf 22 = .ok (.iconst 0, 1) := by decide +kernel
theorem dX2_purseOf_23 : decode cX2_purseOf 23 = .ok (.ireturn, 1) := by decide +kernel
theorem dX2_squaresWonBy_0 : decode cX2_squaresWonBy 0 = .ok (.iload_n 1, 1) := by decide +kernel
theorem dX2_squaresWonBy_1 : decode cX2_squaresWonBy 1 = .ok (.ifCond .lt 21, 3) := by decide +kernel
theorem dX2_squaresWonBy_4 : decode cX2_squaresWonBy 4 = .ok (.iload_n 1, 1) := by decide +kernel
theorem dX2_squaresWonBy_5 : decode cX2_squaresWonBy 5 = .ok (.aload_n 0, 1) := by decide +kernel
theorem dX2_squaresWonBy_6 : decode cX2_squaresWonBy 6 = .ok (.getfield 27, 3) := by decide +kernel
theorem dX2_squaresWonBy_9 : decode cX2_squaresWonBy 9 = .ok (.arraylength, 1) := by decide +kernel
theorem dX2_squaresWonBy_10 : decode cX2_squaresWonBy 10 = .ok (.if_icmp .ge 12, 3) := by decide +kernel
theorem dX2_squaresWonBy_13 : decode cX2_squaresWonBy 13 = .ok (.aload_n 0, 1) := by decide +kernel
theorem dX2_squaresWonBy_14 : decode cX2_squaresWonBy 14 = .ok (.getfield 27, 3) := by decide +kernel
theorem dX2_squaresWonBy_17 : decode cX2_squaresWonBy 17 = .ok (.iload_n 1, 1) := by decide +kernel
theorem dX2_squaresWonBy_18 : decode cX2_squaresWonBy 18 = .ok (.iaload, 1) := by decide +kernel
theorem dX2_squaresWonBy_19 : decode cX2_squaresWonBy 19 = .ok (.goto 4, 3) := by decide +kernel
theorem dX2_squaresWonBy_22 : decode cX2_squaresWonBy 22 = .ok (.iconst 0, 1) := by decide +kernel
theorem dX2_squaresWonBy_23 : decode cX2_squaresWonBy 23 = .ok (.ireturn, 1) := by decide +kernel
theorem dX2_allowsSetting_0 : decode cX2_allowsSetting 0 = .ok (.iload_n 0, 1) := by decide +kernel
theorem dX2_allowsSetting_1 : decode cX2_allowsSetting 1 = .ok (.ifCond .lt 8, 3) := by decide +kernel
theorem dX2_allowsSetting_4 : decode cX2_allowsSetting 4 = .ok (.iload_n 0, 1) := by decide +kernel
theorem dX2_allowsSetting_5 : decode cX2_allowsSetting 5 = .ok (.iconst 3, 1) := by decide +kernel
theorem dX2_allowsSetting_6 : decode cX2_allowsSetting 6 = .ok (.if_icmp .lt 5, 3) := by decide +kernel
theorem dX2_allowsSetting_9 : decode cX2_allowsSetting 9 = .ok (.iconst 0, 1) := by decide +kernel
theorem dX2_allowsSetting_10 : decode cX2_allowsSetting 10 = .ok (.ireturn, 1) := by decide +kernel
theorem dX2_allowsSetting_11 : decode cX2_allowsSetting 11 = .ok (.iload_n 0, 1) := by decide +kernel
theorem dX2_allowsSetting_12 : decode cX2_allowsSetting 12 = .ok (.ifCond .ne 7, 3) := by decide +kernel
theorem dX2_allowsSetting_15 : decode cX2_allowsSetting 15 = .ok (.iconst 1, 1) := by decide +kernel
theorem dX2_allowsSetting_16 : decode cX2_allowsSetting 16 = .ok (.goto 4, 3) := by decide +kernel
theorem dX2_allowsSetting_19 : decode cX2_allowsSetting 19 = .ok (.iconst 0, 1) := by decide +kernel
theorem dX2_allowsSetting_20 : decode cX2_allowsSetting 20 = .ok (.istore_n 2, 1) := by decide +kernel
theorem dX2_allowsSetting_21 : decode cX2_allowsSetting 21 = .ok (.iload_n 1, 1) := by decide +kernel
theorem dX2_allowsSetting_22 : decode cX2_allowsSetting 22 = .ok (.iload_n 2, 1) := by decide +kernel
theorem dX2_allowsSetting_23 : decode cX2_allowsSetting 23 = .ok (.if_icmp .lt 13, 3) := by decide +kernel
theorem dX2_allowsSetting_26 : decode cX2_allowsSetting 26 = .ok (.iload_n 1, 1) := by decide +kernel
theorem dX2_allowsSetting_27 : decode cX2_allowsSetting 27 = .ok (.bipush 9, 2) := by decide +kernel
theorem dX2_allowsSetting_29 : decode cX2_allowsSetting 29 = .ok (.if_icmp .gt 7, 3) := by decide +kernel
theorem dX2_allowsSetting_32 : decode cX2_allowsSetting 32 = .ok (.iconst 1, 1) := by decide +kernel
theorem dX2_allowsSetting_33 : decode cX2_allowsSetting 33 = .ok (.goto 4, 3) := by decide +kernel
theorem dX2_allowsSetting_36 : decode cX2_allowsSetting 36 = .ok (.iconst 0, 1) := by decide +kernel
theorem dX2_allowsSetting_37 : decode cX2_allowsSetting 37 = .ok (.ireturn, 1) := by decide +kernel
theorem dX2_settingOf_0 : decode cX2_settingOf 0 = .ok (.iload_n 1, 1) := by decide +kernel
theorem dX2_settingOf_1 : decode cX2_settingOf 1 = .ok (.ifCond .lt 21, 3) := by decide +kernel
theorem dX2_settingOf_4 : decode cX2_settingOf 4 = .ok (.iload_n 1, 1) := by decide +kernel
theorem dX2_settingOf_5 : decode cX2_settingOf 5 = .ok (.aload_n 0, 1) := by decide +kernel
theorem dX2_settingOf_6 : decode cX2_settingOf 6 = .ok (.getfield 30, 3) := by decide +kernel
theorem dX2_settingOf_9 : decode cX2_settingOf 9 = .ok (.arraylength, 1) := by decide +kernel
theorem dX2_settingOf_10 : decode cX2_settingOf 10 = .ok (.if_icmp .ge 12, 3) := by decide +kernel
theorem dX2_settingOf_13 : decode cX2_settingOf 13 = .ok (.aload_n 0, 1) := by decide +kernel
theorem dX2_settingOf_14 : decode cX2_settingOf 14 = .ok (.getfield 30, 3) := by decide +kernel
theorem dX2_settingOf_17 : decode cX2_settingOf 17 = .ok (.iload_n 1, 1) := by decide +kernel
theorem dX2_settingOf_18 : decode cX2_settingOf 18 = .ok (.iaload, 1) := by decide +kernel
theorem dX2_settingOf_19 : decode cX2_settingOf 19 = .ok (.goto 4, 3) := by decide +kernel
theorem dX2_settingOf_22 : decode cX2_settingOf 22 = .ok (.iconst 0, 1) := by decide +kernel
theorem dX2_settingOf_23 : decode cX2_settingOf 23 = .ok (.ireturn, 1) := by decide +kernel
theorem dX2_changeSetting_0 : decode cX2_changeSetting 0 = .ok (.iload_n 1, 1) := by decide +kernel
theorem dX2_changeSetting_1 : decode cX2_changeSetting 1 = .ok (.ifCond .lt 19, 3) := by decide +kernel
theorem dX2_changeSetting_4 : decode cX2_changeSetting 4 = .ok (.iload_n 1, 1) := by decide +kernel
theorem dX2_changeSetting_5 : decode cX2_changeSetting 5 = .ok (.aload_n 0, 1) := by decide +kernel
theorem dX2_changeSetting_6 : decode cX2_changeSetting 6 = .ok (.getfield 30, 3) := by decide +kernel
theorem dX2_changeSetting_9 : decode cX2_changeSetting 9 = .ok (.arraylength, 1) := by decide +kernel
theorem dX2_changeSetting_10 : decode cX2_changeSetting 10 = .ok (.if_icmp .ge 10, 3) := by decide +kernel
theorem dX2_changeSetting_13 : decode cX2_changeSetting 13 = .ok (.aload_n 0, 1) := by decide +kernel
theorem dX2_changeSetting_14 : decode cX2_changeSetting 14 = .ok (.getfield 30, 3) := by decide +kernel
theorem dX2_changeSetting_17 : decode cX2_changeSetting 17 = .ok (.iload_n 1, 1) := by decide +kernel
theorem dX2_changeSetting_18 : decode cX2_changeSetting 18 = .ok (.iload_n 2, 1) := by decide +kernel
theorem dX2_changeSetting_19 : decode cX2_changeSetting 19 = .ok (.iastore, 1) := by decide +kernel
theorem dX2_changeSetting_20 : decode cX2_changeSetting 20 = .ok (.return_, 1) := by decide +kernel
set_option maxRecDepth 20000 in
theorem ggX2_priceOfSwap_X2_settingOf : GoodIn wsX2_priceOfSwap wsX2_settingOf := goodIn_r _ [5, 6, 7, 8, 9, 10, 11, 12, 13, 14, 15] (by decide +kernel) (by decide +kernel)
set_option maxRecDepth 20000 in
theorem gX2_priceOfSwap_X2_settingOf : GoodIn wsX2_priceOfSwap (wsV RX2 59 RX2 yX2_settingOf wsX2_settingOf) := goodIn_app (goodIn_of _ (by decide +kernel)) ggX2_priceOfSwap_X2_settingOf
theorem dX2_priceOfSwap_0 : decode cX2_priceOfSwap 0 = .ok (.aload_n 0, 1) := by decide +kernel
theorem dX2_priceOfSwap_1 : decode cX2_priceOfSwap 1 = .ok (.iconst 1, 1) := by decide +kernel
theorem dX2_priceOfSwap_2 : decode cX2_priceOfSwap 2 = .ok (.invokevirtual 59, 3) := by decide +kernel
theorem dX2_priceOfSwap_5 : decode cX2_priceOfSwap 5 = .ok (.ireturn, 1) := by decide +kernel
set_option maxRecDepth 20000 in
theorem ggX2_priceOfFreeze_X2_settingOf : GoodIn wsX2_priceOfFreeze wsX2_settingOf := goodIn_r _ [5, 6, 7, 8, 9, 10, 11, 12, 13, 14, 15] (by decide +kernel) (by decide +kernel)
set_option maxRecDepth 20000 in
theorem gX2_priceOfFreeze_X2_settingOf : GoodIn wsX2_priceOfFreeze (wsV RX2 59 RX2 yX2_settingOf wsX2_settingOf) := goodIn_app (goodIn_of _ (by decide +kernel)) ggX2_priceOfFreeze_X2_settingOf
theorem dX2_priceOfFreeze_0 : decode cX2_priceOfFreeze 0 = .ok (.iload_n 1, 1) := by decide +kernel
theorem dX2_priceOfFreeze_1 : decode cX2_priceOfFreeze 1 = .ok (.aload_n 0, 1) := by decide +kernel
theorem dX2_priceOfFreeze_2 : decode cX2_priceOfFreeze 2 = .ok (.iconst 2, 1) := by decide +kernel
theorem dX2_priceOfFreeze_3 : decode cX2_priceOfFreeze 3 = .ok (.invokevirtual 59, 3) := by decide +kernel
theorem dX2_priceOfFreeze_6 : decode cX2_priceOfFreeze 6 = .ok (.imul, 1) := by decide +kernel
theorem dX2_priceOfFreeze_7 : decode cX2_priceOfFreeze 7 = .ok (.ireturn, 1) := by decide +kernel
set_option maxRecDepth 20000 in
theorem ggX2_canPay_X2_purseOf : GoodIn wsX2_canPay wsX2_purseOf := goodIn_r _ [6, 7, 8, 9, 10, 11, 12, 13, 14, 15, 16] (by decide +kernel) (by decide +kernel)
set_option maxRecDepth 20000 in
theorem gX2_canPay_X2_purseOf : GoodIn wsX2_canPay (wsV RX2 63 RX2 yX2_purseOf wsX2_purseOf) := goodIn_app (goodIn_of _ (by decide +kernel)) ggX2_canPay_X2_purseOf
theorem dX2_canPay_0 : decode cX2_canPay 0 = .ok (.aload_n 0, 1) := by decide +kernel
theorem dX2_canPay_1 : decode cX2_canPay 1 = .ok (.aload_n 0, 1) := by decide +kernel
theorem dX2_canPay_2 : decode cX2_canPay 2 = .ok (.getfield 33, 3) := by decide +kernel
theorem dX2_canPay_5 : decode cX2_canPay 5 = .ok (.invokevirtual 63, 3) := by decide +kernel
theorem dX2_canPay_8 : decode cX2_canPay 8 = .ok (.iload_n 1, 1) := by decide +kernel
theorem dX2_canPay_9 : decode cX2_canPay 9 = .ok (.if_icmp .lt 7, 3) := by decide +kernel
theorem dX2_canPay_12 : decode cX2_canPay 12 = .ok (.iconst 1, 1) := by decide +kernel
theorem dX2_canPay_13 : decode cX2_canPay 13 = .ok (.goto 4, 3) := by decide +kernel
theorem dX2_canPay_16 : decode cX2_canPay 16 = .ok (.iconst 0, 1) := by decide +kernel
theorem dX2_canPay_17 : decode cX2_canPay 17 = .ok (.ireturn, 1) := by decide +kernel
theorem dX2_changePurse_0 : decode cX2_changePurse 0 = .ok (.iload_n 1, 1) := by decide +kernel
theorem dX2_changePurse_1 : decode cX2_changePurse 1 = .ok (.ifCond .lt 31, 3) := by decide +kernel
theorem dX2_changePurse_4 : decode cX2_changePurse 4 = .ok (.iload_n 1, 1) := by decide +kernel
theorem dX2_changePurse_5 : decode cX2_changePurse 5 = .ok (.aload_n 0, 1) := by decide +kernel
theorem dX2_changePurse_6 : decode cX2_changePurse 6 = .ok (.getfield 23, 3) := by decide +kernel
theorem dX2_changePurse_9 : decode cX2_changePurse 9 = .ok (.arraylength, 1) := by decide +kernel
theorem dX2_changePurse_10 : decode cX2_changePurse 10 = .ok (.if_icmp .ge 22, 3) := by decide +kernel
theorem dX2_changePurse_13 : decode cX2_changePurse 13 = .ok (.aload_n 0, 1) := by decide +kernel
theorem dX2_changePurse_14 : decode cX2_changePurse 14 = .ok (.getfield 23, 3) := by decide +kernel
theorem dX2_changePurse_17 : decode cX2_changePurse 17 = .ok (.iload_n 1, 1) := by decide +kernel
theorem dX2_changePurse_18 : decode cX2_changePurse 18 = .ok (.aload_n 0, 1) := by decide +kernel
theorem dX2_changePurse_19 : decode cX2_changePurse 19 = .ok (.getfield 23, 3) := by decide +kernel
theorem dX2_changePurse_22 : decode cX2_changePurse 22 = .ok (.iload_n 1, 1) := by decide +kernel
theorem dX2_changePurse_23 : decode cX2_changePurse 23 = .ok (.iaload, 1) := by decide +kernel
theorem dX2_changePurse_24 : decode cX2_changePurse 24 = .ok (.iload_n 2, 1) := by decide +kernel
theorem dX2_changePurse_25 : decode cX2_changePurse 25 = .ok (.iadd, 1) := by decide +kernel
theorem dX2_changePurse_26 : decode cX2_changePurse 26 = .ok (.ldc 66, 2) := by decide +kernel
theorem dX2_changePurse_28 : decode cX2_changePurse 28 = .ok (.invokestatic 67, 3) := by decide +kernel
theorem dX2_changePurse_31 : decode cX2_changePurse 31 = .ok (.iastore, 1) := by decide +kernel
theorem dX2_changePurse_32 : decode cX2_changePurse 32 = .ok (.return_, 1) := by decide +kernel
set_option maxRecDepth 20000 in
theorem ggX2_payIntoPot_X2_changePurse : GoodIn wsX2_payIntoPot wsX2_changePurse := goodIn_r _ [7, 8, 9, 10, 11, 12, 13, 14, 15, 16, 17, 18, 19, 20, 21, 22] (by decide +kernel) (by decide +kernel)
set_option maxRecDepth 20000 in
theorem gX2_payIntoPot_X2_changePurse : GoodIn wsX2_payIntoPot (wsV RX2 73 RX2 yX2_changePurse wsX2_changePurse) := goodIn_app (goodIn_of _ (by decide +kernel)) ggX2_payIntoPot_X2_changePurse
theorem dX2_payIntoPot_0 : decode cX2_payIntoPot 0 = .ok (.aload_n 0, 1) := by decide +kernel
theorem dX2_payIntoPot_1 : decode cX2_payIntoPot 1 = .ok (.aload_n 0, 1) := by decide +kernel
theorem dX2_payIntoPot_2 : decode cX2_payIntoPot 2 = .ok (.getfield 33, 3) := by decide +kernel
theorem dX2_payIntoPot_5 : decode cX2_payIntoPot 5 = .ok (.iload_n 1, 1) := by decide +kernel
theorem dX2_payIntoPot_6 : decode cX2_payIntoPot 6 = .ok (.ineg, 1) := by decide +kernel
theorem dX2_payIntoPot_7 : decode cX2_payIntoPot 7 = .ok (.invokevirtual 73, 3) := by decide +kernel
theorem dX2_payIntoPot_10 : decode cX2_payIntoPot 10 = .ok (.aload_n 0, 1) := by decide +kernel
theorem dX2_payIntoPot_11 : decode cX2_payIntoPot 11 = .ok (.dup, 1) := by decide +kernel
theorem dX2_payIntoPot_12 : decode cX2_payIntoPot 12 = .ok (.getfield 37, 3) := by decide +kernel
theorem dX2_payIntoPot_15 : decode cX2_payIntoPot 15 = .ok (.iload_n 1, 1) := by decide +kernel
theorem dX2_payIntoPot_16 : decode cX2_payIntoPot 16 = .ok (.iadd, 1) := by decide +kernel
theorem dX2_payIntoPot_17 : decode cX2_payIntoPot 17 = .ok (.putfield 37, 3) := by decide +kernel
theorem dX2_payIntoPot_20 : decode cX2_payIntoPot 20 = .ok (.return_, 1) := by decide +kernel
theorem dX2_passTurn_0 : decode cX2_passTurn 0 = .ok (.aload_n 0, 1) := by decide +kernel
theorem dX2_passTurn_1 : decode cX2_passTurn 1 = .ok (.aload_n 0, 1) := by decide +kernel
theorem dX2_passTurn_2 : decode cX2_passTurn 2 = .ok (.getfield 33, 3) := by decide +kernel
theorem dX2_passTurn_5 : decode cX2_passTurn 5 = .ok (.iconst 1, 1) := by decide +kernel
theorem dX2_passTurn_6 : decode cX2_passTurn 6 = .ok (.iadd, 1) := by decide +kernel
theorem dX2_passTurn_7 : decode cX2_passTurn 7 = .ok (.iconst 3, 1) := by decide +kernel
theorem dX2_passTurn_8 : decode cX2_passTurn 8 = .ok (.if_icmp .ge 12, 3) := by decide +kernel
theorem dX2_passTurn_11 : decode cX2_passTurn 11 = .ok (.aload_n 0, 1) := by decide +kernel
theorem dX2_passTurn_12 : decode cX2_passTurn 12 = .ok (.getfield 33, 3) := by decide +kernel
theorem dX2_passTurn_15 : decode cX2_passTurn 15 = .ok (.iconst 1, 1) := by decide +kernel
theorem dX2_passTurn_16 : decode cX2_passTurn 16 = .ok (.iadd, 1) := by decide +kernel
theorem dX2_passTurn_17 : decode cX2_passTurn 17 = .ok (.goto 4, 3) := by decide +kernel
theorem dX2_passTurn_20 : decode cX2_passTurn 20 = .ok (.iconst 0, 1) := by decide +kernel
theorem dX2_passTurn_21 : decode cX2_passTurn 21 = .ok (.putfield 33, 3) := by decide +kernel
theorem dX2_passTurn_24 : decode cX2_passTurn 24 = .ok (.return_, 1) := by decide +kernel
set_option maxRecDepth 20000 in
theorem ggX2_abandonRound_X3_amountOfAll : GoodIn wsX2_abandonRound wsX3_amountOfAll := goodIn_r _ [9, 10, 11, 12, 13, 8, 14, 15, 35, 36, 37] (by decide +kernel) (by decide +kernel)
set_option maxRecDepth 20000 in
theorem gX2_abandonRound_X3_amountOfAll : GoodIn wsX2_abandonRound (wsV RX2 77 RX3 yX3_amountOfAll wsX3_amountOfAll) := goodIn_app (goodIn_of _ (by decide +kernel)) ggX2_abandonRound_X3_amountOfAll
set_option maxRecDepth 20000 in
theorem ggX2_abandonRound_X3_clear : GoodIn wsX2_abandonRound wsX3_clear := goodIn_r _ [19, 10, 35, 36, 37] (by decide +kernel) (by decide +kernel)
set_option maxRecDepth 20000 in
theorem gX2_abandonRound_X3_clear : GoodIn wsX2_abandonRound (wsV RX2 81 RX3 yX3_clear wsX3_clear) := goodIn_app (goodIn_of _ (by decide +kernel)) ggX2_abandonRound_X3_clear
set_option maxRecDepth 20000 in
theorem ggX2_abandonRound_X1_thawAll : GoodIn wsX2_abandonRound wsX1_thawAll := goodIn_r _ [24, 25, 38, 39, 40] (by decide +kernel) (by decide +kernel)
set_option maxRecDepth 20000 in
theorem gX2_abandonRound_X1_thawAll : GoodIn wsX2_abandonRound (wsV RX2 84 RX1 yX1_thawAll wsX1_thawAll) := goodIn_app (goodIn_of _ (by decide +kernel)) ggX2_abandonRound_X1_thawAll
theorem dX2_abandonRound_0 : decode cX2_abandonRound 0 = .ok (.aload_n 0, 1) := by decide +kernel
theorem dX2_abandonRound_1 : decode cX2_abandonRound 1 = .ok (.dup, 1) := by decide +kernel
theorem dX2_abandonRound_2 : decode cX2_abandonRound 2 = .ok (.getfield 37, 3) := by decide +kernel
theorem dX2_abandonRound_5 : decode cX2_abandonRound 5 = .ok (.aload_n 0, 1) := by decide +kernel
theorem dX2_abandonRound_6 : decode cX2_abandonRound 6 = .ok (.getfield 19, 3) := by decide +kernel
theorem dX2_abandonRound_9 : decode cX2_abandonRound 9 = .ok (.invokevirtual 77, 3) := by decide +kernel
theorem dX2_abandonRound_12 : decode cX2_abandonRound 12 = .ok (.iadd, 1) := by decide +kernel
theorem dX2_abandonRound_13 : decode cX2_abandonRound 13 = .ok (.putfield 37, 3) := by decide +kernel
theorem dX2_abandonRound_16 : decode cX2_abandonRound 16 = .ok (.aload_n 0, 1) := by decide +kernel
theorem dX2_abandonRound_17 : decode cX2_abandonRound 17 = .ok (.getfield 19, 3) := by decide +kernel
theorem dX2_abandonRound_20 : decode cX2_abandonRound 20 = .ok (.invokevirtual 81, 3) := by decide +kernel
theorem dX2_abandonRound_23 : decode cX2_abandonRound 23 = .ok (.aload_n 0, 1) := by decide +kernel
theorem dX2_abandonRound_24 : decode cX2_abandonRound 24 = .ok (.getfield 10, 3) := by decide +kernel
theorem dX2_abandonRound_27 : decode cX2_abandonRound 27 = .ok (.invokevirtual 84, 3) := by decide +kernel
theorem dX2_abandonRound_30 : decode cX2_abandonRound 30 = .ok (.aload_n 0, 1) := by decide +kernel
theorem dX2_abandonRound_31 : decode cX2_abandonRound 31 = .ok (.iconst 0, 1) := by decide +kernel
theorem dX2_abandonRound_32 : decode cX2_abandonRound 32 = .ok (.putfield 40, 3) := by decide +kernel
theorem dX2_abandonRound_35 : decode cX2_abandonRound 35 = .ok (.return_, 1) := by decide +kernel
set_option maxRecDepth 20000 in
theorem ggX2_layStake_X2_changePurse : GoodIn wsX2_layStake wsX2_changePurse := goodIn_r _ [8, 9, 10, 11, 12, 13, 14, 71, 72, 73, 74, 75, 76, 77, 78, 79] (by decide +kernel) (by decide +kernel)
set_option maxRecDepth 20000 in
theorem gX2_layStake_X2_changePurse : GoodIn wsX2_layStake (wsV RX2 73 RX2 yX2_changePurse wsX2_changePurse) := goodIn_app (goodIn_of _ (by decide +kernel)) ggX2_layStake_X2_changePurse
set_option maxRecDepth 20000 in
theorem ggX2_layStake_X1_sumOf : GoodIn wsX2_layStake wsX1_sumOf := goodIn_r _ [19, 20, 21, 22, 23, 18, 24, 25, 26, 27, 28, 29, 80, 81, 82] (by decide +kernel) (by decide +kernel)
set_option maxRecDepth 20000 in
theorem gX2_layStake_X1_sumOf : GoodIn wsX2_layStake (wsV RX2 87 RX1 yX1_sumOf wsX1_sumOf) := goodIn_app (goodIn_of _ (by decide +kernel)) ggX2_layStake_X1_sumOf
set_option maxRecDepth 20000 in
theorem ggX2_layStake_X3_oddsFor : GoodIn wsX2_layStake wsX3_oddsFor := goodIn_r _ [33, 34, 35, 36, 37, 18, 38, 39, 40, 13, 41, 42, 16, 17, 19, 20, 21, 22, 23, 24, 25, 26, 27, 28, 29, 43, 44, 45, 46, 47, 48, 49, 50, 51, 52, 53, 54, 55, 56, 57, 58, 59, 80, 81, 82] (by decide +kernel) (by decide +kernel)
set_option maxRecDepth 20000 in
theorem gX2_layStake_X3_oddsFor : GoodIn wsX2_layStake (va_wsS RX2 90 yX3_oddsFor wsX3_oddsFor) := goodIn_app (goodIn_of _ (by decide +kernel)) ggX2_layStake_X3_oddsFor
set_option maxRecDepth 20000 in
theorem ggX2_layStake_X3_add : GoodIn wsX2_layStake wsX3_add := goodIn_r _ [63, 64, 65, 66, 67, 68, 32, 69, 70, 83, 84, 85] (by decide +kernel) (by decide +kernel)
set_option maxRecDepth 20000 in
theorem gX2_layStake_X3_add : GoodIn wsX2_layStake (wsV RX2 94 RX3 yX3_add wsX3_add) := goodIn_app (goodIn_of _ (by decide +kernel)) ggX2_layStake_X3_add
theorem dX2_layStake_0 : decode cX2_layStake 0 = .ok (.aload_n 0, 1) := by decide +kernel
theorem dX2_layStake_1 : decode cX2_layStake 1 = .ok (.aload_n 0, 1) := by decide +kernel
theorem dX2_layStake_2 : decode cX2_layStake 2 = .ok (.getfield 33, 3) := by decide +kernel
theorem dX2_layStake_5 : decode cX2_layStake 5 = .ok (.iload_n 3, 1) := by decide +kernel
theorem dX2_layStake_6 : decode cX2_layStake 6 = .ok (.ineg, 1) := by decide +kernel
theorem dX2_layStake_7 : decode cX2_layStake 7 = .ok (.invokevirtual 73, 3) := by decide +kernel
theorem dX2_layStake_10 : decode cX2_layStake 10 = .ok (.aload_n 0, 1) := by decide +kernel
theorem dX2_layStake_11 : decode cX2_layStake 11 = .ok (.getfield 19, 3) := by decide +kernel
theorem dX2_layStake_14 : decode cX2_layStake 14 = .ok (.aload_n 0, 1) := by decide +kernel
theorem dX2_layStake_15 : decode cX2_layStake 15 = .ok (.getfield 33, 3) := by decide +kernel
theorem dX2_layStake_18 : decode cX2_layStake 18 = .ok (.iload_n 1, 1) := by decide +kernel
theorem dX2_layStake_19 : decode cX2_layStake 19 = .ok (.iload_n 2, 1) := by decide +kernel
theorem dX2_layStake_20 : decode cX2_layStake 20 = .ok (.iload_n 3, 1) := by decide +kernel
theorem dX2_layStake_21 : decode cX2_layStake 21 = .ok (.aload_n 0, 1) := by decide +kernel
theorem dX2_layStake_22 : decode cX2_layStake 22 = .ok (.getfield 10, 3) := by decide +kernel
theorem dX2_layStake_25 : decode cX2_layStake 25 = .ok (.iload_n 1, 1) := by decide +kernel
theorem dX2_layStake_26 : decode cX2_layStake 26 = .ok (.invokevirtual 87, 3) := by decide +kernel
theorem dX2_layStake_29 : decode cX2_layStake 29 = .ok (.iload_n 1, 1) := by decide +kernel
theorem dX2_layStake_30 : decode cX2_layStake 30 = .ok (.iload_n 2, 1) := by decide +kernel
theorem dX2_layStake_31 : decode cX2_layStake 31 = .ok (.aload_n 0, 1) := by decide +kernel
theorem dX2_layStake_32 : decode cX2_layStake 32 = .ok (.getfield 10, 3) := by decide +kernel
theorem dX2_layStake_35 : decode cX2_layStake 35 = .ok (.invokestatic 90, 3) := by decide +kernel
theorem dX2_layStake_38 : decode cX2_layStake 38 = .ok (.invokevirtual 94, 3) := by decide +kernel
theorem dX2_layStake_41 : decode cX2_layStake 41 = .ok (.return_, 1) := by decide +kernel
set_option maxRecDepth 20000 in
theorem ggX2_makeFreeze_X2_priceOfFreeze : GoodIn wsX2_makeFreeze wsX2_priceOfFreeze := goodIn_r _ [6, 7, 8, 9, 5, 10, 11, 38, 39, 40, 41, 42, 43, 44, 45, 46] (by decide +kernel) (by decide +kernel)
set_option maxRecDepth 20000 in
theorem gX2_makeFreeze_X2_priceOfFreeze : GoodIn wsX2_makeFreeze (wsV RX2 98 RX2 yX2_priceOfFreeze wsX2_priceOfFreeze) := goodIn_app (goodIn_of _ (by decide +kernel)) ggX2_makeFreeze_X2_priceOfFreeze
set_option maxRecDepth 20000 in
theorem ggX2_makeFreeze_X2_payIntoPot : GoodIn wsX2_makeFreeze wsX2_payIntoPot := goodIn_r _ [15, 16, 17, 18, 19, 20, 5, 21, 22, 23, 24, 25, 26, 27, 38, 39, 40, 41, 42, 43, 44, 45, 46] (by decide +kernel) (by decide +kernel)
set_option maxRecDepth 20000 in
theorem gX2_makeFreeze_X2_payIntoPot : GoodIn wsX2_makeFreeze (wsV RX2 101 RX2 yX2_payIntoPot wsX2_payIntoPot) := goodIn_app (goodIn_of _ (by decide +kernel)) ggX2_makeFreeze_X2_payIntoPot
set_option maxRecDepth 20000 in
theorem ggX2_makeFreeze_X1_freezeFor : GoodIn wsX2_makeFreeze wsX1_freezeFor := goodIn_r _ [32, 33, 47, 48, 49] (by decide +kernel) (by decide +kernel)
set_option maxRecDepth 20000 in
theorem gX2_makeFreeze_X1_freezeFor : GoodIn wsX2_makeFreeze (wsV RX2 105 RX1 yX1_freezeFor wsX1_freezeFor) := goodIn_app (goodIn_of _ (by decide +kernel)) ggX2_makeFreeze_X1_freezeFor
set_option maxRecDepth 20000 in
theorem ggX2_makeFreeze_X2_passTurn : GoodIn wsX2_makeFreeze wsX2_passTurn := goodIn_r _ [37, 16, 38, 39, 40, 41, 42, 43, 44, 45, 46] (by decide +kernel) (by decide +kernel)
set_option maxRecDepth 20000 in
theorem gX2_makeFreeze_X2_passTurn : GoodIn wsX2_makeFreeze (wsV RX2 108 RX2 yX2_passTurn wsX2_passTurn) := goodIn_app (goodIn_of _ (by decide +kernel)) ggX2_makeFreeze_X2_passTurn
theorem dX2_makeFreeze_0 : decode cX2_makeFreeze 0 = .ok (.aload_n 0, 1) := by decide +kernel
theorem dX2_makeFreeze_1 : decode cX2_makeFreeze 1 = .ok (.aload_n 0, 1) := by decide +kernel
theorem dX2_makeFreeze_2 : decode cX2_makeFreeze 2 = .ok (.iload_n 2, 1) := by decide +kernel
theorem dX2_makeFreeze_3 : decode cX2_makeFreeze 3 = .ok (.invokevirtual 98, 3) := by decide +kernel
theorem dX2_makeFreeze_6 : decode cX2_makeFreeze 6 = .ok (.invokevirtual 101, 3) := by decide +kernel
theorem dX2_makeFreeze_9 : decode cX2_makeFreeze 9 = .ok (.aload_n 0, 1) := by decide +kernel
theorem dX2_makeFreeze_10 : decode cX2_makeFreeze 10 = .ok (.getfield 10, 3) := by decide +kernel
theorem dX2_makeFreeze_13 : decode cX2_makeFreeze 13 = .ok (.iload_n 1, 1) := by decide +kernel
theorem dX2_makeFreeze_14 : decode cX2_makeFreeze 14 = .ok (.iload_n 2, 1) := by decide +kernel
theorem dX2_makeFreeze_15 : decode cX2_makeFreeze 15 = .ok (.invokevirtual 105, 3) := by decide +kernel
theorem dX2_makeFreeze_18 : decode cX2_makeFreeze 18 = .ok (.aload_n 0, 1) := by decide +kernel
theorem dX2_makeFreeze_19 : decode cX2_makeFreeze 19 = .ok (.invokevirtual 108, 3) := by decide +kernel
theorem dX2_makeFreeze_22 : decode cX2_makeFreeze 22 = .ok (.return_, 1) := by decide +kernel
set_option maxRecDepth 20000 in
theorem ggX2_makeSwap_X1_isMagic : GoodIn wsX2_makeSwap wsX1_isMagic := goodIn_r _ [8, 9, 10, 11, 7, 12, 13, 14, 15, 16, 17, 18, 19, 20, 21, 22, 23, 24, 25, 26, 27, 28, 29, 30, 31, 32, 33, 34, 35, 36, 37, 38, 128, 129, 130] (by decide +kernel) (by decide +kernel)
set_option maxRecDepth 20000 in
theorem gX2_makeSwap_X1_isMagic : GoodIn wsX2_makeSwap (wsV RX2 111 RX1 yX1_isMagic wsX1_isMagic) := goodIn_app (goodIn_of _ (by decide +kernel)) ggX2_makeSwap_X1_isMagic
set_option maxRecDepth 20000 in
theorem ggX2_makeSwap_X2_priceOfSwap : GoodIn wsX2_makeSwap wsX2_priceOfSwap := goodIn_r _ [43, 44, 45, 46, 42, 47, 48, 119, 120, 121, 122, 123, 124, 125, 126, 127] (by decide +kernel) (by decide +kernel)
set_option maxRecDepth 20000 in
theorem gX2_makeSwap_X2_priceOfSwap : GoodIn wsX2_makeSwap (wsV RX2 115 RX2 yX2_priceOfSwap wsX2_priceOfSwap) := goodIn_app (goodIn_of _ (by decide +kernel)) ggX2_makeSwap_X2_priceOfSwap
set_option maxRecDepth 20000 in
theorem ggX2_makeSwap_X2_payIntoPot : GoodIn wsX2_makeSwap wsX2_payIntoPot := goodIn_r _ [52, 53, 54, 55, 56, 57, 42, 58, 59, 60, 61, 62, 63, 64, 119, 120, 121, 122, 123, 124, 125, 126, 127] (by decide +kernel) (by decide +kernel)
set_option maxRecDepth 20000 in
theorem gX2_makeSwap_X2_payIntoPot : GoodIn wsX2_makeSwap (wsV RX2 101 RX2 yX2_payIntoPot wsX2_payIntoPot) := goodIn_app (goodIn_of _ (by decide +kernel)) ggX2_makeSwap_X2_payIntoPot
set_option maxRecDepth 20000 in
theorem ggX2_makeSwap_X1_exchange : GoodIn wsX2_makeSwap wsX1_exchange := goodIn_r _ [68, 34, 128, 129, 130] (by decide +kernel) (by decide +kernel)
set_option maxRecDepth 20000 in
theorem gX2_makeSwap_X1_exchange : GoodIn wsX2_makeSwap (wsV RX2 118 RX1 yX1_exchange wsX1_exchange) := goodIn_app (goodIn_of _ (by decide +kernel)) ggX2_makeSwap_X1_exchange
set_option maxRecDepth 20000 in
theorem ggX2_makeSwap_X1_thawByOneSwap : GoodIn wsX2_makeSwap wsX1_thawByOneSwap := goodIn_r _ [72, 73, 128, 129, 130] (by decide +kernel) (by decide +kernel)
set_option maxRecDepth 20000 in
theorem gX2_makeSwap_X1_thawByOneSwap : GoodIn wsX2_makeSwap (wsV RX2 121 RX1 yX1_thawByOneSwap wsX1_thawByOneSwap) := goodIn_app (goodIn_of _ (by decide +kernel)) ggX2_makeSwap_X1_thawByOneSwap
set_option maxRecDepth 20000 in
theorem ggX2_makeSwap_X2_settingOf : GoodIn wsX2_makeSwap wsX2_settingOf := goodIn_r _ [47, 48, 119, 120, 121, 122, 123, 124, 125, 126, 127] (by decide +kernel) (by decide +kernel)
set_option maxRecDepth 20000 in
theorem gX2_makeSwap_X2_settingOf : GoodIn wsX2_makeSwap (wsV RX2 59 RX2 yX2_settingOf wsX2_settingOf) := goodIn_app (goodIn_of _ (by decide +kernel)) ggX2_makeSwap_X2_settingOf
set_option maxRecDepth 20000 in
theorem ggX2_makeSwap_X2_settle : GoodIn wsX2_makeSwap wsX2_settle := goodIn_r _ [77, 78, 1, 54, 2, 79, 80, 81, 82, 83, 84, 85, 86, 87, 88, 89, 90, 91, 92, 93, 94, 19, 20, 7, 21, 22, 23, 24, 25, 17, 26, 27, 28, 29, 30, 31, 32, 33, 34, 35, 36, 37, 38, 95, 96, 97, 98, 99, 100, 101, 102, 103, 104, 105, 55, 56, 57, 42, 58, 59, 60, 61, 62, 63, 64, 106, 107, 108, 109, 119, 120, 121, 122, 123, 124, 125, 126, 127, 131, 132, 133, 128, 129, 130] (by decide +kernel) (by decide +kernel)
set_option maxRecDepth 20000 in
theorem gX2_makeSwap_X2_settle : GoodIn wsX2_makeSwap (wsV RX2 124 RX2 yX2_settle wsX2_settle) := goodIn_app (goodIn_of _ (by decide +kernel)) ggX2_makeSwap_X2_settle
set_option maxRecDepth 20000 in
theorem ggX2_makeSwap_X2_winSquare : GoodIn wsX2_makeSwap wsX2_winSquare := goodIn_r _ [113, 53, 114, 54, 55, 56, 57, 42, 58, 59, 60, 61, 62, 63, 64, 119, 120, 121, 122, 123, 124, 125, 126, 127] (by decide +kernel) (by decide +kernel)
set_option maxRecDepth 20000 in
theorem gX2_makeSwap_X2_winSquare : GoodIn wsX2_makeSwap (wsV RX2 127 RX2 yX2_winSquare wsX2_winSquare) := goodIn_app (goodIn_of _ (by decide +kernel)) ggX2_makeSwap_X2_winSquare
set_option maxRecDepth 20000 in
theorem ggX2_makeSwap_X2_passTurn : GoodIn wsX2_makeSwap wsX2_passTurn := goodIn_r _ [118, 53, 119, 120, 121, 122, 123, 124, 125, 126, 127] (by decide +kernel) (by decide +kernel)
set_option maxRecDepth 20000 in
theorem gX2_makeSwap_X2_passTurn : GoodIn wsX2_makeSwap (wsV RX2 108 RX2 yX2_passTurn wsX2_passTurn) := goodIn_app (goodIn_of _ (by decide +kernel)) ggX2_makeSwap_X2_passTurn
theorem dX2_makeSwap_0 : decode cX2_makeSwap 0 = .ok (.aload_n 0, 1) := by decide +kernel
theorem dX2_makeSwap_1 : decode cX2_makeSwap 1 = .ok (.getfield 10, 3) := by decide +kernel
theorem dX2_makeSwap_4 : decode cX2_makeSwap 4 = .ok (.invokevirtual 111, 3) := by decide +kernel
theorem dX2_makeSwap_7 : decode cX2_makeSwap 7 = .ok (.istore_n 3, 1) := by decide +kernel
theorem dX2_makeSwap_8 : decode cX2_makeSwap 8 = .ok (.aload_n 0, 1) := by decide +kernel
theorem dX2_makeSwap_9 : decode cX2_makeSwap 9 = .ok (.aload_n 0, 1) := by decide +kernel
theorem dX2_makeSwap_10 : decode cX2_makeSwap 10 = .ok (.invokevirtual 115, 3) := by decide +kernel
theorem dX2_makeSwap_13 : decode cX2_makeSwap 13 = .ok (.invokevirtual 101, 3) := by decide +kernel
theorem dX2_makeSwap_16 : decode cX2_makeSwap 16 = .ok (.aload_n 0, 1) := by decide +kernel
theorem dX2_makeSwap_17 : decode cX2_makeSwap 17 = .ok (.getfield 10, 3) := by decide +kernel
theorem dX2_makeSwap_20 : decode cX2_makeSwap 20 = .ok (.iload_n 1, 1) := by decide +kernel
theorem dX2_makeSwap_21 : decode cX2_makeSwap 21 = .ok (.iload_n 2, 1) := by decide +kernel
theorem dX2_makeSwap_22 : decode cX2_makeSwap 22 = .ok (.invokevirtual 118, 3) := by decide +kernel
theorem dX2_makeSwap_25 : decode cX2_makeSwap 25 = .ok (.aload_n 0, 1) := by decide +kernel
theorem dX2_makeSwap_26 : decode cX2_makeSwap 26 = .ok (.getfield 10, 3) := by decide +kernel
theorem dX2_makeSwap_29 : decode cX2_makeSwap 29 = .ok (.invokevirtual 121, 3) := by decide +kernel
theorem dX2_makeSwap_32 : decode cX2_makeSwap 32 = .ok (.aload_n 0, 1) := by decide +kernel
theorem dX2_makeSwap_33 : decode cX2_makeSwap 33 = .ok (.dup, 1) := by decide +kernel
theorem dX2_makeSwap_34 : decode cX2_makeSwap 34 = .ok (.getfield 40, 3) := by decide +kernel
theorem dX2_makeSwap_37 : decode cX2_makeSwap 37 = .ok (.iconst 1, 1) := by decide +kernel
theorem dX2_makeSwap_38 : decode cX2_makeSwap 38 = .ok (.iadd, 1) := by decide +kernel
theorem dX2_makeSwap_39 : decode cX2_makeSwap 39 = .ok (.putfield 40, 3) := by decide +kernel
theorem dX2_makeSwap_42 : decode cX2_makeSwap 42 = .ok (.aload_n 0, 1) := by decide +kernel
theorem dX2_makeSwap_43 : decode cX2_makeSwap 43 = .ok (.dup, 1) := by decide +kernel
theorem dX2_makeSwap_44 : decode cX2_makeSwap 44 = .ok (.getfield 43, 3) := by decide +kernel
theorem dX2_makeSwap_47 : decode cX2_makeSwap 47 = .ok (.iconst 1, 1) := by decide +kernel
theorem dX2_makeSwap_48 : decode cX2_makeSwap 48 = .ok (.iadd, 1) := by decide +kernel
theorem dX2_makeSwap_49 : decode cX2_makeSwap 49 = .ok (.putfield 43, 3) := by decide +kernel
theorem dX2_makeSwap_52 : decode cX2_makeSwap 52 = .ok (.aload_n 0, 1) := by decide +kernel
theorem dX2_makeSwap_53 : decode cX2_makeSwap 53 = .ok (.getfield 40, 3) := by decide +kernel
theorem dX2_makeSwap_56 : decode cX2_makeSwap 56 = .ok (.aload_n 0, 1) := by decide +kernel
theorem dX2_makeSwap_57 : decode cX2_makeSwap 57 = .ok (.iconst 0, 1) := by decide +kernel
theorem dX2_makeSwap_58 : decode cX2_makeSwap 58 = .ok (.invokevirtual 59, 3) := by decide +kernel
theorem dX2_makeSwap_61 : decode cX2_makeSwap 61 = .ok (.if_icmp .lt 7, 3) := by decide +kernel
theorem dX2_makeSwap_64 : decode cX2_makeSwap 64 = .ok (.aload_n 0, 1) := by decide +kernel
theorem dX2_makeSwap_65 : decode cX2_makeSwap 65 = .ok (.invokevirtual 124, 3) := by decide +kernel
theorem dX2_makeSwap_68 : decode cX2_makeSwap 68 = .ok (.iload_n 3, 1) := by decide +kernel
theorem dX2_makeSwap_69 : decode cX2_makeSwap 69 = .ok (.ifCond .ne 17, 3) := by decide +kernel
theorem dX2_makeSwap_72 : decode cX2_makeSwap 72 = .ok (.aload_n 0, 1) := by decide +kernel
theorem dX2_makeSwap_73 : decode cX2_makeSwap 73 = .ok (.getfield 10, 3) := by decide +kernel
theorem dX2_makeSwap_76 : decode cX2_makeSwap 76 = .ok (.invokevirtual 111, 3) := by decide +kernel
theorem dX2_makeSwap_79 : decode cX2_makeSwap 79 = .ok (.ifCond .eq 7, 3) := by decide +kernel
theorem dX2_makeSwap_82 : decode cX2_makeSwap 82 = .ok (.aload_n 0, 1) := by decide +kernel
theorem dX2_makeSwap_83 : decode cX2_makeSwap 83 = .ok (.invokevirtual 127, 3) := by decide +kernel
theorem dX2_makeSwap_86 : decode cX2_makeSwap 86 = .ok (.aload_n 0, 1) := by decide +kernel
theorem dX2_makeSwap_87 : decode cX2_makeSwap 87 = .ok (.invokevirtual 108, 3) := by decide +kernel
theorem dX2_makeSwap_90 : decode cX2_makeSwap 90 = .ok (.return_, 1) := by decide +kernel
set_option maxRecDepth 20000 in
theorem ggX2_settle_X3_size : GoodIn wsX2_settle wsX3_size := goodIn_r _ [9, 10, 78, 79, 80] (by decide +kernel) (by decide +kernel)
set_option maxRecDepth 20000 in
theorem gX2_settle_X3_size : GoodIn wsX2_settle (wsV RX2 130 RX3 yX3_size wsX3_size) := goodIn_app (goodIn_of _ (by decide +kernel)) ggX2_settle_X3_size
set_option maxRecDepth 20000 in
theorem ggX2_settle_X3_isRight : GoodIn wsX2_settle wsX3_isRight := goodIn_r _ [14, 15, 16, 17, 8, 18, 19, 20, 21, 22, 23, 24, 25, 26, 27, 28, 29, 30, 31, 32, 33, 34, 35, 36, 37, 38, 39, 40, 41, 42, 43, 78, 79, 80, 81, 82, 83] (by decide +kernel) (by decide +kernel)
set_option maxRecDepth 20000 in
theorem gX2_settle_X3_isRight : GoodIn wsX2_settle (wsV RX2 133 RX3 yX3_isRight wsX3_isRight) := goodIn_app (goodIn_of _ (by decide +kernel)) ggX2_settle_X3_isRight
set_option maxRecDepth 20000 in
theorem ggX2_settle_X3_fact : GoodIn wsX2_settle wsX3_fact := goodIn_r _ [18, 19, 78, 79, 80] (by decide +kernel) (by decide +kernel)
set_option maxRecDepth 20000 in
theorem gX2_settle_X3_fact : GoodIn wsX2_settle (wsV RX2 137 RX3 yX3_fact wsX3_fact) := goodIn_app (goodIn_of _ (by decide +kernel)) ggX2_settle_X3_fact
set_option maxRecDepth 20000 in
theorem ggX2_settle_X3_payout : GoodIn wsX2_settle wsX3_payout := goodIn_r _ [48, 15, 16, 17, 8, 18, 19, 49, 50, 51, 52, 53, 78, 79, 80] (by decide +kernel) (by decide +kernel)
set_option maxRecDepth 20000 in
theorem gX2_settle_X3_payout : GoodIn wsX2_settle (wsV RX2 140 RX3 yX3_payout wsX3_payout) := goodIn_app (goodIn_of _ (by decide +kernel)) ggX2_settle_X3_payout
set_option maxRecDepth 20000 in
theorem ggX2_settle_X2_changePurse : GoodIn wsX2_settle wsX2_changePurse := goodIn_r _ [58, 59, 60, 61, 62, 63, 64, 69, 70, 71, 72, 73, 74, 75, 76, 77] (by decide +kernel) (by decide +kernel)
set_option maxRecDepth 20000 in
theorem gX2_settle_X2_changePurse : GoodIn wsX2_settle (wsV RX2 73 RX2 yX2_changePurse wsX2_changePurse) := goodIn_app (goodIn_of _ (by decide +kernel)) ggX2_settle_X2_changePurse
set_option maxRecDepth 20000 in
theorem ggX2_settle_X3_clear : GoodIn wsX2_settle wsX3_clear := goodIn_r _ [68, 10, 78, 79, 80] (by decide +kernel) (by decide +kernel)
set_option maxRecDepth 20000 in
theorem gX2_settle_X3_clear : GoodIn wsX2_settle (wsV RX2 81 RX3 yX3_clear wsX3_clear) := goodIn_app (goodIn_of _ (by decide +kernel)) ggX2_settle_X3_clear
theorem dX2_settle_0 : decode cX2_settle 0 = .ok (.aload_n 0, 1) := by decide +kernel
theorem dX2_settle_1 : decode cX2_settle 1 = .ok (.getfield 19, 3) := by decide +kernel
theorem dX2_settle_4 : decode cX2_settle 4 = .ok (.invokevirtual 130, 3) := by decide +kernel
theorem dX2_settle_7 : decode cX2_settle 7 = .ok (.istore_n 1, 1) := by decide +kernel
theorem dX2_settle_8 : decode cX2_settle 8 = .ok (.iconst 0, 1) := by decide +kernel
theorem dX2_settle_9 : decode cX2_settle 9 = .ok (.istore_n 2, 1) := by decide +kernel
theorem dX2_settle_10 : decode cX2_settle 10 = .ok (.iload_n 2, 1) := by decide +kernel
theorem dX2_settle_11 : decode cX2_settle 11 = .ok (.iload_n 1, 1) := by decide +kernel
theorem dX2_settle_12 : decode cX2_settle 12 = .ok (.if_icmp .ge 66, 3) := by decide +kernel
theorem dX2_settle_15 : decode cX2_settle 15 = .ok (.aload_n 0, 1) := by decide +kernel
theorem dX2_settle_16 : decode cX2_settle 16 = .ok (.getfield 19, 3) := by decide +kernel
theorem dX2_settle_19 : decode cX2_settle 19 = .ok (.iload_n 2, 1) := by decide +kernel
theorem dX2_settle_20 : decode cX2_settle 20 = .ok (.aload_n 0, 1) := by decide +kernel
theorem dX2_settle_21 : decode cX2_settle 21 = .ok (.getfield 10, 3) := by decide +kernel
theorem dX2_settle_24 : decode cX2_settle 24 = .ok (.invokevirtual 133, 3) := by decide +kernel
theorem dX2_settle_27 : decode cX2_settle 27 = .ok (.ifCond .eq 27, 3) := by decide +kernel
theorem dX2_settle_30 : decode cX2_settle 30 = .ok (.aload_n 0, 1) := by decide +kernel
theorem dX2_settle_31 : decode cX2_settle 31 = .ok (.aload_n 0, 1) := by decide +kernel
theorem dX2_settle_32 : decode cX2_settle 32 = .ok (.getfield 19, 3) := by decide +kernel
theorem dX2_settle_35 : decode cX2_settle 35 = .ok (.iload_n 2, 1) := by decide +kernel
theorem dX2_settle_36 : decode cX2_settle 36 = .ok (.iconst 0, 1) := by decide +kernel
theorem dX2_settle_37 : decode cX2_settle 37 = .ok (.invokevirtual 137, 3) := by decide +kernel
theorem dX2_settle_40 : decode cX2_settle 40 = .ok (.aload_n 0, 1) := by decide +kernel
theorem dX2_settle_41 : decode cX2_settle 41 = .ok (.getfield 19, 3) := by decide +kernel
theorem dX2_settle_44 : decode cX2_settle 44 = .ok (.iload_n 2, 1) := by decide +kernel
theorem dX2_settle_45 : decode cX2_settle 45 = .ok (.invokevirtual 140, 3) := by decide +kernel
theorem dX2_settle_48 : decode cX2_settle 48 = .ok (.invokevirtual 73, 3) := by decide +kernel
theorem dX2_settle_51 : decode cX2_settle 51 = .ok (.goto 21, 3) := by decide +kernel
theorem dX2_settle_54 : decode cX2_settle 54 = .ok (.aload_n 0, 1) := by decide +kernel
theorem dX2_settle_55 : decode cX2_settle 55 = .ok (.dup, 1) := by decide +kernel
theorem dX2_settle_56 : decode cX2_settle 56 = .ok (.getfield 37, 3) := by decide +kernel
theorem dX2_settle_59 : decode cX2_settle 59 = .ok (.aload_n 0, 1) := by decide +kernel
theorem dX2_settle_60 : decode cX2_settle 60 = .ok (.getfield 19, 3) := by decide +kernel
theorem dX2_settle_63 : decode cX2_settle 63 = .ok (.iload_n 2, 1) := by decide +kernel
theorem dX2_settle_64 : decode cX2_settle 64 = .ok (.iconst 3, 1) := by decide +kernel
theorem dX2_settle_65 : decode cX2_settle 65 = .ok (.invokevirtual 137, 3) := by decide +kernel
theorem dX2_settle_68 : decode cX2_settle 68 = .ok (.iadd, 1) := by decide +kernel
theorem dX2_settle_69 : decode cX2_settle 69 = .ok (.putfield 37, 3) := by decide +kernel
theorem dX2_settle_72 : decode cX2_settle 72 = .ok (.iinc 2 1, 3) := by decide +kernel
theorem dX2_settle_75 : decode cX2_settle 75 = .ok (.goto (-65), 3) := by decide +kernel
theorem dX2_settle_78 : decode cX2_settle 78 = .ok (.aload_n 0, 1) := by decide +kernel
theorem dX2_settle_79 : decode cX2_settle 79 = .ok (.getfield 19, 3) := by decide +kernel
theorem dX2_settle_82 : decode cX2_settle 82 = .ok (.invokevirtual 81, 3) := by decide +kernel
theorem dX2_settle_85 : decode cX2_settle 85 = .ok (.aload_n 0, 1) := by decide +kernel
theorem dX2_settle_86 : decode cX2_settle 86 = .ok (.iconst 0, 1) := by decide +kernel
theorem dX2_settle_87 : decode cX2_settle 87 = .ok (.putfield 40, 3) := by decide +kernel
theorem dX2_settle_90 : decode cX2_settle 90 = .ok (.return_, 1) := by decide +kernel
set_option maxRecDepth 20000 in
theorem ggX2_winSquare_X2_changePurse : GoodIn wsX2_winSquare wsX2_changePurse := goodIn_r _ [8, 9, 10, 11, 12, 13, 14, 15, 16, 17, 18, 19, 20, 21, 22, 23] (by decide +kernel) (by decide +kernel)
set_option maxRecDepth 20000 in
theorem gX2_winSquare_X2_changePurse : GoodIn wsX2_winSquare (wsV RX2 73 RX2 yX2_changePurse wsX2_changePurse) := goodIn_app (goodIn_of _ (by decide +kernel)) ggX2_winSquare_X2_changePurse
theorem dX2_winSquare_0 : decode cX2_winSquare 0 = .ok (.aload_n 0, 1) := by decide +kernel
theorem dX2_winSquare_1 : decode cX2_winSquare 1 = .ok (.getfield 33, 3) := by decide +kernel
theorem dX2_winSquare_4 : decode cX2_winSquare 4 = .ok (.ifCond .lt 28, 3) := by decide +kernel
theorem dX2_winSquare_7 : decode cX2_winSquare 7 = .ok (.aload_n 0, 1) := by decide +kernel
theorem dX2_winSquare_8 : decode cX2_winSquare 8 = .ok (.getfield 33, 3) := by decide +kernel
theorem dX2_winSquare_11 : decode cX2_winSquare 11 = .ok (.aload_n 0, 1) := by decide +kernel
theorem dX2_winSquare_12 : decode cX2_winSquare 12 = .ok (.getfield 27, 3) := by decide +kernel
theorem dX2_winSquare_15 : decode cX2_winSquare 15 = .ok (.arraylength, 1) := by decide +kernel
theorem dX2_winSquare_16 : decode cX2_winSquare 16 = .ok (.if_icmp .ge 16, 3) := by decide +kernel
theorem dX2_winSquare_19 : decode cX2_winSquare 19 = .ok (.aload_n 0, 1) := by decide +kernel
theorem dX2_winSquare_20 : decode cX2_winSquare 20 = .ok (.getfield 27, 3) := by decide +kernel
theorem dX2_winSquare_23 : decode cX2_winSquare 23 = .ok (.aload_n 0, 1) := by decide +kernel
theorem dX2_winSquare_24 : decode cX2_winSquare 24 = .ok (.getfield 33, 3) := by decide +kernel
theorem dX2_winSquare_27 : decode cX2_winSquare 27 = .ok (.dup2, 1) := by decide +kernel
theorem dX2_winSquare_28 : decode cX2_winSquare 28 = .ok (.iaload, 1) := by decide +kernel
theorem dX2_winSquare_29 : decode cX2_winSquare 29 = .ok (.iconst 1, 1) := by decide +kernel
theorem dX2_winSquare_30 : decode cX2_winSquare 30 = .ok (.iadd, 1) := by decide +kernel
theorem dX2_winSquare_31 : decode cX2_winSquare 31 = .ok (.iastore, 1) := by decide +kernel
theorem dX2_winSquare_32 : decode cX2_winSquare 32 = .ok (.aload_n 0, 1) := by decide +kernel
theorem dX2_winSquare_33 : decode cX2_winSquare 33 = .ok (.aload_n 0, 1) := by decide +kernel
theorem dX2_winSquare_34 : decode cX2_winSquare 34 = .ok (.getfield 33, 3) := by decide +kernel
theorem dX2_winSquare_37 : decode cX2_winSquare 37 = .ok (.aload_n 0, 1) := by decide +kernel
theorem dX2_winSquare_38 : decode cX2_winSquare 38 = .ok (.getfield 37, 3) := by decide +kernel
theorem dX2_winSquare_41 : decode cX2_winSquare 41 = .ok (.invokevirtual 73, 3) := by decide +kernel
theorem dX2_winSquare_44 : decode cX2_winSquare 44 = .ok (.aload_n 0, 1) := by decide +kernel
theorem dX2_winSquare_45 : decode cX2_winSquare 45 = .ok (.iconst 0, 1) := by decide +kernel
theorem dX2_winSquare_46 : decode cX2_winSquare 46 = .ok (.putfield 37, 3) := by decide +kernel
theorem dX2_winSquare_49 : decode cX2_winSquare 49 = .ok (.return_, 1) := by decide +kernel
theorem dX3_init_0 : decode cX3_init 0 = .ok (.aload_n 0, 1) := by decide +kernel
theorem dX3_init_1 : decode cX3_init 1 = .ok (.invokespecial 1, 3) := by decide +kernel
theorem dX3_init_4 : decode cX3_init 4 = .ok (.aload_n 0, 1) := by decide +kernel
theorem dX3_init_5 : decode cX3_init 5 = .ok (.iconst 0, 1) := by decide +kernel
theorem dX3_init_6 : decode cX3_init 6 = .ok (.putfield 7, 3) := by decide +kernel
theorem dX3_init_9 : decode cX3_init 9 = .ok (.aload_n 0, 1) := by decide +kernel
theorem dX3_init_10 : decode cX3_init 10 = .ok (.bipush 50, 2) := by decide +kernel
theorem dX3_init_12 : decode cX3_init 12 = .ok (.newarray .int, 2) := by decide +kernel
theorem dX3_init_14 : decode cX3_init 14 = .ok (.putfield 13, 3) := by decide +kernel
theorem dX3_init_17 : decode cX3_init 17 = .ok (.aload_n 0, 1) := by decide +kernel
theorem dX3_init_18 : decode cX3_init 18 = .ok (.bipush 10, 2) := by decide +kernel
theorem dX3_init_20 : decode cX3_init 20 = .ok (.newarray .float, 2) := by decide +kernel
theorem dX3_init_22 : decode cX3_init 22 = .ok (.putfield 17, 3) := by decide +kernel
theorem dX3_init_25 : decode cX3_init 25 = .ok (.return_, 1) := by decide +kernel
theorem dX3_takeFrom_0 : decode cX3_takeFrom 0 = .ok (.aload_n 0, 1) := by decide +kernel
theorem dX3_takeFrom_1 : decode cX3_takeFrom 1 = .ok (.aload_n 1, 1) := by decide +kernel
theorem dX3_takeFrom_2 : decode cX3_takeFrom 2 = .ok (.getfield 7, 3) := by decide +kernel
theorem dX3_takeFrom_5 : decode cX3_takeFrom 5 = .ok (.putfield 7, 3) := by decide +kernel
theorem dX3_takeFrom_8 : decode cX3_takeFrom 8 = .ok (.aload_n 1, 1) := by decide +kernel
theorem dX3_takeFrom_9 : decode cX3_takeFrom 9 = .ok (.getfield 13, 3) := by decide +kernel
theorem dX3_takeFrom_12 : decode cX3_takeFrom 12 = .ok (.iconst 0, 1) := by decide +kernel
theorem dX3_takeFrom_13 : decode cX3_takeFrom 13 = .ok (.aload_n 0, 1) := by decide +kernel
theorem dX3_takeFrom_14 : decode cX3_takeFrom 14 = .ok (.getfield 13, 3) := by decide +kernel
theorem dX3_takeFrom_17 : decode cX3_takeFrom 17 = .ok (.iconst 0, 1) := by decide +kernel
theorem dX3_takeFrom_18 : decode cX3_takeFrom 18 = .ok (.bipush 50, 2) := by decide +kernel
theorem dX3_takeFrom_20 : decode cX3_takeFrom 20 = .ok (.invokestatic 21, 3) := by decide +kernel
theorem dX3_takeFrom_23 : decode cX3_takeFrom 23 = .ok (.aload_n 1, 1) := by decide +kernel
theorem dX3_takeFrom_24 : decode cX3_takeFrom 24 = .ok (.getfield 17, 3) := by decide +kernel
theorem dX3_takeFrom_27 : decode cX3_takeFrom 27 = .ok (.iconst 0, 1) := by decide +kernel
theorem dX3_takeFrom_28 : decode cX3_takeFrom 28 = .ok (.aload_n 0, 1) := by decide +kernel
theorem dX3_takeFrom_29 : decode cX3_takeFrom 29 = .ok (.getfield 17, 3) := by decide +kernel
theorem dX3_takeFrom_32 : decode cX3_takeFrom 32 = .ok (.iconst 0, 1) := by decide +kernel
theorem dX3_takeFrom_33 : decode cX3_takeFrom 33 = .ok (.bipush 10, 2) := by decide +kernel
theorem dX3_takeFrom_35 : decode cX3_takeFrom 35 = .ok (.invokestatic 21, 3) := by decide +kernel
theorem dX3_takeFrom_38 : decode cX3_takeFrom 38 = .ok (.return_, 1) := by decide +kernel
theorem dX3_size_0 : decode cX3_size 0 = .ok (.aload_n 0, 1) := by decide +kernel
theorem dX3_size_1 : decode cX3_size 1 = .ok (.getfield 7, 3) := by decide +kernel
theorem dX3_size_4 : decode cX3_size 4 = .ok (.ireturn, 1) := by decide +kernel
theorem dX3_isFull_0 : decode cX3_isFull 0 = .ok (.aload_n 0, 1) := by decide +kernel
theorem dX3_isFull_1 : decode cX3_isFull 1 = .ok (.getfield 7, 3) := by decide +kernel
theorem dX3_isFull_4 : decode cX3_isFull 4 = .ok (.bipush 10, 2) := by decide +kernel
theorem dX3_isFull_6 : decode cX3_isFull 6 = .ok (.if_icmp .lt 7, 3) := by decide +kernel
theorem dX3_isFull_9 : decode cX3_isFull 9 = .ok (.iconst 1, 1) := by decide +kernel
theorem dX3_isFull_10 : decode cX3_isFull 10 = .ok (.goto 4, 3) := by decide +kernel
theorem dX3_isFull_13 : decode cX3_isFull 13 = .ok (.iconst 0, 1) := by decide +kernel
theorem dX3_isFull_14 : decode cX3_isFull 14 = .ok (.ireturn, 1) := by decide +kernel
theorem dX3_hasStake_0 : decode cX3_hasStake 0 = .ok (.iload_n 1, 1) := by decide +kernel
theorem dX3_hasStake_1 : decode cX3_hasStake 1 = .ok (.ifCond .lt 15, 3) := by decide +kernel
theorem dX3_hasStake_4 : decode cX3_hasStake 4 = .ok (.iload_n 1, 1) := by decide +kernel
theorem dX3_hasStake_5 : decode cX3_hasStake 5 = .ok (.aload_n 0, 1) := by decide +kernel
theorem dX3_hasStake_6 : decode cX3_hasStake 6 = .ok (.getfield 7, 3) := by decide +kernel
theorem dX3_hasStake_9 : decode cX3_hasStake 9 = .ok (.if_icmp .ge 7, 3) := by decide +kernel
theorem dX3_hasStake_12 : decode cX3_hasStake 12 = .ok (.iconst 1, 1) := by decide +kernel
theorem dX3_hasStake_13 : decode cX3_hasStake 13 = .ok (.goto 4, 3) := by decide +kernel
theorem dX3_hasStake_16 : decode cX3_hasStake 16 = .ok (.iconst 0, 1) := by decide +kernel
theorem dX3_hasStake_17 : decode cX3_hasStake 17 = .ok (.ireturn, 1) := by decide +kernel
theorem dX3_clear_0 : decode cX3_clear 0 = .ok (.aload_n 0, 1) := by decide +kernel
theorem dX3_clear_1 : decode cX3_clear 1 = .ok (.iconst 0, 1) := by decide +kernel
theorem dX3_clear_2 : decode cX3_clear 2 = .ok (.putfield 7, 3) := by decide +kernel
theorem dX3_clear_5 : decode cX3_clear 5 = .ok (.return_, 1) := by decide +kernel
set_option maxRecDepth 20000 in
theorem ggX3_add_X3_putFact : GoodIn wsX3_add wsX3_putFact := goodIn_r _ [7, 8, 9, 10, 11] (by decide +kernel) (by decide +kernel)
set_option maxRecDepth 20000 in
theorem gX3_add_X3_putFact : GoodIn wsX3_add (wsV RX3 27 RX3 yX3_putFact wsX3_putFact) := goodIn_app (goodIn_of _ (by decide +kernel)) ggX3_add_X3_putFact
theorem dX3_add_0 : decode cX3_add 0 = .ok (.aload_n 0, 1) := by decide +kernel
theorem dX3_add_1 : decode cX3_add 1 = .ok (.getfield 7, 3) := by decide +kernel
theorem dX3_add_4 : decode cX3_add 4 = .ok (.ifCond .lt 15, 3) := by decide +kernel
theorem dX3_add_7 : decode cX3_add 7 = .ok (.aload_n 0, 1) := by decide +kernel
theorem dX3_add_8 : decode cX3_add 8 = .ok (.getfield 7, 3) := by decide +kernel
theorem dX3_add_11 : decode cX3_add 11 = .ok (.aload_n 0, 1) := by decide +kernel
theorem dX3_add_12 : decode cX3_add 12 = .ok (.getfield 17, 3) := by decide +kernel
theorem dX3_add_15 : decode cX3_add 15 = .ok (.arraylength, 1) := by decide +kernel
theorem dX3_add_16 : decode cX3_add 16 = .ok (.if_icmp .lt 4, 3) := by decide +kernel
theorem dX3_add_19 : decode cX3_add 19 = .ok (.return_, 1) := by decide +kernel
theorem dX3_add_20 : decode cX3_add 20 = .ok (.aload_n 0, 1) := by decide +kernel
theorem dX3_add_21 : decode cX3_add 21 = .ok (.getfield 17, 3) := by decide +kernel
theorem dX3_add_24 : decode cX3_add 24 = .ok (.aload_n 0, 1) := by decide +kernel
theorem dX3_add_25 : decode cX3_add 25 = .ok (.getfield 7, 3) := by decide +kernel
theorem dX3_add_28 : decode cX3_add 28 = .ok (.fload 6, 2) := by decide +kernel
theorem dX3_add_30 : decode cX3_add 30 = .ok (.fastore, 1) := by decide +kernel
theorem dX3_add_31 : decode cX3_add 31 = .ok (.aload_n 0, 1) := by decide +kernel
theorem dX3_add_32 : decode cX3_add 32 = .ok (.aload_n 0, 1) := by decide +kernel
