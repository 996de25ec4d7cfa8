theorem dX0_init_0 : decode cX0_init 0 = .ok (.aload_n 0, 1) := by decide +kernel
theorem dX0_init_1 : decode cX0_init 1 = .ok (.invokespecial 1, 3) := by decide +kernel
theorem dX0_init_4 : decode cX0_init 4 = .ok (.aload_n 0, 1) := by decide +kernel
theorem dX0_init_5 : decode cX0_init 5 = .ok (.iconst 4, 1) := by decide +kernel
theorem dX0_init_6 : decode cX0_init 6 = .ok (.anewarray 9, 3) := by decide +kernel
theorem dX0_init_9 : decode cX0_init 9 = .ok (.putfield 11, 3) := by decide +kernel
theorem dX0_init_12 : decode cX0_init 12 = .ok (.aload_n 0, 1) := by decide +kernel
theorem dX0_init_13 : decode cX0_init 13 = .ok (.iconst 0, 1) := by decide +kernel
theorem dX0_init_14 : decode cX0_init 14 = .ok (.putfield 15, 3) := by decide +kernel
theorem dX0_init_17 : decode cX0_init 17 = .ok (.iconst 0, 1) := by decide +kernel
theorem dX0_init_18 : decode cX0_init 18 = .ok (.istore_n 1, 1) := by decide +kernel
theorem dX0_init_19 : decode cX0_init 19 = .ok (.iload_n 1, 1) := by decide +kernel
theorem dX0_init_20 : decode cX0_init 20 = .ok (.aload_n 0, 1) := by decide +kernel
theorem dX0_init_21 : decode cX0_init 21 = .ok (.getfield 11, 3) := by decide +kernel
theorem dX0_init_24 : decode cX0_init 24 = .ok (.arraylength, 1) := by decide +kernel
theorem dX0_init_25 : decode cX0_init 25 = .ok (.if_icmp .ge 22, 3) := by decide +kernel
theorem dX0_init_28 : decode cX0_init 28 = .ok (.aload_n 0, 1) := by decide +kernel
theorem dX0_init_29 : decode cX0_init 29 = .ok (.getfield 11, 3) := by decide +kernel
theorem dX0_init_32 : decode cX0_init 32 = .ok (.iload_n 1, 1) := by decide +kernel
theorem dX0_init_33 : decode cX0_init 33 = .ok (.new 9, 3) := by decide +kernel
theorem dX0_init_36 : decode cX0_init 36 = .ok (.dup, 1) := by decide +kernel
theorem dX0_init_37 : decode cX0_init 37 = .ok (.invokespecial 19, 3) := by decide +kernel
theorem dX0_init_40 : decode cX0_init 40 = .ok (.aastore, 1) := by decide +kernel
theorem dX0_init_41 : decode cX0_init 41 = .ok (.iinc 1 1, 3) := by decide +kernel
theorem dX0_init_44 : decode cX0_init 44 = .ok (.goto (-25), 3) := by decide +kernel
theorem dX0_init_47 : decode cX0_init 47 = .ok (.return_, 1) := by decide +kernel
theorem dX0_size_0 : decode cX0_size 0 = .ok (.aload_n 0, 1) := by decide +kernel
theorem dX0_size_1 : decode cX0_size 1 = .ok (.getfield 15, 3) := by decide +kernel
theorem dX0_size_4 : decode cX0_size 4 = .ok (.ireturn, 1) := by decide +kernel
set_option maxRecDepth 20000 in
theorem ggX0_record_X0_dropOldest : GoodIn wsX0_record wsX0_dropOldest := goodIn_r _ [7, 2, 1, 8, 9, 10, 6, 11, 48, 49] (by decide +kernel) (by decide +kernel)
set_option maxRecDepth 20000 in
theorem gX0_record_X0_dropOldest : GoodIn wsX0_record (wsV RX0 20 RX0 yX0_dropOldest wsX0_dropOldest) := goodIn_app (goodIn_of _ (by decide +kernel)) ggX0_record_X0_dropOldest
set_option maxRecDepth 20000 in
theorem ggX0_record_X0_rowAt : GoodIn wsX0_record wsX0_rowAt := goodIn_r _ [11, 2, 48, 49] (by decide +kernel) (by decide +kernel)
set_option maxRecDepth 20000 in
theorem gX0_record_X0_rowAt : GoodIn wsX0_record (wsV RX0 23 RX0 yX0_rowAt wsX0_rowAt) := goodIn_app (goodIn_of _ (by decide +kernel)) ggX0_record_X0_rowAt
set_option maxRecDepth 20000 in
theorem ggX0_record_X2_takeFrom : GoodIn wsX0_record wsX2_takeFrom := goodIn_r _ [16, 17, 18, 19, 20, 21, 22, 23, 24, 25, 26, 27, 28, 29, 30, 31, 32, 33, 34, 35, 36, 37, 38, 39, 40, 41, 42, 43, 44, 45, 46, 47, 50, 51, 52, 53, 54, 55, 56, 57, 58, 59, 60, 61, 62, 63, 64] (by decide +kernel) (by decide +kernel)
set_option maxRecDepth 20000 in
theorem gX0_record_X2_takeFrom : GoodIn wsX0_record (wsV RX0 27 RX2 yX2_takeFrom wsX2_takeFrom) := goodIn_app (goodIn_of _ (by decide +kernel)) ggX0_record_X2_takeFrom
theorem dX0_record_0 : decode cX0_record 0 = .ok (.aload_n 0, 1) := by decide +kernel
theorem dX0_record_1 : decode cX0_record 1 = .ok (.getfield 15, 3) := by decide +kernel
theorem dX0_record_4 : decode cX0_record 4 = .ok (.aload_n 0, 1) := by decide +kernel
theorem dX0_record_5 : decode cX0_record 5 = .ok (.getfield 11, 3) := by decide +kernel
theorem dX0_record_8 : decode cX0_record 8 = .ok (.arraylength, 1) := by decide +kernel
theorem dX0_record_9 : decode cX0_record 9 = .ok (.if_icmp .lt 7, 3) := by decide +kernel
theorem dX0_record_12 : decode cX0_record 12 = .ok (.aload_n 0, 1) := by decide +kernel
theorem dX0_record_13 : decode cX0_record 13 = .ok (.invokevirtual 20, 3) := by decide +kernel
theorem dX0_record_16 : decode cX0_record 16 = .ok (.aload_n 0, 1) := by decide +kernel
theorem dX0_record_17 : decode cX0_record 17 = .ok (.aload_n 0, 1) := by decide +kernel
theorem dX0_record_18 : decode cX0_record 18 = .ok (.getfield 15, 3) := by decide +kernel
theorem dX0_record_21 : decode cX0_record 21 = .ok (.invokevirtual 23, 3) := by decide +kernel
theorem dX0_record_24 : decode cX0_record 24 = .ok (.astore_n 2, 1) := by decide +kernel
theorem dX0_record_25 : decode cX0_record 25 = .ok (.aload_n 2, 1) := by decide +kernel
theorem dX0_record_26 : decode cX0_record 26 = .ok (.ifnull 18, 3) := by decide +kernel
theorem dX0_record_29 : decode cX0_record 29 = .ok (.aload_n 2, 1) := by decide +kernel
theorem dX0_record_30 : decode cX0_record 30 = .ok (.aload_n 1, 1) := by decide +kernel
theorem dX0_record_31 : decode cX0_record 31 = .ok (.invokevirtual 27, 3) := by decide +kernel
theorem dX0_record_34 : decode cX0_record 34 = .ok (.aload_n 0, 1) := by decide +kernel
theorem dX0_record_35 : decode cX0_record 35 = .ok (.dup, 1) := by decide +kernel
theorem dX0_record_36 : decode cX0_record 36 = .ok (.getfield 15, 3) := by decide +kernel
theorem dX0_record_39 : decode cX0_record 39 = .ok (.iconst 1, 1) := by decide +kernel
theorem dX0_record_40 : decode cX0_record 40 = .ok (.iadd, 1) := by decide +kernel
theorem dX0_record_41 : decode cX0_record 41 = .ok (.putfield 15, 3) := by decide +kernel
theorem dX0_record_44 : decode cX0_record 44 = .ok (.return_, 1) := by decide +kernel
set_option maxRecDepth 20000 in
theorem ggX0_couldTakeBack_X0_rowAt : GoodIn wsX0_couldTakeBack wsX0_rowAt := goodIn_r _ [6, 7, 44, 45] (by decide +kernel) (by decide +kernel)
set_option maxRecDepth 20000 in
theorem gX0_couldTakeBack_X0_rowAt : GoodIn wsX0_couldTakeBack (wsV RX0 23 RX0 yX0_rowAt wsX0_rowAt) := goodIn_app (goodIn_of _ (by decide +kernel)) ggX0_couldTakeBack_X0_rowAt
set_option maxRecDepth 20000 in
theorem ggX0_couldTakeBack_X2_takeFrom : GoodIn wsX0_couldTakeBack wsX2_takeFrom := goodIn_r _ [12, 13, 14, 15, 16, 17, 18, 19, 20, 21, 22, 23, 24, 25, 26, 27, 28, 29, 30, 31, 32, 33, 34, 35, 36, 37, 38, 39, 40, 41, 42, 43, 46, 47, 48, 49, 50, 51, 52, 53, 54, 55, 56, 57, 58, 59, 60] (by decide +kernel) (by decide +kernel)
set_option maxRecDepth 20000 in
theorem gX0_couldTakeBack_X2_takeFrom : GoodIn wsX0_couldTakeBack (wsV RX0 27 RX2 yX2_takeFrom wsX2_takeFrom) := goodIn_app (goodIn_of _ (by decide +kernel)) ggX0_couldTakeBack_X2_takeFrom
theorem dX0_couldTakeBack_0 : decode cX0_couldTakeBack 0 = .ok (.aload_n 0, 1) := by decide +kernel
theorem dX0_couldTakeBack_1 : decode cX0_couldTakeBack 1 = .ok (.aload_n 0, 1) := by decide +kernel
theorem dX0_couldTakeBack_2 : decode cX0_couldTakeBack 2 = .ok (.getfield 15, 3) := by decide +kernel
theorem dX0_couldTakeBack_5 : decode cX0_couldTakeBack 5 = .ok (.iconst 1, 1) := by decide +kernel
theorem dX0_couldTakeBack_6 : decode cX0_couldTakeBack 6 = .ok (.isub, 1) := by decide +kernel
theorem dX0_couldTakeBack_7 : decode cX0_couldTakeBack 7 = .ok (.invokevirtual 23, 3) := by decide +kernel
theorem dX0_couldTakeBack_10 : decode cX0_couldTakeBack 10 = .ok (.astore_n 2, 1) := by decide +kernel
theorem dX0_couldTakeBack_11 : decode cX0_couldTakeBack 11 = .ok (.aload_n 2, 1) := by decide +kernel
theorem dX0_couldTakeBack_12 : decode cX0_couldTakeBack 12 = .ok (.ifnonnull 5, 3) := by decide +kernel
theorem dX0_couldTakeBack_15 : decode cX0_couldTakeBack 15 = .ok (.iconst 0, 1) := by decide +kernel
theorem dX0_couldTakeBack_16 : decode cX0_couldTakeBack 16 = .ok (.ireturn, 1) := by decide +kernel
theorem dX0_couldTakeBack_17 : decode cX0_couldTakeBack 17 = .ok (.aload_n 1, 1) := by decide +kernel
theorem dX0_couldTakeBack_18 : decode cX0_couldTakeBack 18 = .ok (.aload_n 2, 1) := by decide +kernel
theorem dX0_couldTakeBack_19 : decode cX0_couldTakeBack 19 = .ok (.invokevirtual 27, 3) := by decide +kernel
theorem dX0_couldTakeBack_22 : decode cX0_couldTakeBack 22 = .ok (.aload_n 0, 1) := by decide +kernel
theorem dX0_couldTakeBack_23 : decode cX0_couldTakeBack 23 = .ok (.dup, 1) := by decide +kernel
theorem dX0_couldTakeBack_24 : decode cX0_couldTakeBack 24 = .ok (.getfield 15, 3) := by decide +kernel
theorem dX0_couldTakeBack_27 : decode cX0_couldTakeBack 27 = .ok (.iconst 1, 1) := by decide +kernel
theorem dX0_couldTakeBack_28 : decode cX0_couldTakeBack 28 = .ok (.isub, 1) := by decide +kernel
theorem dX0_couldTakeBack_29 : decode cX0_couldTakeBack 29 = .ok (.putfield 15, 3) := by decide +kernel
theorem dX0_couldTakeBack_32 : decode cX0_couldTakeBack 32 = .ok (.iconst 1, 1) := by decide +kernel
theorem dX0_couldTakeBack_33 : decode cX0_couldTakeBack 33 = .ok (.ireturn, 1) := by decide +kernel
theorem dX0_rowAt_0 : decode cX0_rowAt 0 = .ok (.iload_n 1, 1) := by decide +kernel
theorem dX0_rowAt_1 : decode cX0_rowAt 1 = .ok (.ifCond .lt 21, 3) := by decide +kernel
theorem dX0_rowAt_4 : decode cX0_rowAt 4 = .ok (.iload_n 1, 1) := by decide +kernel
theorem dX0_rowAt_5 : decode cX0_rowAt 5 = .ok (.aload_n 0, 1) := by decide +kernel
theorem dX0_rowAt_6 : decode cX0_rowAt 6 = .ok (.getfield 11, 3) := by decide +kernel
theorem dX0_rowAt_9 : decode cX0_rowAt 9 = .ok (.arraylength, 1) := by decide +kernel
theorem dX0_rowAt_10 : decode cX0_rowAt 10 = .ok (.if_icmp .ge 12, 3) := by decide +kernel
theorem dX0_rowAt_13 : decode cX0_rowAt 13 = .ok (.aload_n 0, 1) := by decide +kernel
theorem dX0_rowAt_14 : decode cX0_rowAt 14 = .ok (.getfield 11, 3) := by decide +kernel
theorem dX0_rowAt_17 : decode cX0_rowAt 17 = .ok (.iload_n 1, 1) := by decide +kernel
theorem dX0_rowAt_18 : decode cX0_rowAt 18 = .ok (.aaload, 1) := by decide +kernel
theorem dX0_rowAt_19 : decode cX0_rowAt 19 = .ok (.goto 4, 3) := by decide +kernel
theorem dX0_rowAt_22 : decode cX0_rowAt 22 = .ok (.aconst_null, 1) := by decide +kernel
theorem dX0_rowAt_23 : decode cX0_rowAt 23 = .ok (.areturn, 1) := by decide +kernel
set_option maxRecDepth 20000 in
theorem ggX0_dropOldest_X0_rowAt : GoodIn wsX0_dropOldest wsX0_rowAt := goodIn_r _ [7, 1, 8, 9] (by decide +kernel) (by decide +kernel)
set_option maxRecDepth 20000 in
theorem gX0_dropOldest_X0_rowAt : GoodIn wsX0_dropOldest (wsV RX0 23 RX0 yX0_rowAt wsX0_rowAt) := goodIn_app (goodIn_of _ (by decide +kernel)) ggX0_dropOldest_X0_rowAt
theorem dX0_dropOldest_0 : decode cX0_dropOldest 0 = .ok (.aload_n 0, 1) := by decide +kernel
theorem dX0_dropOldest_1 : decode cX0_dropOldest 1 = .ok (.iconst 0, 1) := by decide +kernel
theorem dX0_dropOldest_2 : decode cX0_dropOldest 2 = .ok (.invokevirtual 23, 3) := by decide +kernel
theorem dX0_dropOldest_5 : decode cX0_dropOldest 5 = .ok (.astore_n 1, 1) := by decide +kernel
theorem dX0_dropOldest_6 : decode cX0_dropOldest 6 = .ok (.iconst 1, 1) := by decide +kernel
theorem dX0_dropOldest_7 : decode cX0_dropOldest 7 = .ok (.istore_n 2, 1) := by decide +kernel
theorem dX0_dropOldest_8 : decode cX0_dropOldest 8 = .ok (.iload_n 2, 1) := by decide +kernel
theorem dX0_dropOldest_9 : decode cX0_dropOldest 9 = .ok (.aload_n 0, 1) := by decide +kernel
theorem dX0_dropOldest_10 : decode cX0_dropOldest 10 = .ok (.getfield 11, 3) := by decide +kernel
theorem dX0_dropOldest_13 : decode cX0_dropOldest 13 = .ok (.arraylength, 1) := by decide +kernel
theorem dX0_dropOldest_14 : decode cX0_dropOldest 14 = .ok (.if_icmp .ge 30, 3) := by decide +kernel
theorem dX0_dropOldest_17 : decode cX0_dropOldest 17 = .ok (.aload_n 0, 1) := by decide +kernel
theorem dX0_dropOldest_18 : decode cX0_dropOldest 18 = .ok (.getfield 11, 3) := by decide +kernel
theorem dX0_dropOldest_21 : decode cX0_dropOldest 21 = .ok (.iload_n 2, 1) := by decide +kernel
theorem dX0_dropOldest_22 : decode cX0_dropOldest 22 = .ok (.iconst 1, 1) := by decide +kernel
theorem dX0_dropOldest_23 : decode cX0_dropOldest 23 = .ok (.isub, 1) := by decide +kernel
theorem dX0_dropOldest_24 : decode cX0_dropOldest 24 = .ok (.aload_n 0, 1) := by decide +kernel
theorem dX0_dropOldest_25 : decode cX0_dropOldest 25 = .ok (.getfield 11, 3) := by decide +kernel
theorem dX0_dropOldest_28 : decode cX0_dropOldest 28 = .ok (.iload_n 2, 1) := by decide +kernel
theorem dX0_dropOldest_29 : decode cX0_dropOldest 29 = .ok (.aaload, 1) := by decide +kernel
theorem dX0_dropOldest_30 : decode cX0_dropOldest 30 = .ok (.aastore, 1) := by decide +kernel
theorem dX0_dropOldest_31 : decode cX0_dropOldest 31 = .ok (.aload_n 0, 1) := by decide +kernel
theorem dX0_dropOldest_32 : decode cX0_dropOldest 32 = .ok (.getfield 11, 3) := by decide +kernel
theorem dX0_dropOldest_35 : decode cX0_dropOldest 35 = .ok (.iload_n 2, 1) := by decide +kernel
theorem dX0_dropOldest_36 : decode cX0_dropOldest 36 = .ok (.aload_n 1, 1) := by decide +kernel
theorem dX0_dropOldest_37 : decode cX0_dropOldest 37 = .ok (.aastore, 1) := by decide +kernel
theorem dX0_dropOldest_38 : decode cX0_dropOldest 38 = .ok (.iinc 2 1, 3) := by decide +kernel
theorem dX0_dropOldest_41 : decode cX0_dropOldest 41 = .ok (.goto (-33), 3) := by decide +kernel
theorem dX0_dropOldest_44 : decode cX0_dropOldest 44 = .ok (.aload_n 0, 1) := by decide +kernel
theorem dX0_dropOldest_45 : decode cX0_dropOldest 45 = .ok (.dup, 1) := by decide +kernel
theorem dX0_dropOldest_46 : decode cX0_dropOldest 46 = .ok (.getfield 15, 3) := by decide +kernel
theorem dX0_dropOldest_49 : decode cX0_dropOldest 49 = .ok (.iconst 1, 1) := by decide +kernel
theorem dX0_dropOldest_50 : decode cX0_dropOldest 50 = .ok (.isub, 1) := by decide +kernel
theorem dX0_dropOldest_51 : decode cX0_dropOldest 51 = .ok (.putfield 15, 3) := by decide +kernel
theorem dX0_dropOldest_54 : decode cX0_dropOldest 54 = .ok (.return_, 1) := by decide +kernel
theorem dX1_init_0 : decode cX1_init 0 = .ok (.aload_n 0, 1) := by decide +kernel
theorem dX1_init_1 : decode cX1_init 1 = .ok (.invokespecial 3, 3) := by decide +kernel
theorem dX1_init_4 : decode cX1_init 4 = .ok (.aload_n 0, 1) := by decide +kernel
theorem dX1_init_5 : decode cX1_init 5 = .ok (.iconst 3, 1) := by decide +kernel
theorem dX1_init_6 : decode cX1_init 6 = .ok (.putfield 11, 3) := by decide +kernel
theorem dX1_init_9 : decode cX1_init 9 = .ok (.aload_n 0, 1) := by decide +kernel
theorem dX1_init_10 : decode cX1_init 10 = .ok (.bipush 16, 2) := by decide +kernel
theorem dX1_init_12 : decode cX1_init 12 = .ok (.newarray .int, 2) := by decide +kernel
theorem dX1_init_14 : decode cX1_init 14 = .ok (.putfield 15, 3) := by decide +kernel
theorem dX1_init_17 : decode cX1_init 17 = .ok (.aload_n 0, 1) := by decide +kernel
theorem dX1_init_18 : decode cX1_init 18 = .ok (.bipush 16, 2) := by decide +kernel
theorem dX1_init_20 : decode cX1_init 20 = .ok (.newarray .int, 2) := by decide +kernel
theorem dX1_init_22 : decode cX1_init 22 = .ok (.putfield 19, 3) := by decide +kernel
theorem dX1_init_25 : decode cX1_init 25 = .ok (.iconst 0, 1) := by decide +kernel
theorem dX1_init_26 : decode cX1_init 26 = .ok (.istore_n 1, 1) := by decide +kernel
theorem dX1_init_27 : decode cX1_init 27 = .ok (.iload_n 1, 1) := by decide +kernel
theorem dX1_init_28 : decode cX1_init 28 = .ok (.aload_n 0, 1) := by decide +kernel
theorem dX1_init_29 : decode cX1_init 29 = .ok (.getfield 15, 3) := by decide +kernel
theorem dX1_init_32 : decode cX1_init 32 = .ok (.arraylength, 1) := by decide +kernel
theorem dX1_init_33 : decode cX1_init 33 = .ok (.if_icmp .ge 18, 3) := by decide +kernel
theorem dX1_init_36 : decode cX1_init 36 = .ok (.aload_n 0, 1) := by decide +kernel
theorem dX1_init_37 : decode cX1_init 37 = .ok (.getfield 15, 3) := by decide +kernel
theorem dX1_init_40 : decode cX1_init 40 = .ok (.iload_n 1, 1) := by decide +kernel
theorem dX1_init_41 : decode cX1_init 41 = .ok (.iload_n 1, 1) := by decide +kernel
theorem dX1_init_42 : decode cX1_init 42 = .ok (.iconst 1, 1) := by decide +kernel
theorem dX1_init_43 : decode cX1_init 43 = .ok (.iadd, 1) := by decide +kernel
theorem dX1_init_44 : decode cX1_init 44 = .ok (.iastore, 1) := by decide +kernel
theorem dX1_init_45 : decode cX1_init 45 = .ok (.iinc 1 1, 3) := by decide +kernel
theorem dX1_init_48 : decode cX1_init 48 = .ok (.goto (-21), 3) := by decide +kernel
theorem dX1_init_51 : decode cX1_init 51 = .ok (.return_, 1) := by decide +kernel
theorem dX1_takeFrom_0 : decode cX1_takeFrom 0 = .ok (.aload_n 0, 1) := by decide +kernel
theorem dX1_takeFrom_1 : decode cX1_takeFrom 1 = .ok (.aload_n 1, 1) := by decide +kernel
theorem dX1_takeFrom_2 : decode cX1_takeFrom 2 = .ok (.getfield 11, 3) := by decide +kernel
theorem dX1_takeFrom_5 : decode cX1_takeFrom 5 = .ok (.putfield 11, 3) := by decide +kernel
theorem dX1_takeFrom_8 : decode cX1_takeFrom 8 = .ok (.aload_n 1, 1) := by decide +kernel
theorem dX1_takeFrom_9 : decode cX1_takeFrom 9 = .ok (.getfield 15, 3) := by decide +kernel
theorem dX1_takeFrom_12 : decode cX1_takeFrom 12 = .ok (.iconst 0, 1) := by decide +kernel
theorem dX1_takeFrom_13 : decode cX1_takeFrom 13 = .ok (.aload_n 0, 1) := by decide +kernel
theorem dX1_takeFrom_14 : decode cX1_takeFrom 14 = .ok (.getfield 15, 3) := by decide +kernel
theorem dX1_takeFrom_17 : decode cX1_takeFrom 17 = .ok (.iconst 0, 1) := by decide +kernel
theorem dX1_takeFrom_18 : decode cX1_takeFrom 18 = .ok (.bipush 16, 2) := by decide +kernel
theorem dX1_takeFrom_20 : decode cX1_takeFrom 20 = .ok (.invokestatic 22, 3) := by decide +kernel
theorem dX1_takeFrom_23 : decode cX1_takeFrom 23 = .ok (.aload_n 1, 1) := by decide +kernel
theorem dX1_takeFrom_24 : decode cX1_takeFrom 24 = .ok (.getfield 19, 3) := by decide +kernel
theorem dX1_takeFrom_27 : decode cX1_takeFrom 27 = .ok (.iconst 0, 1) := by decide +kernel
theorem dX1_takeFrom_28 : decode cX1_takeFrom 28 = .ok (.aload_n 0, 1) := by decide +kernel
theorem dX1_takeFrom_29 : decode cX1_takeFrom 29 = .ok (.getfield 19, 3) := by decide +kernel
theorem dX1_takeFrom_32 : decode cX1_takeFrom 32 = .ok (.iconst 0, 1) := by decide +kernel
theorem dX1_takeFrom_33 : decode cX1_takeFrom 33 = .ok (.bipush 16, 2) := by decide +kernel
theorem dX1_takeFrom_35 : decode cX1_takeFrom 35 = .ok (.invokestatic 22, 3) := by decide +kernel
theorem dX1_takeFrom_38 : decode cX1_takeFrom 38 = .ok (.return_, 1) := by decide +kernel
theorem dX1_side_0 : decode cX1_side 0 = .ok (.aload_n 0, 1) := by decide +kernel
theorem dX1_side_1 : decode cX1_side 1 = .ok (.getfield 11, 3) := by decide +kernel
theorem dX1_side_4 : decode cX1_side 4 = .ok (.ireturn, 1) := by decide +kernel
theorem dX1_cells_0 : decode cX1_cells 0 = .ok (.aload_n 0, 1) := by decide +kernel
theorem dX1_cells_1 : decode cX1_cells 1 = .ok (.getfield 11, 3) := by decide +kernel
theorem dX1_cells_4 : decode cX1_cells 4 = .ok (.aload_n 0, 1) := by decide +kernel
theorem dX1_cells_5 : decode cX1_cells 5 = .ok (.getfield 11, 3) := by decide +kernel
theorem dX1_cells_8 : decode cX1_cells 8 = .ok (.imul, 1) := by decide +kernel
theorem dX1_cells_9 : decode cX1_cells 9 = .ok (.ireturn, 1) := by decide +kernel
theorem dX1_lines_0 : decode cX1_lines 0 = .ok (.iconst 2, 1) := by decide +kernel
theorem dX1_lines_1 : decode cX1_lines 1 = .ok (.aload_n 0, 1) := by decide +kernel
theorem dX1_lines_2 : decode cX1_lines 2 = .ok (.getfield 11, 3) := by decide +kernel
theorem dX1_lines_5 : decode cX1_lines 5 = .ok (.imul, 1) := by decide +kernel
theorem dX1_lines_6 : decode cX1_lines 6 = .ok (.iconst 2, 1) := by decide +kernel
theorem dX1_lines_7 : decode cX1_lines 7 = .ok (.iadd, 1) := by decide +kernel
theorem dX1_lines_8 : decode cX1_lines 8 = .ok (.ireturn, 1) := by decide +kernel
theorem dX1_magicNumber_0 : decode cX1_magicNumber 0 = .ok (.aload_n 0, 1) := by decide +kernel
theorem dX1_magicNumber_1 : decode cX1_magicNumber 1 = .ok (.getfield 11, 3) := by decide +kernel
theorem dX1_magicNumber_4 : decode cX1_magicNumber 4 = .ok (.aload_n 0, 1) := by decide +kernel
theorem dX1_magicNumber_5 : decode cX1_magicNumber 5 = .ok (.getfield 11, 3) := by decide +kernel
theorem dX1_magicNumber_8 : decode cX1_magicNumber 8 = .ok (.aload_n 0, 1) := by decide +kernel
theorem dX1_magicNumber_9 : decode cX1_magicNumber 9 = .ok (.getfield 11, 3) := by decide +kernel
theorem dX1_magicNumber_12 : decode cX1_magicNumber 12 = .ok (.imul, 1) := by decide +kernel
theorem dX1_magicNumber_13 : decode cX1_magicNumber 13 = .ok (.iconst 1, 1) := by decide +kernel
theorem dX1_magicNumber_14 : decode cX1_magicNumber 14 = .ok (.iadd, 1) := by decide +kernel
theorem dX1_magicNumber_15 : decode cX1_magicNumber 15 = .ok (.imul, 1) := by decide +kernel
theorem dX1_magicNumber_16 : decode cX1_magicNumber 16 = .ok (.iconst 2, 1) := by decide +kernel
theorem dX1_magicNumber_17 : decode cX1_magicNumber 17 = .ok (.idiv, 1) := by decide +kernel
theorem dX1_magicNumber_18 : decode cX1_magicNumber 18 = .ok (.ireturn, 1) := by decide +kernel
set_option maxRecDepth 20000 in
theorem ggX1_hasCell_X1_cells : GoodIn wsX1_hasCell wsX1_cells := goodIn_r _ [5, 6, 7, 8, 9] (by decide +kernel) (by decide +kernel)
set_option maxRecDepth 20000 in
theorem gX1_hasCell_X1_cells : GoodIn wsX1_hasCell (wsV RX1 28 RX1 yX1_cells wsX1_cells) := goodIn_app (goodIn_of _ (by decide +kernel)) ggX1_hasCell_X1_cells
theorem dX1_hasCell_0 : decode cX1_hasCell 0 = .ok (.iload_n 1, 1) := by decide +kernel
theorem dX1_hasCell_1 : decode cX1_hasCell 1 = .ok (.ifCond .lt 15, 3) := by decide +kernel
theorem dX1_hasCell_4 : decode cX1_hasCell 4 = .ok (.iload_n 1, 1) := by decide +kernel
theorem dX1_hasCell_5 : decode cX1_hasCell 5 = .ok (.aload_n 0, 1) := by decide +kernel
theorem dX1_hasCell_6 : decode cX1_hasCell 6 = .ok (.invokevirtual 28, 3) := by decide +kernel
theorem dX1_hasCell_9 : decode cX1_hasCell 9 = .ok (.if_icmp .ge 7, 3) := by decide +kernel
theorem dX1_hasCell_12 : decode cX1_hasCell 12 = .ok (.iconst 1, 1) := by decide +kernel
theorem dX1_hasCell_13 : decode cX1_hasCell 13 = .ok (.goto 4, 3) := by decide +kernel
theorem dX1_hasCell_16 : decode cX1_hasCell 16 = .ok (.iconst 0, 1) := by decide +kernel
theorem dX1_hasCell_17 : decode cX1_hasCell 17 = .ok (.ireturn, 1) := by decide +kernel
set_option maxRecDepth 20000 in
theorem ggX1_hasLine_X1_lines : GoodIn wsX1_hasLine wsX1_lines := goodIn_r _ [5, 6, 7, 8, 9] (by decide +kernel) (by decide +kernel)
set_option maxRecDepth 20000 in
theorem gX1_hasLine_X1_lines : GoodIn wsX1_hasLine (wsV RX1 32 RX1 yX1_lines wsX1_lines) := goodIn_app (goodIn_of _ (by decide +kernel)) ggX1_hasLine_X1_lines
theorem dX1_hasLine_0 : decode cX1_hasLine 0 = .ok (.iload_n 1, 1) := by decide +kernel
theorem dX1_hasLine_1 : decode cX1_hasLine 1 = .ok (.ifCond .lt 15, 3) := by decide +kernel
theorem dX1_hasLine_4 : decode cX1_hasLine 4 = .ok (.iload_n 1, 1) := by decide +kernel
theorem dX1_hasLine_5 : decode cX1_hasLine 5 = .ok (.aload_n 0, 1) := by decide +kernel
theorem dX1_hasLine_6 : decode cX1_hasLine 6 = .ok (.invokevirtual 32, 3) := by decide +kernel
theorem dX1_hasLine_9 : decode cX1_hasLine 9 = .ok (.if_icmp .ge 7, 3) := by decide +kernel
theorem dX1_hasLine_12 : decode cX1_hasLine 12 = .ok (.iconst 1, 1) := by decide +kernel
theorem dX1_hasLine_13 : decode cX1_hasLine 13 = .ok (.goto 4, 3) := by decide +kernel
theorem dX1_hasLine_16 : decode cX1_hasLine 16 = .ok (.iconst 0, 1) := by decide +kernel
theorem dX1_hasLine_17 : decode cX1_hasLine 17 = .ok (.ireturn, 1) := by decide +kernel
theorem dX1_layInOrder_0 : decode cX1_layInOrder 0 = .ok (.aload_n 0, 1) := by decide +kernel
theorem dX1_layInOrder_1 : decode cX1_layInOrder 1 = .ok (.iload_n 1, 1) := by decide +kernel
theorem dX1_layInOrder_2 : decode cX1_layInOrder 2 = .ok (.putfield 11, 3) := by decide +kernel
theorem dX1_layInOrder_5 : decode cX1_layInOrder 5 = .ok (.iconst 0, 1) := by decide +kernel
theorem dX1_layInOrder_6 : decode cX1_layInOrder 6 = .ok (.istore_n 2, 1) := by decide +kernel
theorem dX1_layInOrder_7 : decode cX1_layInOrder 7 = .ok (.iload_n 2, 1) := by decide +kernel
theorem dX1_layInOrder_8 : decode cX1_layInOrder 8 = .ok (.aload_n 0, 1) := by decide +kernel
theorem dX1_layInOrder_9 : decode cX1_layInOrder 9 = .ok (.getfield 15, 3) := by decide +kernel
theorem dX1_layInOrder_12 : decode cX1_layInOrder 12 = .ok (.arraylength, 1) := by decide +kernel
theorem dX1_layInOrder_13 : decode cX1_layInOrder 13 = .ok (.if_icmp .ge 18, 3) := by decide +kernel
theorem dX1_layInOrder_16 : decode cX1_layInOrder 16 = .ok (.aload_n 0, 1) := by decide +kernel
theorem dX1_layInOrder_17 : decode cX1_layInOrder 17 = .ok (.getfield 15, 3) := by decide +kernel
theorem dX1_layInOrder_20 : decode cX1_layInOrder 20 = .ok (.iload_n 2, 1) := by decide +kernel
theorem dX1_layInOrder_21 : decode cX1_layInOrder 21 = .ok (.iload_n 2, 1) := by decide +kernel
theorem dX1_layInOrder_22 : decode cX1_layInOrder 22 = .ok (.iconst 1, 1) := by decide +kernel
theorem dX1_layInOrder_23 : decode cX1_layInOrder 23 = .ok (.iadd, 1) := by decide +kernel
theorem dX1_layInOrder_24 : decode cX1_layInOrder 24 = .ok (.iastore, 1) := by decide +kernel
theorem dX1_layInOrder_25 : decode cX1_layInOrder 25 = .ok (.iinc 2 1, 3) := by decide +kernel
theorem dX1_layInOrder_28 : decode cX1_layInOrder 28 = .ok (.goto (-21), 3) := by decide +kernel
theorem dX1_layInOrder_31 : decode cX1_layInOrder 31 = .ok (.return_, 1) := by decide +kernel
set_option maxRecDepth 20000 in
theorem ggX1_shuffle_X1_cells : GoodIn wsX1_shuffle wsX1_cells := goodIn_r _ [5, 6, 12, 13, 14] (by decide +kernel) (by decide +kernel)
set_option maxRecDepth 20000 in
theorem gX1_shuffle_X1_cells : GoodIn wsX1_shuffle (wsV RX1 28 RX1 yX1_cells wsX1_cells) := goodIn_app (goodIn_of _ (by decide +kernel)) ggX1_shuffle_X1_cells
set_option maxRecDepth 20000 in
theorem ggX1_shuffle_X1_exchange : GoodIn wsX1_shuffle wsX1_exchange := goodIn_r _ [10, 11, 12, 13, 14] (by decide +kernel) (by decide +kernel)
set_option maxRecDepth 20000 in
theorem gX1_shuffle_X1_exchange : GoodIn wsX1_shuffle (wsV RX1 35 RX1 yX1_exchange wsX1_exchange) := goodIn_app (goodIn_of _ (by decide +kernel)) ggX1_shuffle_X1_exchange
theorem dX1_shuffle_0 : decode cX1_shuffle 0 = .ok (.iload_n 1, 1) := by decide +kernel
theorem dX1_shuffle_1 : decode cX1_shuffle 1 = .ok (.istore_n 2, 1) := by decide +kernel
theorem dX1_shuffle_2 : decode cX1_shuffle 2 = .ok (.aload_n 0, 1) := by decide +kernel
theorem dX1_shuffle_3 : decode cX1_shuffle 3 = .ok (.invokevirtual 28, 3) := by decide +kernel
theorem dX1_shuffle_6 : decode cX1_shuffle 6 = .ok (.iconst 1, 1) := by decide +kernel
theorem dX1_shuffle_7 : decode cX1_shuffle 7 = .ok (.isub, 1) := by decide +kernel
theorem dX1_shuffle_8 : decode cX1_shuffle 8 = .ok (.istore_n 3, 1) := by decide +kernel
theorem dX1_shuffle_9 : decode cX1_shuffle 9 = .ok (.iload_n 3, 1) := by decide +kernel
theorem dX1_shuffle_10 : decode cX1_shuffle 10 = .ok (.iconst 1, 1) := by decide +kernel
theorem dX1_shuffle_11 : decode cX1_shuffle 11 = .ok (.if_icmp .lt 33, 3) := by decide +kernel
theorem dX1_shuffle_14 : decode cX1_shuffle 14 = .ok (.sipush 421, 3) := by decide +kernel
theorem dX1_shuffle_17 : decode cX1_shuffle 17 = .ok (.iload_n 2, 1) := by decide +kernel
theorem dX1_shuffle_18 : decode cX1_shuffle 18 = .ok (.imul, 1) := by decide +kernel
theorem dX1_shuffle_19 : decode cX1_shuffle 19 = .ok (.sipush 1663, 3) := by decide +kernel
theorem dX1_shuffle_22 : decode cX1_shuffle 22 = .ok (.iadd, 1) := by decide +kernel
theorem dX1_shuffle_23 : decode cX1_shuffle 23 = .ok (.sipush 10000, 3) := by decide +kernel
theorem dX1_shuffle_26 : decode cX1_shuffle 26 = .ok (.irem, 1) := by decide +kernel
theorem dX1_shuffle_27 : decode cX1_shuffle 27 = .ok (.istore_n 2, 1) := by decide +kernel
theorem dX1_shuffle_28 : decode cX1_shuffle 28 = .ok (.aload_n 0, 1) := by decide +kernel
theorem dX1_shuffle_29 : decode cX1_shuffle 29 = .ok (.iload_n 3, 1) := by decide +kernel
theorem dX1_shuffle_30 : decode cX1_shuffle 30 = .ok (.iload_n 2, 1) := by decide +kernel
theorem dX1_shuffle_31 : decode cX1_shuffle 31 = .ok (.iload_n 3, 1) := by decide +kernel
theorem dX1_shuffle_32 : decode cX1_shuffle 32 = .ok (.iconst 1, 1) := by decide +kernel
theorem dX1_shuffle_33 : decode cX1_shuffle 33 = .ok (.iadd, 1) := by decide +kernel
theorem dX1_shuffle_34 : decode cX1_shuffle 34 = .ok (.irem, 1) := by decide +kernel
theorem dX1_shuffle_35 : decode cX1_shuffle 35 = .ok (.invokevirtual 35, 3) := by decide +kernel
theorem dX1_shuffle_38 : decode cX1_shuffle 38 = .ok (.iinc 3 (-1), 3) := by decide +kernel
theorem dX1_shuffle_41 : decode cX1_shuffle 41 = .ok (.goto (-32), 3) := by decide +kernel
theorem dX1_shuffle_44 : decode cX1_shuffle 44 = .ok (.return_, 1) := by decide +kernel
set_option maxRecDepth 20000 in
theorem ggX1_layFrom_X4_sideOfSquare : GoodIn wsX1_layFrom wsX4_sideOfSquare := goodIn_r _ [7, 8, 9, 10, 6, 11, 12, 13, 27, 28] (by decide +kernel) (by decide +kernel)
set_option maxRecDepth 20000 in
theorem gX1_layFrom_X4_sideOfSquare : GoodIn wsX1_layFrom (wsV RX1 39 RX4 yX4_sideOfSquare wsX4_sideOfSquare) := goodIn_app (goodIn_of _ (by decide +kernel)) ggX1_layFrom_X4_sideOfSquare
set_option maxRecDepth 20000 in
theorem ggX1_layFrom_X1_cells : GoodIn wsX1_layFrom wsX1_cells := goodIn_r _ [18, 1, 24, 25, 26] (by decide +kernel) (by decide +kernel)
set_option maxRecDepth 20000 in
theorem gX1_layFrom_X1_cells : GoodIn wsX1_layFrom (wsV RX1 28 RX1 yX1_cells wsX1_cells) := goodIn_app (goodIn_of _ (by decide +kernel)) ggX1_layFrom_X1_cells
set_option maxRecDepth 20000 in
theorem ggX1_layFrom_X4_numberAt : GoodIn wsX1_layFrom wsX4_numberAt := goodIn_r _ [22, 23, 4, 5, 6, 7, 8, 9, 10, 11, 12, 13, 27, 28] (by decide +kernel) (by decide +kernel)
set_option maxRecDepth 20000 in
theorem gX1_layFrom_X4_numberAt : GoodIn wsX1_layFrom (wsV RX1 44 RX4 yX4_numberAt wsX4_numberAt) := goodIn_app (goodIn_of _ (by decide +kernel)) ggX1_layFrom_X4_numberAt
theorem dX1_layFrom_0 : decode cX1_layFrom 0 = .ok (.aload_n 0, 1) := by decide +kernel
theorem dX1_layFrom_1 : decode cX1_layFrom 1 = .ok (.aload_n 1, 1) := by decide +kernel
theorem dX1_layFrom_2 : decode cX1_layFrom 2 = .ok (.invokevirtual 39, 3) := by decide +kernel
theorem dX1_layFrom_5 : decode cX1_layFrom 5 = .ok (.putfield 11, 3) := by decide +kernel
theorem dX1_layFrom_8 : decode cX1_layFrom 8 = .ok (.iconst 0, 1) := by decide +kernel
theorem dX1_layFrom_9 : decode cX1_layFrom 9 = .ok (.istore_n 2, 1) := by decide +kernel
theorem dX1_layFrom_10 : decode cX1_layFrom 10 = .ok (.iload_n 2, 1) := by decide +kernel
theorem dX1_layFrom_11 : decode cX1_layFrom 11 = .ok (.aload_n 0, 1) := by decide +kernel
theorem dX1_layFrom_12 : decode cX1_layFrom 12 = .ok (.invokevirtual 28, 3) := by decide +kernel
theorem dX1_layFrom_15 : decode cX1_layFrom 15 = .ok (.if_icmp .ge 29, 3) := by decide +kernel
theorem dX1_layFrom_18 : decode cX1_layFrom 18 = .ok (.iload_n 2, 1) := by decide +kernel
theorem dX1_layFrom_19 : decode cX1_layFrom 19 = .ok (.aload_n 0, 1) := by decide +kernel
theorem dX1_layFrom_20 : decode cX1_layFrom 20 = .ok (.getfield 15, 3) := by decide +kernel
theorem dX1_layFrom_23 : decode cX1_layFrom 23 = .ok (.arraylength, 1) := by decide +kernel
theorem dX1_layFrom_24 : decode cX1_layFrom 24 = .ok (.if_icmp .ge 20, 3) := by decide +kernel
theorem dX1_layFrom_27 : decode cX1_layFrom 27 = .ok (.aload_n 0, 1) := by decide +kernel
theorem dX1_layFrom_28 : decode cX1_layFrom 28 = .ok (.getfield 15, 3) := by decide +kernel
theorem dX1_layFrom_31 : decode cX1_layFrom 31 = .ok (.iload_n 2, 1) := by decide +kernel
theorem dX1_layFrom_32 : decode cX1_layFrom 32 = .ok (.aload_n 1, 1) := by decide +kernel
theorem dX1_layFrom_33 : decode cX1_layFrom 33 = .ok (.iload_n 2, 1) := by decide +kernel
theorem dX1_layFrom_34 : decode cX1_layFrom 34 = .ok (.invokevirtual 44, 3) := by decide +kernel
theorem dX1_layFrom_37 : decode cX1_layFrom 37 = .ok (.iastore, 1) := by decide +kernel
theorem dX1_layFrom_38 : decode cX1_layFrom 38 = .ok (.iinc 2 1, 3) := by decide +kernel
theorem dX1_layFrom_41 : decode cX1_layFrom 41 = .ok (.goto (-31), 3) := by decide +kernel
theorem dX1_layFrom_44 : decode cX1_layFrom 44 = .ok (.return_, 1) := by decide +kernel
theorem dX1_exchange_0 : decode cX1_exchange 0 = .ok (.iload_n 1, 1) := by decide +kernel
theorem dX1_exchange_1 : decode cX1_exchange 1 = .ok (.ifCond .lt 25, 3) := by decide +kernel
theorem dX1_exchange_4 : decode cX1_exchange 4 = .ok (.iload_n 1, 1) := by decide +kernel
theorem dX1_exchange_5 : decode cX1_exchange 5 = .ok (.aload_n 0, 1) := by decide +kernel
theorem dX1_exchange_6 : decode cX1_exchange 6 = .ok (.getfield 15, 3) := by decide +kernel
theorem dX1_exchange_9 : decode cX1_exchange 9 = .ok (.arraylength, 1) := by decide +kernel
theorem dX1_exchange_10 : decode cX1_exchange 10 = .ok (.if_icmp .ge 16, 3) := by decide +kernel
theorem dX1_exchange_13 : decode cX1_exchange 13 = .ok (.iload_n 2, 1) := by decide +kernel
theorem dX1_exchange_14 : decode cX1_exchange 14 = .ok (.ifCond .lt 12, 3) := by decide +kernel
theorem dX1_exchange_17 : decode cX1_exchange 17 = .ok (.iload_n 2, 1) := by decide +kernel
theorem dX1_exchange_18 : decode cX1_exchange 18 = .ok (.aload_n 0, 1) := by decide +kernel
theorem dX1_exchange_19 : decode cX1_exchange 19 = .ok (.getfield 15, 3) := by decide +kernel
theorem dX1_exchange_22 : decode cX1_exchange 22 = .ok (.arraylength, 1) := by decide +kernel
theorem dX1_exchange_23 : decode cX1_exchange 23 = .ok (.if_icmp .lt 4, 3) := by decide +kernel
theorem dX1_exchange_26 : decode cX1_exchange 26 = .ok (.return_, 1) := by decide +kernel
theorem dX1_exchange_27 : decode cX1_exchange 27 = .ok (.aload_n 0, 1) := by decide +kernel
theorem dX1_exchange_28 : decode cX1_exchange 28 = .ok (.getfield 15, 3) := by decide +kernel
theorem dX1_exchange_31 : decode cX1_exchange 31 = .ok (.iload_n 1, 1) := by decide +kernel
theorem dX1_exchange_32 : decode cX1_exchange 32 = .ok (.iaload, 1) := by decide +kernel
theorem dX1_exchange_33 : decode cX1_exchange 33 = .ok (.istore_n 3, 1) := by decide +kernel
theorem dX1_exchange_34 : decode cX1_exchange 34 = .ok (.aload_n 0, 1) := by decide +kernel
theorem dX1_exchange_35 : decode cX1_exchange 35 = .ok (.getfield 15, 3) := by decide +kernel
theorem dX1_exchange_38 : decode cX1_exchange 38 = .ok (.iload_n 1, 1) := by decide +kernel
theorem dX1_exchange_39 : decode cX1_exchange 39 = .ok (.aload_n 0, 1) := by decide +kernel
theorem dX1_exchange_40 : decode cX1_exchange 40 = .ok (.getfield 15, 3) := by decide +kernel
theorem dX1_exchange_43 : decode cX1_exchange 43 = .ok (.iload_n 2, 1) := by decide +kernel
theorem dX1_exchange_44 : decode cX1_exchange 44 = .ok (.iaload, 1) := by decide +kernel
theorem dX1_exchange_45 : decode cX1_exchange 45 = .ok (.iastore, 1) := by decide +kernel
theorem dX1_exchange_46 : decode cX1_exchange 46 = .ok (.aload_n 0, 1) := by decide +kernel
theorem dX1_exchange_47 : decode cX1_exchange 47 = .ok (.getfield 15, 3) := by decide +kernel
theorem dX1_exchange_50 : decode cX1_exchange 50 = .ok (.iload_n 2, 1) := by decide +kernel
theorem dX1_exchange_51 : decode cX1_exchange 51 = .ok (.iload_n 3, 1) := by decide +kernel
theorem dX1_exchange_52 : decode cX1_exchange 52 = .ok (.iastore, 1) := by decide +kernel
theorem dX1_exchange_53 : decode cX1_exchange 53 = .ok (.return_, 1) := by decide +kernel
theorem dX1_numberAt_0 : decode cX1_numberAt 0 = .ok (.iload_n 1, 1) := by decide +kernel
theorem dX1_numberAt_1 : decode cX1_numberAt 1 = .ok (.ifCond .lt 21, 3) := by decide +kernel
theorem dX1_numberAt_4 : decode cX1_numberAt 4 = .ok (.iload_n 1, 1) := by decide +kernel
theorem dX1_numberAt_5 : decode cX1_numberAt 5 = .ok (.aload_n 0, 1) := by decide +kernel
theorem dX1_numberAt_6 : decode cX1_numberAt 6 = .ok (.getfield 15, 3) := by decide +kernel
theorem dX1_numberAt_9 : decode cX1_numberAt 9 = .ok (.arraylength, 1) := by decide +kernel
theorem dX1_numberAt_10 : decode cX1_numberAt 10 = .ok (.if_icmp .ge 12, 3) := by decide +kernel
theorem dX1_numberAt_13 : decode cX1_numberAt 13 = .ok (.aload_n 0, 1) := by decide +kernel
theorem dX1_numberAt_14 : decode cX1_numberAt 14 = .ok (.getfield 15, 3) := by decide +kernel
theorem dX1_numberAt_17 : decode cX1_numberAt 17 = .ok (.iload_n 1, 1) := by decide +kernel
theorem dX1_numberAt_18 : decode cX1_numberAt 18 = .ok (.iaload, 1) := by decide +kernel
theorem dX1_numberAt_19 : decode cX1_numberAt 19 = .ok (.goto 4, 3) := by decide +kernel
theorem dX1_numberAt_22 : decode cX1_numberAt 22 = .ok (.iconst 0, 1) := by decide +kernel
theorem dX1_numberAt_23 : decode cX1_numberAt 23 = .ok (.ireturn, 1) := by decide +kernel
theorem dX1_frozenFor_0 : decode cX1_frozenFor 0 = .ok (.iload_n 1, 1) := by decide +kernel
theorem dX1_frozenFor_1 : decode cX1_frozenFor 1 = .ok (.ifCond .lt 21, 3) := by decide +kernel
theorem dX1_frozenFor_4 : decode cX1_frozenFor 4 = .ok (.iload_n 1, 1) := by decide +kernel
theorem dX1_frozenFor_5 : decode cX1_frozenFor 5 = .ok (.aload_n 0, 1) := by decide +kernel
theorem dX1_frozenFor_6 : decode cX1_frozenFor 6 = .ok (.getfield 19, 3) := by decide +kernel
theorem dX1_frozenFor_9 : decode cX1_frozenFor 9 = .ok (.arraylength, 1) := by decide +kernel
theorem dX1_frozenFor_10 : decode cX1_frozenFor 10 = .ok (.if_icmp .ge 12, 3) := by decide +kernel
theorem dX1_frozenFor_13 : decode cX1_frozenFor 13 = .ok (.aload_n 0, 1) := by decide +kernel
theorem dX1_frozenFor_14 : decode cX1_frozenFor 14 = .ok (.getfield 19, 3) := by decide +kernel
theorem dX1_frozenFor_17 : decode cX1_frozenFor 17 = .ok (.iload_n 1, 1) := by decide +kernel
theorem dX1_frozenFor_18 : decode cX1_frozenFor 18 = .ok (.iaload, 1) := by decide +kernel
theorem dX1_frozenFor_19 : decode cX1_frozenFor 19 = .ok (.goto 4, 3) := by decide +kernel
theorem dX1_frozenFor_22 : decode cX1_frozenFor 22 = .ok (.iconst 0, 1) := by decide +kernel
theorem dX1_frozenFor_23 : decode cX1_frozenFor 23 = .ok (.ireturn, 1) := by decide +kernel
set_option maxRecDepth 20000 in
theorem ggX1_isFrozen_X1_frozenFor : GoodIn wsX1_isFrozen wsX1_frozenFor := goodIn_r _ [5, 6, 7, 8, 9] (by decide +kernel) (by decide +kernel)
set_option maxRecDepth 20000 in
theorem gX1_isFrozen_X1_frozenFor : GoodIn wsX1_isFrozen (wsV RX1 48 RX1 yX1_frozenFor wsX1_frozenFor) := goodIn_app (goodIn_of _ (by decide +kernel)) ggX1_isFrozen_X1_frozenFor
theorem dX1_isFrozen_0 : decode cX1_isFrozen 0 = .ok (.aload_n 0, 1) := by decide +kernel
theorem dX1_isFrozen_1 : decode cX1_isFrozen 1 = .ok (.iload_n 1, 1) := by decide +kernel
theorem dX1_isFrozen_2 : decode cX1_isFrozen 2 = .ok (.invokevirtual 48, 3) := by decide +kernel
theorem dX1_isFrozen_5 : decode cX1_isFrozen 5 = .ok (.ifCond .le 7, 3) := by decide +kernel
theorem dX1_isFrozen_8 : decode cX1_isFrozen 8 = .ok (.iconst 1, 1) := by decide +kernel
theorem dX1_isFrozen_9 : decode cX1_isFrozen 9 = .ok (.goto 4, 3) := by decide +kernel
theorem dX1_isFrozen_12 : decode cX1_isFrozen 12 = .ok (.iconst 0, 1) := by decide +kernel
theorem dX1_isFrozen_13 : decode cX1_isFrozen 13 = .ok (.ireturn, 1) := by decide +kernel
theorem dX1_freezeFor_0 : decode cX1_freezeFor 0 = .ok (.iload_n 1, 1) := by decide +kernel
theorem dX1_freezeFor_1 : decode cX1_freezeFor 1 = .ok (.ifCond .lt 19, 3) := by decide +kernel
theorem dX1_freezeFor_4 : decode cX1_freezeFor 4 = .ok (.iload_n 1, 1) := by decide +kernel
theorem dX1_freezeFor_5 : decode cX1_freezeFor 5 = .ok (.aload_n 0, 1) := by decide +kernel
theorem dX1_freezeFor_6 : decode cX1_freezeFor 6 = .ok (.getfield 19, 3) := by decide +kernel
theorem dX1_freezeFor_9 : decode cX1_freezeFor 9 = .ok (.arraylength, 1) := by decide +kernel
theorem dX1_freezeFor_10 : decode cX1_freezeFor 10 = .ok (.if_icmp .ge 10, 3) := by decide +kernel
theorem dX1_freezeFor_13 : decode cX1_freezeFor 13 = .ok (.aload_n 0, 1) := by decide +kernel
theorem dX1_freezeFor_14 : decode cX1_freezeFor 14 = .ok (.getfield 19, 3) := by decide +kernel
theorem dX1_freezeFor_17 : decode cX1_freezeFor 17 = .ok (.iload_n 1, 1) := by decide +kernel
theorem dX1_freezeFor_18 : decode cX1_freezeFor 18 = .ok (.iload_n 2, 1) := by decide +kernel
theorem dX1_freezeFor_19 : decode cX1_freezeFor 19 = .ok (.iastore, 1) := by decide +kernel
theorem dX1_freezeFor_20 : decode cX1_freezeFor 20 = .ok (.return_, 1) := by decide +kernel
theorem dX1_thawByOneSwap_0 : decode cX1_thawByOneSwap 0 = .ok (.iconst 0, 1) := by decide +kernel
theorem dX1_thawByOneSwap_1 : decode cX1_thawByOneSwap 1 = .ok (.istore_n 1, 1) := by decide +kernel
theorem dX1_thawByOneSwap_2 : decode cX1_thawByOneSwap 2 = .ok (.iload_n 1, 1) := by decide +kernel
theorem dX1_thawByOneSwap_3 : decode cX1_thawByOneSwap 3 = .ok (.aload_n 0, 1) := by decide +kernel
theorem dX1_thawByOneSwap_4 : decode cX1_thawByOneSwap 4 = .ok (.getfield 19, 3) := by decide +kernel
theorem dX1_thawByOneSwap_7 : decode cX1_thawByOneSwap 7 = .ok (.arraylength, 1) := by decide +kernel
theorem dX1_thawByOneSwap_8 : decode cX1_thawByOneSwap 8 = .ok (.if_icmp .ge 28, 3) := by decide +kernel
theorem dX1_thawByOneSwap_11 : decode cX1_thawByOneSwap 11 = .ok (.aload_n 0, 1) := by decide +kernel
theorem dX1_thawByOneSwap_12 : decode cX1_thawByOneSwap 12 = .ok (.getfield 19, 3) := by decide +kernel
theorem dX1_thawByOneSwap_15 : decode cX1_thawByOneSwap 15 = .ok (.iload_n 1, 1) := by decide +kernel
theorem dX1_thawByOneSwap_16 : decode cX1_thawByOneSwap 16 = .ok (.iaload, 1) := by decide +kernel
theorem dX1_thawByOneSwap_17 : decode cX1_thawByOneSwap 17 = .ok (.ifCond .le 13, 3) := by decide +kernel
theorem dX1_thawByOneSwap_20 : decode cX1_thawByOneSwap 20 = .ok (.aload_n 0, 1) := by decide +kernel
theorem dX1_thawByOneSwap_21 : decode cX1_thawByOneSwap 21 = .ok (.getfield 19, 3) := by decide +kernel
theorem dX1_thawByOneSwap_24 : decode cX1_thawByOneSwap 24 = .ok (.iload_n 1, 1) := by decide +kernel
theorem dX1_thawByOneSwap_25 : decode cX1_thawByOneSwap 25 = .ok (.dup2, 1) := by decide +kernel
theorem dX1_thawByOneSwap_26 : decode cX1_thawByOneSwap 26 = .ok (.iaload, 1) := by decide +kernel
theorem dX1_thawByOneSwap_27 : decode cX1_thawByOneSwap 27 = .ok (.iconst 1, 1) := by decide +kernel
theorem dX1_thawByOneSwap_28 : decode cX1_thawByOneSwap 28 = .ok (.isub, 1) := by decide +kernel
theorem dX1_thawByOneSwap_29 : decode cX1_thawByOneSwap 29 = .ok (.iastore, 1) := by decide +kernel
theorem dX1_thawByOneSwap_30 : decode cX1_thawByOneSwap 30 = .ok (.iinc 1 1, 3) := by decide +kernel
theorem dX1_thawByOneSwap_33 : decode cX1_thawByOneSwap 33 = .ok (.goto (-31), 3) := by decide +kernel
theorem dX1_thawByOneSwap_36 : decode cX1_thawByOneSwap 36 = .ok (.return_, 1) := by decide +kernel
theorem dX1_thawAll_0 : decode cX1_thawAll 0 = .ok (.iconst 0, 1) := by decide +kernel
theorem dX1_thawAll_1 : decode cX1_thawAll 1 = .ok (.istore_n 1, 1) := by decide +kernel
theorem dX1_thawAll_2 : decode cX1_thawAll 2 = .ok (.iload_n 1, 1) := by decide +kernel
theorem dX1_thawAll_3 : decode cX1_thawAll 3 = .ok (.aload_n 0, 1) := by decide +kernel
theorem dX1_thawAll_4 : decode cX1_thawAll 4 = .ok (.getfield 19, 3) := by decide +kernel
theorem dX1_thawAll_7 : decode cX1_thawAll 7 = .ok (.arraylength, 1) := by decide +kernel
theorem dX1_thawAll_8 : decode cX1_thawAll 8 = .ok (.if_icmp .ge 16, 3) := by decide +kernel
theorem dX1_thawAll_11 : decode cX1_thawAll 11 = .ok (.aload_n 0, 1) := by decide +kernel
theorem dX1_thawAll_12 : decode cX1_thawAll 12 = .ok (.getfield 19, 3) := by decide +kernel
theorem dX1_thawAll_15 : decode cX1_thawAll 15 = .ok (.iload_n 1, 1) := by decide +kernel
theorem dX1_thawAll_16 : decode cX1_thawAll 16 = .ok (.iconst 0, 1) := by decide +kernel
theorem dX1_thawAll_17 : decode cX1_thawAll 17 = .ok (.iastore, 1) := by decide +kernel
theorem dX1_thawAll_18 : decode cX1_thawAll 18 = .ok (.iinc 1 1, 3) := by decide +kernel
theorem dX1_thawAll_21 : decode cX1_thawAll 21 = .ok (.goto (-19), 3) := by decide +kernel
theorem dX1_thawAll_24 : decode cX1_thawAll 24 = .ok (.return_, 1) := by decide +kernel
theorem dX1_frozenCells_0 : decode cX1_frozenCells 0 = .ok (.iconst 0, 1) := by decide +kernel
theorem dX1_frozenCells_1 : decode cX1_frozenCells 1 = .ok (.istore_n 1, 1) := by decide +kernel
theorem dX1_frozenCells_2 : decode cX1_frozenCells 2 = .ok (.iconst 0, 1) := by decide +kernel
theorem dX1_frozenCells_3 : decode cX1_frozenCells 3 = .ok (.istore_n 2, 1) := by decide +kernel
theorem dX1_frozenCells_4 : decode cX1_frozenCells 4 = .ok (.iload_n 2, 1) := by decide +kernel
theorem dX1_frozenCells_5 : decode cX1_frozenCells 5 = .ok (.aload_n 0, 1) := by decide +kernel
theorem dX1_frozenCells_6 : decode cX1_frozenCells 6 = .ok (.getfield 19, 3) := by decide +kernel
theorem dX1_frozenCells_9 : decode cX1_frozenCells 9 = .ok (.arraylength, 1) := by decide +kernel
theorem dX1_frozenCells_10 : decode cX1_frozenCells 10 = .ok (.if_icmp .ge 21, 3) := by decide +kernel
theorem dX1_frozenCells_13 : decode cX1_frozenCells 13 = .ok (.aload_n 0, 1) := by decide +kernel
theorem dX1_frozenCells_14 : decode cX1_frozenCells 14 = .ok (.getfield 19, 3) := by decide +kernel
theorem dX1_frozenCells_17 : decode cX1_frozenCells 17 = .ok (.iload_n 2, 1) := by decide +kernel
theorem dX1_frozenCells_18 : decode cX1_frozenCells 18 = .ok (.iaload, 1) := by decide +kernel
theorem dX1_frozenCells_19 : decode cX1_frozenCells 19 = .ok (.ifCond .le 6, 3) := by decide +kernel
theorem dX1_frozenCells_22 : decode cX1_frozenCells 22 = .ok (.iinc 1 1, 3) := by decide +kernel
theorem dX1_frozenCells_25 : decode cX1_frozenCells 25 = .ok (.iinc 2 1, 3) := by decide +kernel
theorem dX1_frozenCells_28 : decode cX1_frozenCells 28 = .ok (.goto (-24), 3) := by decide +kernel
theorem dX1_frozenCells_31 : decode cX1_frozenCells 31 = .ok (.iload_n 1, 1) := by decide +kernel
theorem dX1_frozenCells_32 : decode cX1_frozenCells 32 = .ok (.ireturn, 1) := by decide +kernel
theorem dX1_cellOn_0 : decode cX1_cellOn 0 = .ok (.iload_n 1, 1) := by decide +kernel
theorem dX1_cellOn_1 : decode cX1_cellOn 1 = .ok (.aload_n 0, 1) := by decide +kernel
theorem dX1_cellOn_2 : decode cX1_cellOn 2 = .ok (.getfield 11, 3) := by decide +kernel
theorem dX1_cellOn_5 : decode cX1_cellOn 5 = .ok (.if_icmp .ge 12, 3) := by decide +kernel
theorem dX1_cellOn_8 : decode cX1_cellOn 8 = .ok (.iload_n 1, 1) := by decide +kernel
theorem dX1_cellOn_9 : decode cX1_cellOn 9 = .ok (.aload_n 0, 1) := by decide +kernel
theorem dX1_cellOn_10 : decode cX1_cellOn 10 = .ok (.getfield 11, 3) := by decide +kernel
theorem dX1_cellOn_13 : decode cX1_cellOn 13 = .ok (.imul, 1) := by decide +kernel
theorem dX1_cellOn_14 : decode cX1_cellOn 14 = .ok (.iload_n 2, 1) := by decide +kernel
theorem dX1_cellOn_15 : decode cX1_cellOn 15 = .ok (.iadd, 1) := by decide +kernel
theorem dX1_cellOn_16 : decode cX1_cellOn 16 = .ok (.ireturn, 1) := by decide +kernel
theorem dX1_cellOn_17 : decode cX1_cellOn 17 = .ok (.iload_n 1, 1) := by decide +kernel
theorem dX1_cellOn_18 : decode cX1_cellOn 18 = .ok (.iconst 2, 1) := by decide +kernel
theorem dX1_cellOn_19 : decode cX1_cellOn 19 = .ok (.aload_n 0, 1) := by decide +kernel
theorem dX1_cellOn_20 : decode cX1_cellOn 20 = .ok (.getfield 11, 3) := by decide +kernel
theorem dX1_cellOn_23 : decode cX1_cellOn 23 = .ok (.imul, 1) := by decide +kernel
theorem dX1_cellOn_24 : decode cX1_cellOn 24 = .ok (.if_icmp .ge 17, 3) := by decide +kernel
theorem dX1_cellOn_27 : decode cX1_cellOn 27 = .ok (.iload_n 2, 1) := by decide +kernel
theorem dX1_cellOn_28 : decode cX1_cellOn 28 = .ok (.aload_n 0, 1) := by decide +kernel
theorem dX1_cellOn_29 : decode cX1_cellOn 29 = .ok (.getfield 11, 3) := by decide +kernel
theorem dX1_cellOn_32 : decode cX1_cellOn 32 = .ok (.imul, 1) := by decide +kernel
theorem dX1_cellOn_33 : decode cX1_cellOn 33 = .ok (.iload_n 1, 1) := by decide +kernel
theorem dX1_cellOn_34 : decode cX1_cellOn 34 = .ok (.iadd, 1) := by decide +kernel
theorem dX1_cellOn_35 : decode cX1_cellOn 35 = .ok (.aload_n 0, 1) := by decide +kernel
theorem dX1_cellOn_36 : decode cX1_cellOn 36 = .ok (.getfield 11, 3) := by decide +kernel
theorem dX1_cellOn_39 : decode cX1_cellOn 39 = .ok (.isub, 1) := by decide +kernel
theorem dX1_cellOn_40 : decode cX1_cellOn 40 = .ok (.ireturn, 1) := by decide +kernel
theorem dX1_cellOn_41 : decode cX1_cellOn 41 = .ok (.iload_n 1, 1) := by decide +kernel
theorem dX1_cellOn_42 : decode cX1_cellOn 42 = .ok (.iconst 2, 1) := by decide +kernel
theorem dX1_cellOn_43 : decode cX1_cellOn 43 = .ok (.aload_n 0, 1) := by decide +kernel
theorem dX1_cellOn_44 : decode cX1_cellOn 44 = .ok (.getfield 11, 3) := by decide +kernel
theorem dX1_cellOn_47 : decode cX1_cellOn 47 = .ok (.imul, 1) := by decide +kernel
theorem dX1_cellOn_48 : decode cX1_cellOn 48 = .ok (.if_icmp .ne 12, 3) := by decide +kernel
theorem dX1_cellOn_51 : decode cX1_cellOn 51 = .ok (.iload_n 2, 1) := by decide +kernel
theorem dX1_cellOn_52 : decode cX1_cellOn 52 = .ok (.aload_n 0, 1) := by decide +kernel
theorem dX1_cellOn_53 : decode cX1_cellOn 53 = .ok (.getfield 11, 3) := by decide +kernel
theorem dX1_cellOn_56 : decode cX1_cellOn 56 = .ok (.iconst 1, 1) := by decide +kernel
theorem dX1_cellOn_57 : decode cX1_cellOn 57 = .ok (.iadd, 1) := by decide +kernel
theorem dX1_cellOn_58 : decode cX1_cellOn 58 = .ok (.imul, 1) := by decide +kernel
theorem dX1_cellOn_59 : decode cX1_cellOn 59 = .ok (.ireturn, 1) := by decide +kernel
theorem dX1_cellOn_60 : decode cX1_cellOn 60 = .ok (.iload_n 2, 1) := by decide +kernel
theorem dX1_cellOn_61 : decode cX1_cellOn 61 = .ok (.iconst 1, 1) := by decide +kernel
theorem dX1_cellOn_62 : decode cX1_cellOn 62 = .ok (.iadd, 1) := by decide +kernel
theorem dX1_cellOn_63 : decode cX1_cellOn 63 = .ok (.aload_n 0, 1) := by decide +kernel
theorem dX1_cellOn_64 : decode cX1_cellOn 64 = .ok (.getfield 11, 3) := by decide +kernel
theorem dX1_cellOn_67 : decode cX1_cellOn 67 = .ok (.iconst 1, 1) := by decide +kernel
theorem dX1_cellOn_68 : decode cX1_cellOn 68 = .ok (.isub, 1) := by decide +kernel
theorem dX1_cellOn_69 : decode cX1_cellOn 69 = .ok (.imul, 1) := by decide +kernel
theorem dX1_cellOn_70 : decode cX1_cellOn 70 = .ok (.ireturn, 1) := by decide +kernel
set_option maxRecDepth 20000 in
theorem ggX1_passesThrough_X1_cellOn : GoodIn wsX1_passesThrough wsX1_cellOn := goodIn_r _ [6, 1, 7, 8, 9] (by decide +kernel) (by decide +kernel)
set_option maxRecDepth 20000 in
theorem gX1_passesThrough_X1_cellOn : GoodIn wsX1_passesThrough (wsV RX1 51 RX1 yX1_cellOn wsX1_cellOn) := goodIn_app (goodIn_of _ (by decide +kernel)) ggX1_passesThrough_X1_cellOn
theorem dX1_passesThrough_0 : decode cX1_passesThrough 0 = .ok (.iconst 0, 1) := by decide +kernel
theorem dX1_passesThrough_1 : decode cX1_passesThrough 1 = .ok (.istore_n 3, 1) := by decide +kernel
theorem dX1_passesThrough_2 : decode cX1_passesThrough 2 = .ok (.iload_n 3, 1) := by decide +kernel
theorem dX1_passesThrough_3 : decode cX1_passesThrough 3 = .ok (.aload_n 0, 1) := by decide +kernel
theorem dX1_passesThrough_4 : decode cX1_passesThrough 4 = .ok (.getfield 11, 3) := by decide +kernel
theorem dX1_passesThrough_7 : decode cX1_passesThrough 7 = .ok (.if_icmp .ge 21, 3) := by decide +kernel
theorem dX1_passesThrough_10 : decode cX1_passesThrough 10 = .ok (.aload_n 0, 1) := by decide +kernel
theorem dX1_passesThrough_11 : decode cX1_passesThrough 11 = .ok (.iload_n 1, 1) := by decide +kernel
theorem dX1_passesThrough_12 : decode cX1_passesThrough 12 = .ok (.iload_n 3, 1) := by decide +kernel
theorem dX1_passesThrough_13 : decode cX1_passesThrough 13 = .ok (.invokevirtual 51, 3) := by decide +kernel
theorem dX1_passesThrough_16 : decode cX1_passesThrough 16 = .ok (.iload_n 2, 1) := by decide +kernel
theorem dX1_passesThrough_17 : decode cX1_passesThrough 17 = .ok (.if_icmp .ne 5, 3) := by decide +kernel
theorem dX1_passesThrough_20 : decode cX1_passesThrough 20 = .ok (.iconst 1, 1) := by decide +kernel
theorem dX1_passesThrough_21 : decode cX1_passesThrough 21 = .ok (.ireturn, 1) := by decide +kernel
theorem dX1_passesThrough_22 : decode cX1_passesThrough 22 = .ok (.iinc 3 1, 3) := by decide +kernel
theorem dX1_passesThrough_25 : decode cX1_passesThrough 25 = .ok (.goto (-23), 3) := by decide +kernel
theorem dX1_passesThrough_28 : decode cX1_passesThrough 28 = .ok (.iconst 0, 1) := by decide +kernel
theorem dX1_passesThrough_29 : decode cX1_passesThrough 29 = .ok (.ireturn, 1) := by decide +kernel
set_option maxRecDepth 20000 in
theorem ggX1_sumOf_X1_cellOn : GoodIn wsX1_sumOf wsX1_cellOn := goodIn_r _ [6, 1, 12, 13, 14] (by decide +kernel) (by decide +kernel)
set_option maxRecDepth 20000 in
theorem gX1_sumOf_X1_cellOn : GoodIn wsX1_sumOf (wsV RX1 51 RX1 yX1_cellOn wsX1_cellOn) := goodIn_app (goodIn_of _ (by decide +kernel)) ggX1_sumOf_X1_cellOn
set_option maxRecDepth 20000 in
theorem ggX1_sumOf_X1_numberAt : GoodIn wsX1_sumOf wsX1_numberAt := goodIn_r _ [10, 11, 12, 13, 14] (by decide +kernel) (by decide +kernel)
set_option maxRecDepth 20000 in
theorem gX1_sumOf_X1_numberAt : GoodIn wsX1_sumOf (wsV RX1 55 RX1 yX1_numberAt wsX1_numberAt) := goodIn_app (goodIn_of _ (by decide +kernel)) ggX1_sumOf_X1_numberAt
theorem dX1_sumOf_0 : decode cX1_sumOf 0 = .ok (.iconst 0, 1) := by decide +kernel
theorem dX1_sumOf_1 : decode cX1_sumOf 1 = .ok (.istore_n 2, 1) := by decide +kernel
theorem dX1_sumOf_2 : decode cX1_sumOf 2 = .ok (.iconst 0, 1) := by decide +kernel
theorem dX1_sumOf_3 : decode cX1_sumOf 3 = .ok (.istore_n 3, 1) := by decide +kernel
theorem dX1_sumOf_4 : decode cX1_sumOf 4 = .ok (.iload_n 3, 1) := by decide +kernel
theorem dX1_sumOf_5 : decode cX1_sumOf 5 = .ok (.aload_n 0, 1) := by decide +kernel
theorem dX1_sumOf_6 : decode cX1_sumOf 6 = .ok (.getfield 11, 3) := by decide +kernel
theorem dX1_sumOf_9 : decode cX1_sumOf 9 = .ok (.if_icmp .ge 22, 3) := by decide +kernel
theorem dX1_sumOf_12 : decode cX1_sumOf 12 = .ok (.iload_n 2, 1) := by decide +kernel
theorem dX1_sumOf_13 : decode cX1_sumOf 13 = .ok (.aload_n 0, 1) := by decide +kernel
theorem dX1_sumOf_14 : decode cX1_sumOf 14 = .ok (.aload_n 0, 1) := by decide +kernel
theorem dX1_sumOf_15 : decode cX1_sumOf 15 = .ok (.iload_n 1, 1) := by decide +kernel
theorem dX1_sumOf_16 : decode cX1_sumOf 16 = .ok (.iload_n 3, 1) := by decide +kernel
theorem dX1_sumOf_17 : decode cX1_sumOf 17 = .ok (.invokevirtual 51, 3) := by decide +kernel
theorem dX1_sumOf_20 : decode cX1_sumOf 20 = .ok (.invokevirtual 55, 3) := by decide +kernel
theorem dX1_sumOf_23 : decode cX1_sumOf 23 = .ok (.iadd, 1) := by decide +kernel
theorem dX1_sumOf_24 : decode cX1_sumOf 24 = .ok (.istore_n 2, 1) := by decide +kernel
theorem dX1_sumOf_25 : decode cX1_sumOf 25 = .ok (.iinc 3 1, 3) := by decide +kernel
theorem dX1_sumOf_28 : decode cX1_sumOf 28 = .ok (.goto (-24), 3) := by decide +kernel
theorem dX1_sumOf_31 : decode cX1_sumOf 31 = .ok (.iload_n 2, 1) := by decide +kernel
theorem dX1_sumOf_32 : decode cX1_sumOf 32 = .ok (.ireturn, 1) := by decide +kernel
set_option maxRecDepth 20000 in
theorem ggX1_differenceOf_X1_sumOf : GoodIn wsX1_differenceOf wsX1_sumOf := goodIn_r _ [9, 10, 11, 12, 13, 8, 14, 15, 16, 17, 18, 19, 24, 25, 26] (by decide +kernel) (by decide +kernel)
set_option maxRecDepth 20000 in
theorem gX1_differenceOf_X1_sumOf : GoodIn wsX1_differenceOf (wsV RX1 56 RX1 yX1_sumOf wsX1_sumOf) := goodIn_app (goodIn_of _ (by decide +kernel)) ggX1_differenceOf_X1_sumOf
set_option maxRecDepth 20000 in
theorem ggX1_differenceOf_X1_magicNumber : GoodIn wsX1_differenceOf wsX1_magicNumber := goodIn_r _ [23, 10, 24, 25, 26] (by decide +kernel) (by decide +kernel)
set_option maxRecDepth 20000 in
theorem gX1_differenceOf_X1_magicNumber : GoodIn wsX1_differenceOf (wsV RX1 59 RX1 yX1_magicNumber wsX1_magicNumber) := goodIn_app (goodIn_of _ (by decide +kernel)) ggX1_differenceOf_X1_magicNumber
theorem dX1_differenceOf_0 : decode cX1_differenceOf 0 = .ok (.aload_n 0, 1) := by decide +kernel
theorem dX1_differenceOf_1 : decode cX1_differenceOf 1 = .ok (.iload_n 1, 1) := by decide +kernel
theorem dX1_differenceOf_2 : decode cX1_differenceOf 2 = .ok (.invokevirtual 56, 3) := by decide +kernel
theorem dX1_differenceOf_5 : decode cX1_differenceOf 5 = .ok (.aload_n 0, 1) := by decide +kernel
theorem dX1_differenceOf_6 : decode cX1_differenceOf 6 = .ok (.invokevirtual 59, 3) := by decide +kernel
theorem dX1_differenceOf_9 : decode cX1_differenceOf 9 = .ok (.isub, 1) := by decide +kernel
theorem dX1_differenceOf_10 : decode cX1_differenceOf 10 = .ok (.invokestatic 62, 3) := by decide +kernel
theorem dX1_differenceOf_13 : decode cX1_differenceOf 13 = .ok (.ireturn, 1) := by decide +kernel
set_option maxRecDepth 20000 in
theorem ggX1_isMagicLine_X1_sumOf : GoodIn wsX1_isMagicLine wsX1_sumOf := goodIn_r _ [5, 6, 7, 8, 9, 4, 10, 11, 12, 13, 14, 15, 20, 21, 22] (by decide +kernel) (by decide +kernel)
set_option maxRecDepth 20000 in
theorem gX1_isMagicLine_X1_sumOf : GoodIn wsX1_isMagicLine (wsV RX1 56 RX1 yX1_sumOf wsX1_sumOf) := goodIn_app (goodIn_of _ (by decide +kernel)) ggX1_isMagicLine_X1_sumOf
set_option maxRecDepth 20000 in
theorem ggX1_isMagicLine_X1_magicNumber : GoodIn wsX1_isMagicLine wsX1_magicNumber := goodIn_r _ [19, 6, 20, 21, 22] (by decide +kernel) (by decide +kernel)
set_option maxRecDepth 20000 in
theorem gX1_isMagicLine_X1_magicNumber : GoodIn wsX1_isMagicLine (wsV RX1 59 RX1 yX1_magicNumber wsX1_magicNumber) := goodIn_app (goodIn_of _ (by decide +kernel)) ggX1_isMagicLine_X1_magicNumber
theorem dX1_isMagicLine_0 : decode cX1_isMagicLine 0 = .ok (.aload_n 0, 1) := by decide +kernel
theorem dX1_isMagicLine_1 : decode cX1_isMagicLine 1 = .ok (.iload_n 1, 1) := by decide +kernel
theorem dX1_isMagicLine_2 : decode cX1_isMagicLine 2 = .ok (.invokevirtual 56, 3) := by decide +kernel
theorem dX1_isMagicLine_5 : decode cX1_isMagicLine 5 = .ok (.aload_n 0, 1) := by decide +kernel
theorem dX1_isMagicLine_6 : decode cX1_isMagicLine 6 = .ok (.invokevirtual 59, 3) := by decide +kernel
theorem dX1_isMagicLine_9 : decode cX1_isMagicLine 9 = .ok (.if_icmp .ne 7, 3) := by decide +kernel
theorem dX1_isMagicLine_12 : decode cX1_isMagicLine 12 = .ok (.iconst 1, 1) := by decide +kernel
theorem dX1_isMagicLine_13 : decode cX1_isMagicLine 13 = .ok (.goto 4, 3) := by decide +kernel
theorem dX1_isMagicLine_16 : decode cX1_isMagicLine 16 = .ok (.iconst 0, 1) := by decide +kernel
theorem dX1_isMagicLine_17 : decode cX1_isMagicLine 17 = .ok (.ireturn, 1) := by decide +kernel
set_option maxRecDepth 20000 in
theorem ggX1_linesThrough_X1_lines : GoodIn wsX1_linesThrough wsX1_lines := goodIn_r _ [5, 6, 15, 16, 17] (by decide +kernel) (by decide +kernel)
set_option maxRecDepth 20000 in
theorem gX1_linesThrough_X1_lines : GoodIn wsX1_linesThrough (wsV RX1 32 RX1 yX1_lines wsX1_lines) := goodIn_app (goodIn_of _ (by decide +kernel)) ggX1_linesThrough_X1_lines
set_option maxRecDepth 20000 in
theorem ggX1_linesThrough_X1_passesThrough : GoodIn wsX1_linesThrough wsX1_passesThrough := goodIn_r _ [10, 6, 11, 12, 13, 4, 14, 15, 16, 17] (by decide +kernel) (by decide +kernel)
set_option maxRecDepth 20000 in
theorem gX1_linesThrough_X1_passesThrough : GoodIn wsX1_linesThrough (wsV RX1 67 RX1 yX1_passesThrough wsX1_passesThrough) := goodIn_app (goodIn_of _ (by decide +kernel)) ggX1_linesThrough_X1_passesThrough
theorem dX1_linesThrough_0 : decode cX1_linesThrough 0 = .ok (.iconst 0, 1) := by decide +kernel
theorem dX1_linesThrough_1 : decode cX1_linesThrough 1 = .ok (.istore_n 2, 1) := by decide +kernel
theorem dX1_linesThrough_2 : decode cX1_linesThrough 2 = .ok (.iconst 0, 1) := by decide +kernel
theorem dX1_linesThrough_3 : decode cX1_linesThrough 3 = .ok (.istore_n 3, 1) := by decide +kernel
theorem dX1_linesThrough_4 : decode cX1_linesThrough 4 = .ok (.iload_n 3, 1) := by decide +kernel
theorem dX1_linesThrough_5 : decode cX1_linesThrough 5 = .ok (.aload_n 0, 1) := by decide +kernel
theorem dX1_linesThrough_6 : decode cX1_linesThrough 6 = .ok (.invokevirtual 32, 3) := by decide +kernel
theorem dX1_linesThrough_9 : decode cX1_linesThrough 9 = .ok (.if_icmp .ge 21, 3) := by decide +kernel
theorem dX1_linesThrough_12 : decode cX1_linesThrough 12 = .ok (.aload_n 0, 1) := by decide +kernel
theorem dX1_linesThrough_13 : decode cX1_linesThrough 13 = .ok (.iload_n 3, 1) := by decide +kernel
theorem dX1_linesThrough_14 : decode cX1_linesThrough 14 = .ok (.iload_n 1, 1) := by decide +kernel
theorem dX1_linesThrough_15 : decode cX1_linesThrough 15 = .ok (.invokevirtual 67, 3) := by decide +kernel
theorem dX1_linesThrough_18 : decode cX1_linesThrough 18 = .ok (.ifCond .eq 6, 3) := by decide +kernel
theorem dX1_linesThrough_21 : decode cX1_linesThrough 21 = .ok (.iinc 2 1, 3) := by decide +kernel
theorem dX1_linesThrough_24 : decode cX1_linesThrough 24 = .ok (.iinc 3 1, 3) := by decide +kernel
theorem dX1_linesThrough_27 : decode cX1_linesThrough 27 = .ok (.goto (-23), 3) := by decide +kernel
theorem dX1_linesThrough_30 : decode cX1_linesThrough 30 = .ok (.iload_n 2, 1) := by decide +kernel
theorem dX1_linesThrough_31 : decode cX1_linesThrough 31 = .ok (.ireturn, 1) := by decide +kernel
set_option maxRecDepth 20000 in
theorem ggX1_magicLinesThrough_X1_lines : GoodIn wsX1_magicLinesThrough wsX1_lines := goodIn_r _ [5, 6, 32, 33, 34] (by decide +kernel) (by decide +kernel)
set_option maxRecDepth 20000 in
theorem gX1_magicLinesThrough_X1_lines : GoodIn wsX1_magicLinesThrough (wsV RX1 32 RX1 yX1_lines wsX1_lines) := goodIn_app (goodIn_of _ (by decide +kernel)) ggX1_magicLinesThrough_X1_lines
set_option maxRecDepth 20000 in
theorem ggX1_magicLinesThrough_X1_passesThrough : GoodIn wsX1_magicLinesThrough wsX1_passesThrough := goodIn_r _ [10, 6, 11, 12, 13, 4, 14, 32, 33, 34] (by decide +kernel) (by decide +kernel)
set_option maxRecDepth 20000 in
theorem gX1_magicLinesThrough_X1_passesThrough : GoodIn wsX1_magicLinesThrough (wsV RX1 67 RX1 yX1_passesThrough wsX1_passesThrough) := goodIn_app (goodIn_of _ (by decide +kernel)) ggX1_magicLinesThrough_X1_passesThrough
set_option maxRecDepth 20000 in
theorem ggX1_magicLinesThrough_X1_isMagicLine : GoodIn wsX1_magicLinesThrough wsX1_isMagicLine := goodIn_r _ [18, 19, 20, 21, 4, 22, 6, 11, 12, 13, 14, 23, 24, 25, 26, 27, 28, 29, 30, 31, 32, 33, 34] (by decide +kernel) (by decide +kernel)
set_option maxRecDepth 20000 in
theorem gX1_magicLinesThrough_X1_isMagicLine : GoodIn wsX1_magicLinesThrough (wsV RX1 71 RX1 yX1_isMagicLine wsX1_isMagicLine) := goodIn_app (goodIn_of _ (by decide +kernel)) ggX1_magicLinesThrough_X1_isMagicLine
theorem dX1_magicLinesThrough_0 : decode cX1_magicLinesThrough 0 = .ok (.iconst 0, 1) := by decide +kernel
theorem dX1_magicLinesThrough_1 : decode cX1_magicLinesThrough 1 = .ok (.istore_n 2, 1) := by decide +kernel
theorem dX1_magicLinesThrough_2 : decode cX1_magicLinesThrough 2 = .ok (.iconst 0, 1) := by decide +kernel
theorem dX1_magicLinesThrough_3 : decode cX1_magicLinesThrough 3 = .ok (.istore_n 3, 1) := by decide +kernel
theorem dX1_magicLinesThrough_4 : decode cX1_magicLinesThrough 4 = .ok (.iload_n 3, 1) := by decide +kernel
theorem dX1_magicLinesThrough_5 : decode cX1_magicLinesThrough 5 = .ok (.aload_n 0, 1) := by decide +kernel
theorem dX1_magicLinesThrough_6 : decode cX1_magicLinesThrough 6 = .ok (.invokevirtual 32, 3) := by decide +kernel
theorem dX1_magicLinesThrough_9 : decode cX1_magicLinesThrough 9 = .ok (.if_icmp .ge 29, 3) := by decide +kernel
theorem dX1_magicLinesThrough_12 : decode cX1_magicLinesThrough 12 = .ok (.aload_n 0, 1) := by decide +kernel
theorem dX1_magicLinesThrough_13 : decode cX1_magicLinesThrough 13 = .ok (.iload_n 3, 1) := by decide +kernel
theorem dX1_magicLinesThrough_14 : decode cX1_magicLinesThrough 14 = .ok (.iload_n 1, 1) := by decide +kernel
theorem dX1_magicLinesThrough_15 : decode cX1_magicLinesThrough 15 = .ok (.invokevirtual 67, 3) := by decide +kernel
theorem dX1_magicLinesThrough_18 : decode cX1_magicLinesThrough 18 = .ok (.ifCond .eq 14, 3) := by decide +kernel
theorem dX1_magicLinesThrough_21 : decode cX1_magicLinesThrough 21 = .ok (.aload_n 0, 1) := by decide +kernel
theorem dX1_magicLinesThrough_22 : decode cX1_magicLinesThrough 22 = .ok (.iload_n 3, 1) := by decide +kernel
theorem dX1_magicLinesThrough_23 : decode cX1_magicLinesThrough 23 = .ok (.invokevirtual 71, 3) := by decide +kernel
theorem dX1_magicLinesThrough_26 : decode cX1_magicLinesThrough 26 = .ok (.ifCond .eq 6, 3) := by decide +kernel
theorem dX1_magicLinesThrough_29 : decode cX1_magicLinesThrough 29 = .ok (.iinc 2 1, 3) := by decide +kernel
theorem dX1_magicLinesThrough_32 : decode cX1_magicLinesThrough 32 = .ok (.iinc 3 1, 3) := by decide +kernel
theorem dX1_magicLinesThrough_35 : decode cX1_magicLinesThrough 35 = .ok (.goto (-31), 3) := by decide +kernel
theorem dX1_magicLinesThrough_38 : decode cX1_magicLinesThrough 38 = .ok (.iload_n 2, 1) := by decide +kernel
theorem dX1_magicLinesThrough_39 : decode cX1_magicLinesThrough 39 = .ok (.ireturn, 1) := by decide +kernel
set_option maxRecDepth 20000 in
theorem ggX1_magicLines_X1_lines : GoodIn wsX1_magicLines wsX1_lines := goodIn_r _ [5, 6, 28, 29, 30] (by decide +kernel) (by decide +kernel)
set_option maxRecDepth 20000 in
theorem gX1_magicLines_X1_lines : GoodIn wsX1_magicLines (wsV RX1 32 RX1 yX1_lines wsX1_lines) := goodIn_app (goodIn_of _ (by decide +kernel)) ggX1_magicLines_X1_lines
set_option maxRecDepth 20000 in
theorem ggX1_magicLines_X1_isMagicLine : GoodIn wsX1_magicLines wsX1_isMagicLine := goodIn_r _ [10, 11, 12, 13, 4, 14, 6, 15, 16, 17, 18, 19, 20, 21, 22, 23, 24, 25, 26, 27, 28, 29, 30] (by decide +kernel) (by decide +kernel)
set_option maxRecDepth 20000 in
theorem gX1_magicLines_X1_isMagicLine : GoodIn wsX1_magicLines (wsV RX1 71 RX1 yX1_isMagicLine wsX1_isMagicLine) := goodIn_app (goodIn_of _ (by decide +kernel)) ggX1_magicLines_X1_isMagicLine
theorem dX1_magicLines_0 : decode cX1_magicLines 0 = .ok (.iconst 0, 1) := by decide +kernel
theorem dX1_magicLines_1 : decode cX1_magicLines 1 = .ok (.istore_n 1, 1) := by decide +kernel
theorem dX1_magicLines_2 : decode cX1_magicLines 2 = .ok (.iconst 0, 1) := by decide +kernel
theorem dX1_magicLines_3 : decode cX1_magicLines 3 = .ok (.istore_n 2, 1) := by decide +kernel
theorem dX1_magicLines_4 : decode cX1_magicLines 4 = .ok (.iload_n 2, 1) := by decide +kernel
theorem dX1_magicLines_5 : decode cX1_magicLines 5 = .ok (.aload_n 0, 1) := by decide +kernel
theorem dX1_magicLines_6 : decode cX1_magicLines 6 = .ok (.invokevirtual 32, 3) := by decide +kernel
theorem dX1_magicLines_9 : decode cX1_magicLines 9 = .ok (.if_icmp .ge 20, 3) := by decide +kernel
theorem dX1_magicLines_12 : decode cX1_magicLines 12 = .ok (.aload_n 0, 1) := by decide +kernel
theorem dX1_magicLines_13 : decode cX1_magicLines 13 = .ok (.iload_n 2, 1) := by decide +kernel
theorem dX1_magicLines_14 : decode cX1_magicLines 14 = .ok (.invokevirtual 71, 3) := by decide +kernel
theorem dX1_magicLines_17 : decode cX1_magicLines 17 = .ok (.ifCond .eq 6, 3) := by decide +kernel
theorem dX1_magicLines_20 : decode cX1_magicLines 20 = .ok (.iinc 1 1, 3) := by decide +kernel
theorem dX1_magicLines_23 : decode cX1_magicLines 23 = .ok (.iinc 2 1, 3) := by decide +kernel
theorem dX1_magicLines_26 : decode cX1_magicLines 26 = .ok (.goto (-22), 3) := by decide +kernel
theorem dX1_magicLines_29 : decode cX1_magicLines 29 = .ok (.iload_n 1, 1) := by decide +kernel
theorem dX1_magicLines_30 : decode cX1_magicLines 30 = .ok (.ireturn, 1) := by decide +kernel
set_option maxRecDepth 20000 in
theorem ggX1_isMagic_X1_magicLines : GoodIn wsX1_isMagic wsX1_magicLines := goodIn_r _ [5, 6, 7, 8, 4, 9, 10, 11, 12, 13, 14, 15, 16, 17, 18, 19, 20, 21, 22, 23, 24, 25, 26, 27, 28, 29, 30, 31, 32, 33, 34] (by decide +kernel) (by decide +kernel)
set_option maxRecDepth 20000 in
theorem gX1_isMagic_X1_magicLines : GoodIn wsX1_isMagic (wsV RX1 75 RX1 yX1_magicLines wsX1_magicLines) := goodIn_app (goodIn_of _ (by decide +kernel)) ggX1_isMagic_X1_magicLines
set_option maxRecDepth 20000 in
theorem ggX1_isMagic_X1_lines : GoodIn wsX1_isMagic wsX1_lines := goodIn_r _ [9, 10, 32, 33, 34] (by decide +kernel) (by decide +kernel)
set_option maxRecDepth 20000 in
theorem gX1_isMagic_X1_lines : GoodIn wsX1_isMagic (wsV RX1 32 RX1 yX1_lines wsX1_lines) := goodIn_app (goodIn_of _ (by decide +kernel)) ggX1_isMagic_X1_lines
theorem dX1_isMagic_0 : decode cX1_isMagic 0 = .ok (.aload_n 0, 1) := by decide +kernel
theorem dX1_isMagic_1 : decode cX1_isMagic 1 = .ok (.invokevirtual 75, 3) := by decide +kernel
theorem dX1_isMagic_4 : decode cX1_isMagic 4 = .ok (.aload_n 0, 1) := by decide +kernel
theorem dX1_isMagic_5 : decode cX1_isMagic 5 = .ok (.invokevirtual 32, 3) := by decide +kernel
theorem dX1_isMagic_8 : decode cX1_isMagic 8 = .ok (.if_icmp .ne 7, 3) := by decide +kernel
theorem dX1_isMagic_11 : decode cX1_isMagic 11 = .ok (.iconst 1, 1) := by decide +kernel
theorem dX1_isMagic_12 : decode cX1_isMagic 12 = .ok (.goto 4, 3) := by decide +kernel
theorem dX1_isMagic_15 : decode cX1_isMagic 15 = .ok (.iconst 0, 1) := by decide +kernel
theorem dX1_isMagic_16 : decode cX1_isMagic 16 = .ok (.ireturn, 1) := by decide +kernel
set_option maxRecDepth 20000 in
theorem ggX1_wayOff_X1_lines : GoodIn wsX1_wayOff wsX1_lines := goodIn_r _ [5, 6, 32, 33, 34] (by decide +kernel) (by decide +kernel)
set_option maxRecDepth 20000 in
theorem gX1_wayOff_X1_lines : GoodIn wsX1_wayOff (wsV RX1 32 RX1 yX1_lines wsX1_lines) := goodIn_app (goodIn_of _ (by decide +kernel)) ggX1_wayOff_X1_lines
set_option maxRecDepth 20000 in
theorem ggX1_wayOff_X1_differenceOf : GoodIn wsX1_wayOff wsX1_differenceOf := goodIn_r _ [10, 11, 12, 13, 14, 15, 16, 17, 4, 18, 6, 19, 20, 21, 22, 23, 24, 25, 26, 27, 28, 29, 30, 31, 32, 33, 34] (by decide +kernel) (by decide +kernel)
set_option maxRecDepth 20000 in
theorem gX1_wayOff_X1_differenceOf : GoodIn wsX1_wayOff (wsV RX1 78 RX1 yX1_differenceOf wsX1_differenceOf) := goodIn_app (goodIn_of _ (by decide +kernel)) ggX1_wayOff_X1_differenceOf
theorem dX1_wayOff_0 : decode cX1_wayOff 0 = .ok (.iconst 0, 1) := by decide +kernel
theorem dX1_wayOff_1 : decode cX1_wayOff 1 = .ok (.istore_n 1, 1) := by decide +kernel
theorem dX1_wayOff_2 : decode cX1_wayOff 2 = .ok (.iconst 0, 1) := by decide +kernel
theorem dX1_wayOff_3 : decode cX1_wayOff 3 = .ok (.istore_n 2, 1) := by decide +kernel
theorem dX1_wayOff_4 : decode cX1_wayOff 4 = .ok (.iload_n 2, 1) := by decide +kernel
theorem dX1_wayOff_5 : decode cX1_wayOff 5 = .ok (.aload_n 0, 1) := by decide +kernel
theorem dX1_wayOff_6 : decode cX1_wayOff 6 = .ok (.invokevirtual 32, 3) := by decide +kernel
theorem dX1_wayOff_9 : decode cX1_wayOff 9 = .ok (.if_icmp .ge 17, 3) := by decide +kernel
theorem dX1_wayOff_12 : decode cX1_wayOff 12 = .ok (.iload_n 1, 1) := by decide +kernel
theorem dX1_wayOff_13 : decode cX1_wayOff 13 = .ok (.aload_n 0, 1) := by decide +kernel
