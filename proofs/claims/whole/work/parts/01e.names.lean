theorem dX5_swapError_66 : decode cX5_swapError 66 = .ok (.bipush (-4), 2) := by decide +kernel
theorem dX5_swapError_68 : decode cX5_swapError 68 = .ok (.ireturn, 1) := by decide +kernel
theorem dX5_swapError_69 : decode cX5_swapError 69 = .ok (.aload_n 0, 1) := by decide +kernel
theorem dX5_swapError_70 : decode cX5_swapError 70 = .ok (.getfield 10, 3) := by decide +kernel
theorem dX5_swapError_73 : decode cX5_swapError 73 = .ok (.aload_n 0, 1) := by decide +kernel
theorem dX5_swapError_74 : decode cX5_swapError 74 = .ok (.getfield 10, 3) := by decide +kernel
theorem dX5_swapError_77 : decode cX5_swapError 77 = .ok (.invokevirtual 86, 3) := by decide +kernel
theorem dX5_swapError_80 : decode cX5_swapError 80 = .ok (.invokevirtual 89, 3) := by decide +kernel
theorem dX5_swapError_83 : decode cX5_swapError 83 = .ok (.ifCond .eq 7, 3) := by decide +kernel
theorem dX5_swapError_86 : decode cX5_swapError 86 = .ok (.iconst 0, 1) := by decide +kernel
theorem dX5_swapError_87 : decode cX5_swapError 87 = .ok (.goto 5, 3) := by decide +kernel
theorem dX5_swapError_90 : decode cX5_swapError 90 = .ok (.bipush (-3), 2) := by decide +kernel
theorem dX5_swapError_92 : decode cX5_swapError 92 = .ok (.ireturn, 1) := by decide +kernel
set_option maxRecDepth 20000 in
theorem ggX5_freeze_X5_freezeError : GoodIn wsX5_freeze wsX5_freezeError := goodIn_r _ [7, 2, 8, 9, 10, 11, 12, 13, 14, 15, 16, 17, 18, 19, 20, 21, 22, 23, 24, 25, 26, 27, 28, 29, 30, 31, 32, 33, 34, 35, 36, 37, 38, 39, 40, 41, 42, 43, 44, 45, 46, 121, 122, 123, 124, 125, 126, 127, 128, 129, 130, 131, 132, 133, 134, 135, 136, 137] (by decide +kernel) (by decide +kernel)
set_option maxRecDepth 20000 in
theorem gX5_freeze_X5_freezeError : GoodIn wsX5_freeze (wsV RX5 92 RX5 yX5_freezeError wsX5_freezeError) := goodIn_app (goodIn_of _ (by decide +kernel)) ggX5_freeze_X5_freezeError
set_option maxRecDepth 20000 in
theorem ggX5_freeze_X0_record : GoodIn wsX5_freeze wsX0_record := goodIn_r _ [51, 52, 53, 54, 55, 56, 50, 57, 58, 59, 60, 61, 62, 63, 64, 30, 65, 66, 67, 46, 68, 69, 70, 71, 72, 36, 41, 73, 74, 75, 76, 77, 78, 11, 79, 17, 80, 81, 26, 82, 83, 84, 85, 86, 87, 88, 89, 90, 138, 139, 126, 127, 128, 129, 130, 131, 132, 133, 134, 135, 136, 137, 140, 141, 142] (by decide +kernel) (by decide +kernel)
set_option maxRecDepth 20000 in
theorem gX5_freeze_X0_record : GoodIn wsX5_freeze (wsV RX5 37 RX0 yX0_record wsX0_record) := goodIn_app (goodIn_of _ (by decide +kernel)) ggX5_freeze_X0_record
set_option maxRecDepth 20000 in
theorem ggX5_freeze_X2_makeFreeze : GoodIn wsX5_freeze wsX2_makeFreeze := goodIn_r _ [94, 66, 95, 28, 29, 30, 31, 32, 33, 34, 35, 36, 96, 97, 98, 99, 41, 73, 100, 101, 102, 103, 46, 104, 105, 106, 107, 108, 109, 110, 111, 11, 112, 26, 113, 114, 115, 116, 126, 127, 128, 129, 130, 131, 132, 133, 134, 135, 136, 137] (by decide +kernel) (by decide +kernel)
set_option maxRecDepth 20000 in
theorem gX5_freeze_X2_makeFreeze : GoodIn wsX5_freeze (wsV RX5 95 RX2 yX2_makeFreeze wsX2_makeFreeze) := goodIn_app (goodIn_of _ (by decide +kernel)) ggX5_freeze_X2_makeFreeze
set_option maxRecDepth 20000 in
theorem ggX5_freeze_X1_frozenCells : GoodIn wsX5_freeze wsX1_frozenCells := goodIn_r _ [120, 26, 135, 136, 137] (by decide +kernel) (by decide +kernel)
set_option maxRecDepth 20000 in
theorem gX5_freeze_X1_frozenCells : GoodIn wsX5_freeze (wsV RX5 98 RX1 yX1_frozenCells wsX1_frozenCells) := goodIn_app (goodIn_of _ (by decide +kernel)) ggX5_freeze_X1_frozenCells
theorem dX5_freeze_0 : decode cX5_freeze 0 = .ok (.aload_n 0, 1) := by decide +kernel
theorem dX5_freeze_1 : decode cX5_freeze 1 = .ok (.iload_n 1, 1) := by decide +kernel
theorem dX5_freeze_2 : decode cX5_freeze 2 = .ok (.iload_n 2, 1) := by decide +kernel
theorem dX5_freeze_3 : decode cX5_freeze 3 = .ok (.invokevirtual 92, 3) := by decide +kernel
theorem dX5_freeze_6 : decode cX5_freeze 6 = .ok (.istore_n 3, 1) := by decide +kernel
theorem dX5_freeze_7 : decode cX5_freeze 7 = .ok (.iload_n 3, 1) := by decide +kernel
theorem dX5_freeze_8 : decode cX5_freeze 8 = .ok (.ifCond .eq 5, 3) := by decide +kernel
theorem dX5_freeze_11 : decode cX5_freeze 11 = .ok (.iload_n 3, 1) := by decide +kernel
theorem dX5_freeze_12 : decode cX5_freeze 12 = .ok (.ireturn, 1) := by decide +kernel
theorem dX5_freeze_13 : decode cX5_freeze 13 = .ok (.aload_n 0, 1) := by decide +kernel
theorem dX5_freeze_14 : decode cX5_freeze 14 = .ok (.getfield 19, 3) := by decide +kernel
theorem dX5_freeze_17 : decode cX5_freeze 17 = .ok (.aload_n 0, 1) := by decide +kernel
theorem dX5_freeze_18 : decode cX5_freeze 18 = .ok (.getfield 10, 3) := by decide +kernel
theorem dX5_freeze_21 : decode cX5_freeze 21 = .ok (.invokevirtual 37, 3) := by decide +kernel
theorem dX5_freeze_24 : decode cX5_freeze 24 = .ok (.aload_n 0, 1) := by decide +kernel
theorem dX5_freeze_25 : decode cX5_freeze 25 = .ok (.getfield 10, 3) := by decide +kernel
theorem dX5_freeze_28 : decode cX5_freeze 28 = .ok (.iload_n 1, 1) := by decide +kernel
theorem dX5_freeze_29 : decode cX5_freeze 29 = .ok (.iload_n 2, 1) := by decide +kernel
theorem dX5_freeze_30 : decode cX5_freeze 30 = .ok (.invokevirtual 95, 3) := by decide +kernel
theorem dX5_freeze_33 : decode cX5_freeze 33 = .ok (.aload_n 0, 1) := by decide +kernel
theorem dX5_freeze_34 : decode cX5_freeze 34 = .ok (.getfield 10, 3) := by decide +kernel
theorem dX5_freeze_37 : decode cX5_freeze 37 = .ok (.getfield 44, 3) := by decide +kernel
theorem dX5_freeze_40 : decode cX5_freeze 40 = .ok (.invokevirtual 98, 3) := by decide +kernel
theorem dX5_freeze_43 : decode cX5_freeze 43 = .ok (.ireturn, 1) := by decide +kernel
set_option maxRecDepth 20000 in
theorem ggX5_freezeError_X1_hasCell : GoodIn wsX5_freezeError wsX1_hasCell := goodIn_r _ [6, 7, 8, 9, 5, 10, 11, 55, 56, 57] (by decide +kernel) (by decide +kernel)
set_option maxRecDepth 20000 in
theorem gX5_freezeError_X1_hasCell : GoodIn wsX5_freezeError (wsV RX5 79 RX1 yX1_hasCell wsX1_hasCell) := goodIn_app (goodIn_of _ (by decide +kernel)) ggX5_freezeError_X1_hasCell
set_option maxRecDepth 20000 in
theorem ggX5_freezeError_X1_isFrozen : GoodIn wsX5_freezeError wsX1_isFrozen := goodIn_r _ [15, 16, 17, 18, 5, 19, 20, 55, 56, 57] (by decide +kernel) (by decide +kernel)
set_option maxRecDepth 20000 in
theorem gX5_freezeError_X1_isFrozen : GoodIn wsX5_freezeError (wsV RX5 83 RX1 yX1_isFrozen wsX1_isFrozen) := goodIn_app (goodIn_of _ (by decide +kernel)) ggX5_freezeError_X1_isFrozen
set_option maxRecDepth 20000 in
theorem ggX5_freezeError_X2_priceOfFreeze : GoodIn wsX5_freezeError wsX2_priceOfFreeze := goodIn_r _ [25, 26, 27, 28, 24, 29, 30, 46, 47, 48, 49, 50, 51, 52, 53, 54] (by decide +kernel) (by decide +kernel)
set_option maxRecDepth 20000 in
theorem gX5_freezeError_X2_priceOfFreeze : GoodIn wsX5_freezeError (wsV RX5 101 RX2 yX2_priceOfFreeze wsX2_priceOfFreeze) := goodIn_app (goodIn_of _ (by decide +kernel)) ggX5_freezeError_X2_priceOfFreeze
set_option maxRecDepth 20000 in
theorem ggX5_freezeError_X2_canPay : GoodIn wsX5_freezeError wsX2_canPay := goodIn_r _ [34, 35, 36, 37, 38, 24, 39, 40, 46, 47, 48, 49, 50, 51, 52, 53, 54] (by decide +kernel) (by decide +kernel)
set_option maxRecDepth 20000 in
theorem gX5_freezeError_X2_canPay : GoodIn wsX5_freezeError (wsV RX5 89 RX2 yX2_canPay wsX2_canPay) := goodIn_app (goodIn_of _ (by decide +kernel)) ggX5_freezeError_X2_canPay
theorem dX5_freezeError_0 : decode cX5_freezeError 0 = .ok (.aload_n 0, 1) := by decide +kernel
theorem dX5_freezeError_1 : decode cX5_freezeError 1 = .ok (.getfield 10, 3) := by decide +kernel
theorem dX5_freezeError_4 : decode cX5_freezeError 4 = .ok (.getfield 44, 3) := by decide +kernel
theorem dX5_freezeError_7 : decode cX5_freezeError 7 = .ok (.iload_n 1, 1) := by decide +kernel
theorem dX5_freezeError_8 : decode cX5_freezeError 8 = .ok (.invokevirtual 79, 3) := by decide +kernel
theorem dX5_freezeError_11 : decode cX5_freezeError 11 = .ok (.ifCond .ne 5, 3) := by decide +kernel
theorem dX5_freezeError_14 : decode cX5_freezeError 14 = .ok (.iconst (-1), 1) := by decide +kernel
theorem dX5_freezeError_15 : decode cX5_freezeError 15 = .ok (.ireturn, 1) := by decide +kernel
theorem dX5_freezeError_16 : decode cX5_freezeError 16 = .ok (.iload_n 2, 1) := by decide +kernel
theorem dX5_freezeError_17 : decode cX5_freezeError 17 = .ok (.iconst 1, 1) := by decide +kernel
theorem dX5_freezeError_18 : decode cX5_freezeError 18 = .ok (.if_icmp .lt 9, 3) := by decide +kernel
theorem dX5_freezeError_21 : decode cX5_freezeError 21 = .ok (.iload_n 2, 1) := by decide +kernel
theorem dX5_freezeError_22 : decode cX5_freezeError 22 = .ok (.bipush 6, 2) := by decide +kernel
theorem dX5_freezeError_24 : decode cX5_freezeError 24 = .ok (.if_icmp .le 6, 3) := by decide +kernel
theorem dX5_freezeError_27 : decode cX5_freezeError 27 = .ok (.bipush (-2), 2) := by decide +kernel
theorem dX5_freezeError_29 : decode cX5_freezeError 29 = .ok (.ireturn, 1) := by decide +kernel
theorem dX5_freezeError_30 : decode cX5_freezeError 30 = .ok (.aload_n 0, 1) := by decide +kernel
theorem dX5_freezeError_31 : decode cX5_freezeError 31 = .ok (.getfield 10, 3) := by decide +kernel
theorem dX5_freezeError_34 : decode cX5_freezeError 34 = .ok (.getfield 44, 3) := by decide +kernel
theorem dX5_freezeError_37 : decode cX5_freezeError 37 = .ok (.iload_n 1, 1) := by decide +kernel
theorem dX5_freezeError_38 : decode cX5_freezeError 38 = .ok (.invokevirtual 83, 3) := by decide +kernel
theorem dX5_freezeError_41 : decode cX5_freezeError 41 = .ok (.ifCond .eq 6, 3) := by decide +kernel
theorem dX5_freezeError_44 : decode cX5_freezeError 44 = .ok (.bipush (-4), 2) := by decide +kernel
theorem dX5_freezeError_46 : decode cX5_freezeError 46 = .ok (.ireturn, 1) := by decide +kernel
theorem dX5_freezeError_47 : decode cX5_freezeError 47 = .ok (.aload_n 0, 1) := by decide +kernel
theorem dX5_freezeError_48 : decode cX5_freezeError 48 = .ok (.getfield 10, 3) := by decide +kernel
theorem dX5_freezeError_51 : decode cX5_freezeError 51 = .ok (.aload_n 0, 1) := by decide +kernel
theorem dX5_freezeError_52 : decode cX5_freezeError 52 = .ok (.getfield 10, 3) := by decide +kernel
theorem dX5_freezeError_55 : decode cX5_freezeError 55 = .ok (.iload_n 2, 1) := by decide +kernel
theorem dX5_freezeError_56 : decode cX5_freezeError 56 = .ok (.invokevirtual 101, 3) := by decide +kernel
theorem dX5_freezeError_59 : decode cX5_freezeError 59 = .ok (.invokevirtual 89, 3) := by decide +kernel
theorem dX5_freezeError_62 : decode cX5_freezeError 62 = .ok (.ifCond .eq 7, 3) := by decide +kernel
theorem dX5_freezeError_65 : decode cX5_freezeError 65 = .ok (.iconst 0, 1) := by decide +kernel
theorem dX5_freezeError_66 : decode cX5_freezeError 66 = .ok (.goto 5, 3) := by decide +kernel
theorem dX5_freezeError_69 : decode cX5_freezeError 69 = .ok (.bipush (-3), 2) := by decide +kernel
theorem dX5_freezeError_71 : decode cX5_freezeError 71 = .ok (.ireturn, 1) := by decide +kernel
set_option maxRecDepth 20000 in
theorem ggX5_stake_X5_stakeError : GoodIn wsX5_stake wsX5_stakeError := goodIn_r _ [7, 2, 8, 9, 10, 11, 12, 13, 14, 15, 16, 17, 18, 19, 20, 21, 22, 23, 24, 25, 26, 27, 28, 29, 30, 31, 32, 33, 34, 141, 142, 143, 144, 145, 146, 147, 148, 149, 150, 151, 152, 153, 154, 155, 156, 157, 158, 159, 160] (by decide +kernel) (by decide +kernel)
set_option maxRecDepth 20000 in
theorem gX5_stake_X5_stakeError : GoodIn wsX5_stake (wsV RX5 105 RX5 yX5_stakeError wsX5_stakeError) := goodIn_app (goodIn_of _ (by decide +kernel)) ggX5_stake_X5_stakeError
set_option maxRecDepth 20000 in
theorem ggX5_stake_X0_record : GoodIn wsX5_stake wsX0_record := goodIn_r _ [39, 40, 41, 42, 43, 44, 38, 45, 46, 47, 48, 49, 50, 51, 52, 27, 53, 54, 55, 34, 56, 57, 58, 59, 60, 61, 29, 62, 63, 64, 65, 66, 67, 11, 68, 17, 69, 70, 71, 72, 73, 74, 21, 75, 23, 76, 77, 78, 161, 162, 146, 147, 148, 149, 150, 151, 152, 153, 154, 155, 156, 157, 158, 159, 160] (by decide +kernel) (by decide +kernel)
set_option maxRecDepth 20000 in
theorem gX5_stake_X0_record : GoodIn wsX5_stake (wsV RX5 37 RX0 yX0_record wsX0_record) := goodIn_app (goodIn_of _ (by decide +kernel)) ggX5_stake_X0_record
set_option maxRecDepth 20000 in
theorem ggX5_stake_X2_layStake : GoodIn wsX5_stake wsX2_layStake := goodIn_r _ [82, 29, 55, 54, 83, 84, 85, 27, 86, 34, 87, 88, 89, 90, 91, 92, 93, 94, 11, 95, 17, 96, 97, 98, 99, 100, 101, 102, 103, 69, 104, 105, 21, 106, 107, 108, 109, 110, 111, 112, 113, 114, 115, 116, 117, 118, 119, 120, 121, 122, 123, 13, 14, 15, 16, 124, 125, 126, 127, 128, 129, 130, 131, 132, 23, 78, 133, 134, 135, 136, 76, 146, 147, 148, 149, 150, 151, 152, 153, 154, 155, 156, 157, 158, 159, 160] (by decide +kernel) (by decide +kernel)
set_option maxRecDepth 20000 in
theorem gX5_stake_X2_layStake : GoodIn wsX5_stake (wsV RX5 109 RX2 yX2_layStake wsX2_layStake) := goodIn_app (goodIn_of _ (by decide +kernel)) ggX5_stake_X2_layStake
set_option maxRecDepth 20000 in
theorem ggX5_stake_X3_size : GoodIn wsX5_stake wsX3_size := goodIn_r _ [140, 23, 158, 159, 160] (by decide +kernel) (by decide +kernel)
set_option maxRecDepth 20000 in
theorem gX5_stake_X3_size : GoodIn wsX5_stake (wsV RX5 117 RX3 yX3_size wsX3_size) := goodIn_app (goodIn_of _ (by decide +kernel)) ggX5_stake_X3_size
theorem dX5_stake_0 : decode cX5_stake 0 = .ok (.aload_n 0, 1) := by decide +kernel
theorem dX5_stake_1 : decode cX5_stake 1 = .ok (.iload_n 1, 1) := by decide +kernel
theorem dX5_stake_2 : decode cX5_stake 2 = .ok (.iload_n 2, 1) := by decide +kernel
theorem dX5_stake_3 : decode cX5_stake 3 = .ok (.iload_n 3, 1) := by decide +kernel
theorem dX5_stake_4 : decode cX5_stake 4 = .ok (.invokevirtual 105, 3) := by decide +kernel
theorem dX5_stake_7 : decode cX5_stake 7 = .ok (.istore 4, 2) := by decide +kernel
theorem dX5_stake_9 : decode cX5_stake 9 = .ok (.iload 4, 2) := by decide +kernel
theorem dX5_stake_11 : decode cX5_stake 11 = .ok (.ifCond .eq 6, 3) := by decide +kernel
theorem dX5_stake_14 : decode cX5_stake 14 = .ok (.iload 4, 2) := by decide +kernel
theorem dX5_stake_16 : decode cX5_stake 16 = .ok (.ireturn, 1) := by decide +kernel
theorem dX5_stake_17 : decode cX5_stake 17 = .ok (.aload_n 0, 1) := by decide +kernel
theorem dX5_stake_18 : decode cX5_stake 18 = .ok (.getfield 19, 3) := by decide +kernel
theorem dX5_stake_21 : decode cX5_stake 21 = .ok (.aload_n 0, 1) := by decide +kernel
theorem dX5_stake_22 : decode cX5_stake 22 = .ok (.getfield 10, 3) := by decide +kernel
theorem dX5_stake_25 : decode cX5_stake 25 = .ok (.invokevirtual 37, 3) := by decide +kernel
theorem dX5_stake_28 : decode cX5_stake 28 = .ok (.aload_n 0, 1) := by decide +kernel
theorem dX5_stake_29 : decode cX5_stake 29 = .ok (.getfield 10, 3) := by decide +kernel
theorem dX5_stake_32 : decode cX5_stake 32 = .ok (.iload_n 1, 1) := by decide +kernel
theorem dX5_stake_33 : decode cX5_stake 33 = .ok (.iload_n 2, 1) := by decide +kernel
theorem dX5_stake_34 : decode cX5_stake 34 = .ok (.iload_n 3, 1) := by decide +kernel
theorem dX5_stake_35 : decode cX5_stake 35 = .ok (.invokevirtual 109, 3) := by decide +kernel
theorem dX5_stake_38 : decode cX5_stake 38 = .ok (.aload_n 0, 1) := by decide +kernel
theorem dX5_stake_39 : decode cX5_stake 39 = .ok (.getfield 10, 3) := by decide +kernel
theorem dX5_stake_42 : decode cX5_stake 42 = .ok (.getfield 113, 3) := by decide +kernel
theorem dX5_stake_45 : decode cX5_stake 45 = .ok (.invokevirtual 117, 3) := by decide +kernel
theorem dX5_stake_48 : decode cX5_stake 48 = .ok (.ireturn, 1) := by decide +kernel
set_option maxRecDepth 20000 in
theorem ggX5_stakeError_X1_hasLine : GoodIn wsX5_stakeError wsX1_hasLine := goodIn_r _ [6, 7, 8, 9, 5, 10, 11, 43, 44, 45] (by decide +kernel) (by decide +kernel)
set_option maxRecDepth 20000 in
theorem gX5_stakeError_X1_hasLine : GoodIn wsX5_stakeError (wsV RX5 122 RX1 yX1_hasLine wsX1_hasLine) := goodIn_app (goodIn_of _ (by decide +kernel)) ggX5_stakeError_X1_hasLine
set_option maxRecDepth 20000 in
theorem ggX5_stakeError_X3_isFull : GoodIn wsX5_stakeError wsX3_isFull := goodIn_r _ [16, 17, 46, 47, 48] (by decide +kernel) (by decide +kernel)
set_option maxRecDepth 20000 in
theorem gX5_stakeError_X3_isFull : GoodIn wsX5_stakeError (wsV RX5 125 RX3 yX3_isFull wsX3_isFull) := goodIn_app (goodIn_of _ (by decide +kernel)) ggX5_stakeError_X3_isFull
set_option maxRecDepth 20000 in
theorem ggX5_stakeError_X2_canPay : GoodIn wsX5_stakeError wsX2_canPay := goodIn_r _ [22, 23, 24, 25, 26, 21, 27, 28, 34, 35, 36, 37, 38, 39, 40, 41, 42] (by decide +kernel) (by decide +kernel)
set_option maxRecDepth 20000 in
theorem gX5_stakeError_X2_canPay : GoodIn wsX5_stakeError (wsV RX5 89 RX2 yX2_canPay wsX2_canPay) := goodIn_app (goodIn_of _ (by decide +kernel)) ggX5_stakeError_X2_canPay
theorem dX5_stakeError_0 : decode cX5_stakeError 0 = .ok (.aload_n 0, 1) := by decide +kernel
theorem dX5_stakeError_1 : decode cX5_stakeError 1 = .ok (.getfield 10, 3) := by decide +kernel
theorem dX5_stakeError_4 : decode cX5_stakeError 4 = .ok (.getfield 44, 3) := by decide +kernel
theorem dX5_stakeError_7 : decode cX5_stakeError 7 = .ok (.iload_n 1, 1) := by decide +kernel
theorem dX5_stakeError_8 : decode cX5_stakeError 8 = .ok (.invokevirtual 122, 3) := by decide +kernel
theorem dX5_stakeError_11 : decode cX5_stakeError 11 = .ok (.ifCond .ne 5, 3) := by decide +kernel
theorem dX5_stakeError_14 : decode cX5_stakeError 14 = .ok (.iconst (-1), 1) := by decide +kernel
theorem dX5_stakeError_15 : decode cX5_stakeError 15 = .ok (.ireturn, 1) := by decide +kernel
theorem dX5_stakeError_16 : decode cX5_stakeError 16 = .ok (.iload_n 2, 1) := by decide +kernel
theorem dX5_stakeError_17 : decode cX5_stakeError 17 = .ok (.ifCond .lt 8, 3) := by decide +kernel
theorem dX5_stakeError_20 : decode cX5_stakeError 20 = .ok (.iload_n 2, 1) := by decide +kernel
theorem dX5_stakeError_21 : decode cX5_stakeError 21 = .ok (.iconst 2, 1) := by decide +kernel
theorem dX5_stakeError_22 : decode cX5_stakeError 22 = .ok (.if_icmp .le 6, 3) := by decide +kernel
theorem dX5_stakeError_25 : decode cX5_stakeError 25 = .ok (.bipush (-2), 2) := by decide +kernel
theorem dX5_stakeError_27 : decode cX5_stakeError 27 = .ok (.ireturn, 1) := by decide +kernel
theorem dX5_stakeError_28 : decode cX5_stakeError 28 = .ok (.iload_n 3, 1) := by decide +kernel
theorem dX5_stakeError_29 : decode cX5_stakeError 29 = .ok (.iconst 1, 1) := by decide +kernel
theorem dX5_stakeError_30 : decode cX5_stakeError 30 = .ok (.if_icmp .lt 9, 3) := by decide +kernel
theorem dX5_stakeError_33 : decode cX5_stakeError 33 = .ok (.iload_n 3, 1) := by decide +kernel
theorem dX5_stakeError_34 : decode cX5_stakeError 34 = .ok (.bipush 99, 2) := by decide +kernel
theorem dX5_stakeError_36 : decode cX5_stakeError 36 = .ok (.if_icmp .le 6, 3) := by decide +kernel
theorem dX5_stakeError_39 : decode cX5_stakeError 39 = .ok (.bipush (-2), 2) := by decide +kernel
theorem dX5_stakeError_41 : decode cX5_stakeError 41 = .ok (.ireturn, 1) := by decide +kernel
theorem dX5_stakeError_42 : decode cX5_stakeError 42 = .ok (.aload_n 0, 1) := by decide +kernel
theorem dX5_stakeError_43 : decode cX5_stakeError 43 = .ok (.getfield 10, 3) := by decide +kernel
theorem dX5_stakeError_46 : decode cX5_stakeError 46 = .ok (.getfield 113, 3) := by decide +kernel
theorem dX5_stakeError_49 : decode cX5_stakeError 49 = .ok (.invokevirtual 125, 3) := by decide +kernel
theorem dX5_stakeError_52 : decode cX5_stakeError 52 = .ok (.ifCond .ne 14, 3) := by decide +kernel
theorem dX5_stakeError_55 : decode cX5_stakeError 55 = .ok (.aload_n 0, 1) := by decide +kernel
theorem dX5_stakeError_56 : decode cX5_stakeError 56 = .ok (.getfield 10, 3) := by decide +kernel
theorem dX5_stakeError_59 : decode cX5_stakeError 59 = .ok (.iload_n 3, 1) := by decide +kernel
theorem dX5_stakeError_60 : decode cX5_stakeError 60 = .ok (.invokevirtual 89, 3) := by decide +kernel
theorem dX5_stakeError_63 : decode cX5_stakeError 63 = .ok (.ifCond .ne 8, 3) := by decide +kernel
theorem dX5_stakeError_66 : decode cX5_stakeError 66 = .ok (.bipush (-3), 2) := by decide +kernel
theorem dX5_stakeError_68 : decode cX5_stakeError 68 = .ok (.goto 4, 3) := by decide +kernel
theorem dX5_stakeError_71 : decode cX5_stakeError 71 = .ok (.iconst 0, 1) := by decide +kernel
theorem dX5_stakeError_72 : decode cX5_stakeError 72 = .ok (.ireturn, 1) := by decide +kernel
set_option maxRecDepth 20000 in
theorem ggX5_pass_X0_record : GoodIn wsX5_pass wsX0_record := goodIn_r _ [7, 8, 9, 10, 11, 12, 6, 13, 14, 15, 16, 17, 18, 19, 20, 21, 22, 23, 24, 25, 26, 27, 28, 29, 30, 31, 32, 33, 34, 35, 36, 37, 38, 39, 40, 41, 42, 43, 44, 45, 46, 47, 48, 49, 50, 51, 52, 53, 67, 68, 69, 70, 71, 72, 73, 74, 75, 76, 77, 78, 79, 80, 81, 82, 83] (by decide +kernel) (by decide +kernel)
set_option maxRecDepth 20000 in
theorem gX5_pass_X0_record : GoodIn wsX5_pass (wsV RX5 37 RX0 yX0_record wsX0_record) := goodIn_app (goodIn_of _ (by decide +kernel)) ggX5_pass_X0_record
set_option maxRecDepth 20000 in
theorem ggX5_pass_X2_passTurn : GoodIn wsX5_pass wsX2_passTurn := goodIn_r _ [57, 32, 69, 70, 71, 72, 73, 74, 75, 76, 77] (by decide +kernel) (by decide +kernel)
set_option maxRecDepth 20000 in
theorem gX5_pass_X2_passTurn : GoodIn wsX5_pass (wsV RX5 129 RX2 yX2_passTurn wsX2_passTurn) := goodIn_app (goodIn_of _ (by decide +kernel)) ggX5_pass_X2_passTurn
set_option maxRecDepth 20000 in
theorem ggX5_pass_X2_turn : GoodIn wsX5_pass wsX2_turn := goodIn_r _ [61, 32, 69, 70, 71, 72, 73, 74, 75, 76, 77] (by decide +kernel) (by decide +kernel)
set_option maxRecDepth 20000 in
theorem gX5_pass_X2_turn : GoodIn wsX5_pass (wsV RX5 132 RX2 yX2_turn wsX2_turn) := goodIn_app (goodIn_of _ (by decide +kernel)) ggX5_pass_X2_turn
theorem dX5_pass_0 : decode cX5_pass 0 = .ok (.aload_n 0, 1) := by decide +kernel
theorem dX5_pass_1 : decode cX5_pass 1 = .ok (.getfield 19, 3) := by decide +kernel
theorem dX5_pass_4 : decode cX5_pass 4 = .ok (.aload_n 0, 1) := by decide +kernel
theorem dX5_pass_5 : decode cX5_pass 5 = .ok (.getfield 10, 3) := by decide +kernel
theorem dX5_pass_8 : decode cX5_pass 8 = .ok (.invokevirtual 37, 3) := by decide +kernel
theorem dX5_pass_11 : decode cX5_pass 11 = .ok (.aload_n 0, 1) := by decide +kernel
theorem dX5_pass_12 : decode cX5_pass 12 = .ok (.getfield 10, 3) := by decide +kernel
theorem dX5_pass_15 : decode cX5_pass 15 = .ok (.invokevirtual 129, 3) := by decide +kernel
theorem dX5_pass_18 : decode cX5_pass 18 = .ok (.aload_n 0, 1) := by decide +kernel
theorem dX5_pass_19 : decode cX5_pass 19 = .ok (.getfield 10, 3) := by decide +kernel
theorem dX5_pass_22 : decode cX5_pass 22 = .ok (.invokevirtual 132, 3) := by decide +kernel
theorem dX5_pass_25 : decode cX5_pass 25 = .ok (.ireturn, 1) := by decide +kernel
set_option maxRecDepth 20000 in
theorem ggX5_set_X2_allowsSetting : GoodIn wsX5_set wsX2_allowsSetting := goodIn_r _ [6] (by decide +kernel) (by decide +kernel)
set_option maxRecDepth 20000 in
theorem gX5_set_X2_allowsSetting : GoodIn wsX5_set (va_wsS RX5 135 yX2_allowsSetting wsX2_allowsSetting) := goodIn_app (goodIn_of _ (by decide +kernel)) ggX5_set_X2_allowsSetting
set_option maxRecDepth 20000 in
theorem ggX5_set_X2_settingOf : GoodIn wsX5_set wsX2_settingOf := goodIn_r _ [10, 11, 70, 71, 72, 73, 74, 75, 76, 77, 78] (by decide +kernel) (by decide +kernel)
set_option maxRecDepth 20000 in
theorem gX5_set_X2_settingOf : GoodIn wsX5_set (wsV RX5 139 RX2 yX2_settingOf wsX2_settingOf) := goodIn_app (goodIn_of _ (by decide +kernel)) ggX5_set_X2_settingOf
set_option maxRecDepth 20000 in
theorem ggX5_set_X0_record : GoodIn wsX5_set wsX0_record := goodIn_r _ [16, 17, 18, 19, 20, 21, 15, 22, 23, 24, 25, 26, 27, 28, 29, 5, 30, 31, 32, 33, 34, 35, 36, 37, 38, 11, 39, 40, 41, 42, 43, 44, 45, 46, 47, 48, 49, 50, 51, 52, 53, 54, 55, 56, 57, 58, 59, 60, 79, 80, 70, 71, 72, 73, 74, 75, 76, 77, 78, 81, 82, 83, 84, 85, 86] (by decide +kernel) (by decide +kernel)
set_option maxRecDepth 20000 in
theorem gX5_set_X0_record : GoodIn wsX5_set (wsV RX5 37 RX0 yX0_record wsX0_record) := goodIn_app (goodIn_of _ (by decide +kernel)) ggX5_set_X0_record
set_option maxRecDepth 20000 in
theorem ggX5_set_X2_changeSetting : GoodIn wsX5_set wsX2_changeSetting := goodIn_r _ [64, 11, 70, 71, 72, 73, 74, 75, 76, 77, 78] (by decide +kernel) (by decide +kernel)
set_option maxRecDepth 20000 in
theorem gX5_set_X2_changeSetting : GoodIn wsX5_set (wsV RX5 142 RX2 yX2_changeSetting wsX2_changeSetting) := goodIn_app (goodIn_of _ (by decide +kernel)) ggX5_set_X2_changeSetting
theorem dX5_set_0 : decode cX5_set 0 = .ok (.iload_n 1, 1) := by decide +kernel
theorem dX5_set_1 : decode cX5_set 1 = .ok (.iload_n 2, 1) := by decide +kernel
theorem dX5_set_2 : decode cX5_set 2 = .ok (.invokestatic 135, 3) := by decide +kernel
theorem dX5_set_5 : decode cX5_set 5 = .ok (.ifCond .ne 6, 3) := by decide +kernel
theorem dX5_set_8 : decode cX5_set 8 = .ok (.bipush (-2), 2) := by decide +kernel
theorem dX5_set_10 : decode cX5_set 10 = .ok (.ireturn, 1) := by decide +kernel
theorem dX5_set_11 : decode cX5_set 11 = .ok (.aload_n 0, 1) := by decide +kernel
theorem dX5_set_12 : decode cX5_set 12 = .ok (.getfield 10, 3) := by decide +kernel
theorem dX5_set_15 : decode cX5_set 15 = .ok (.iload_n 1, 1) := by decide +kernel
theorem dX5_set_16 : decode cX5_set 16 = .ok (.invokevirtual 139, 3) := by decide +kernel
theorem dX5_set_19 : decode cX5_set 19 = .ok (.istore_n 3, 1) := by decide +kernel
theorem dX5_set_20 : decode cX5_set 20 = .ok (.iload_n 3, 1) := by decide +kernel
theorem dX5_set_21 : decode cX5_set 21 = .ok (.iload_n 2, 1) := by decide +kernel
theorem dX5_set_22 : decode cX5_set 22 = .ok (.if_icmp .ne 6, 3) := by decide +kernel
theorem dX5_set_25 : decode cX5_set 25 = .ok (.bipush (-5), 2) := by decide +kernel
theorem dX5_set_27 : decode cX5_set 27 = .ok (.ireturn, 1) := by decide +kernel
theorem dX5_set_28 : decode cX5_set 28 = .ok (.aload_n 0, 1) := by decide +kernel
theorem dX5_set_29 : decode cX5_set 29 = .ok (.getfield 19, 3) := by decide +kernel
theorem dX5_set_32 : decode cX5_set 32 = .ok (.aload_n 0, 1) := by decide +kernel
theorem dX5_set_33 : decode cX5_set 33 = .ok (.getfield 10, 3) := by decide +kernel
theorem dX5_set_36 : decode cX5_set 36 = .ok (.invokevirtual 37, 3) := by decide +kernel
theorem dX5_set_39 : decode cX5_set 39 = .ok (.aload_n 0, 1) := by decide +kernel
theorem dX5_set_40 : decode cX5_set 40 = .ok (.getfield 10, 3) := by decide +kernel
theorem dX5_set_43 : decode cX5_set 43 = .ok (.iload_n 1, 1) := by decide +kernel
theorem dX5_set_44 : decode cX5_set 44 = .ok (.iload_n 2, 1) := by decide +kernel
theorem dX5_set_45 : decode cX5_set 45 = .ok (.invokevirtual 142, 3) := by decide +kernel
theorem dX5_set_48 : decode cX5_set 48 = .ok (.iload_n 3, 1) := by decide +kernel
theorem dX5_set_49 : decode cX5_set 49 = .ok (.ireturn, 1) := by decide +kernel
set_option maxRecDepth 20000 in
theorem ggX5_type_X4_couldAppend : GoodIn wsX5_type wsX4_couldAppend := goodIn_r _ [6, 7, 8, 18, 19] (by decide +kernel) (by decide +kernel)
set_option maxRecDepth 20000 in
theorem gX5_type_X4_couldAppend : GoodIn wsX5_type (wsV RX5 145 RX4 yX4_couldAppend wsX4_couldAppend) := goodIn_app (goodIn_of _ (by decide +kernel)) ggX5_type_X4_couldAppend
set_option maxRecDepth 20000 in
theorem ggX5_type_X4_length : GoodIn wsX5_type wsX4_length := goodIn_r _ [12, 7, 18, 19] (by decide +kernel) (by decide +kernel)
set_option maxRecDepth 20000 in
theorem gX5_type_X4_length : GoodIn wsX5_type (wsV RX5 149 RX4 yX4_length wsX4_length) := goodIn_app (goodIn_of _ (by decide +kernel)) ggX5_type_X4_length
theorem dX5_type_0 : decode cX5_type 0 = .ok (.aload_n 0, 1) := by decide +kernel
theorem dX5_type_1 : decode cX5_type 1 = .ok (.getfield 33, 3) := by decide +kernel
theorem dX5_type_4 : decode cX5_type 4 = .ok (.iload_n 1, 1) := by decide +kernel
theorem dX5_type_5 : decode cX5_type 5 = .ok (.invokevirtual 145, 3) := by decide +kernel
theorem dX5_type_8 : decode cX5_type 8 = .ok (.ifCond .eq 13, 3) := by decide +kernel
theorem dX5_type_11 : decode cX5_type 11 = .ok (.aload_n 0, 1) := by decide +kernel
theorem dX5_type_12 : decode cX5_type 12 = .ok (.getfield 33, 3) := by decide +kernel
theorem dX5_type_15 : decode cX5_type 15 = .ok (.invokevirtual 149, 3) := by decide +kernel
theorem dX5_type_18 : decode cX5_type 18 = .ok (.goto 5, 3) := by decide +kernel
theorem dX5_type_21 : decode cX5_type 21 = .ok (.bipush (-3), 2) := by decide +kernel
theorem dX5_type_23 : decode cX5_type 23 = .ok (.ireturn, 1) := by decide +kernel
set_option maxRecDepth 20000 in
theorem ggX5_clearText_X4_length : GoodIn wsX5_clearText wsX4_length := goodIn_r _ [6, 7, 17, 18] (by decide +kernel) (by decide +kernel)
set_option maxRecDepth 20000 in
theorem gX5_clearText_X4_length : GoodIn wsX5_clearText (wsV RX5 149 RX4 yX4_length wsX4_length) := goodIn_app (goodIn_of _ (by decide +kernel)) ggX5_clearText_X4_length
set_option maxRecDepth 20000 in
theorem ggX5_clearText_X4_empty : GoodIn wsX5_clearText wsX4_empty := goodIn_r _ [11, 7, 17, 18] (by decide +kernel) (by decide +kernel)
set_option maxRecDepth 20000 in
theorem gX5_clearText_X4_empty : GoodIn wsX5_clearText (wsV RX5 152 RX4 yX4_empty wsX4_empty) := goodIn_app (goodIn_of _ (by decide +kernel)) ggX5_clearText_X4_empty
theorem dX5_clearText_0 : decode cX5_clearText 0 = .ok (.aload_n 0, 1) := by decide +kernel
theorem dX5_clearText_1 : decode cX5_clearText 1 = .ok (.getfield 33, 3) := by decide +kernel
theorem dX5_clearText_4 : decode cX5_clearText 4 = .ok (.invokevirtual 149, 3) := by decide +kernel
theorem dX5_clearText_7 : decode cX5_clearText 7 = .ok (.istore_n 1, 1) := by decide +kernel
theorem dX5_clearText_8 : decode cX5_clearText 8 = .ok (.aload_n 0, 1) := by decide +kernel
theorem dX5_clearText_9 : decode cX5_clearText 9 = .ok (.getfield 33, 3) := by decide +kernel
theorem dX5_clearText_12 : decode cX5_clearText 12 = .ok (.invokevirtual 152, 3) := by decide +kernel
theorem dX5_clearText_15 : decode cX5_clearText 15 = .ok (.iload_n 1, 1) := by decide +kernel
theorem dX5_clearText_16 : decode cX5_clearText 16 = .ok (.ireturn, 1) := by decide +kernel
set_option maxRecDepth 20000 in
theorem ggX5_undo_X0_couldTakeBack : GoodIn wsX5_undo wsX0_couldTakeBack := goodIn_r _ [7, 8, 9, 10, 11, 6, 12, 13, 14, 15, 16, 17, 18, 19, 20, 21, 22, 23, 24, 25, 26, 27, 28, 29, 30, 31, 32, 33, 34, 35, 36, 37, 38, 39, 40, 41, 42, 43, 44, 45, 46, 47, 48, 49, 59, 60, 61, 62, 63, 64, 65, 66, 67, 68, 69, 70, 71, 72, 73, 74, 75] (by decide +kernel) (by decide +kernel)
set_option maxRecDepth 20000 in
theorem gX5_undo_X0_couldTakeBack : GoodIn wsX5_undo (wsV RX5 155 RX0 yX0_couldTakeBack wsX0_couldTakeBack) := goodIn_app (goodIn_of _ (by decide +kernel)) ggX5_undo_X0_couldTakeBack
set_option maxRecDepth 20000 in
theorem ggX5_undo_X0_size : GoodIn wsX5_undo wsX0_size := goodIn_r _ [53, 8, 59, 60] (by decide +kernel) (by decide +kernel)
set_option maxRecDepth 20000 in
theorem gX5_undo_X0_size : GoodIn wsX5_undo (wsV RX5 159 RX0 yX0_size wsX0_size) := goodIn_app (goodIn_of _ (by decide +kernel)) ggX5_undo_X0_size
theorem dX5_undo_0 : decode cX5_undo 0 = .ok (.aload_n 0, 1) := by decide +kernel
theorem dX5_undo_1 : decode cX5_undo 1 = .ok (.getfield 19, 3) := by decide +kernel
theorem dX5_undo_4 : decode cX5_undo 4 = .ok (.aload_n 0, 1) := by decide +kernel
theorem dX5_undo_5 : decode cX5_undo 5 = .ok (.getfield 10, 3) := by decide +kernel
theorem dX5_undo_8 : decode cX5_undo 8 = .ok (.invokevirtual 155, 3) := by decide +kernel
theorem dX5_undo_11 : decode cX5_undo 11 = .ok (.ifCond .eq 13, 3) := by decide +kernel
theorem dX5_undo_14 : decode cX5_undo 14 = .ok (.aload_n 0, 1) := by decide +kernel
theorem dX5_undo_15 : decode cX5_undo 15 = .ok (.getfield 19, 3) := by decide +kernel
theorem dX5_undo_18 : decode cX5_undo 18 = .ok (.invokevirtual 159, 3) := by decide +kernel
theorem dX5_undo_21 : decode cX5_undo 21 = .ok (.goto 5, 3) := by decide +kernel
theorem dX5_undo_24 : decode cX5_undo 24 = .ok (.bipush (-5), 2) := by decide +kernel
theorem dX5_undo_26 : decode cX5_undo 26 = .ok (.ireturn, 1) := by decide +kernel
set_option maxRecDepth 20000 in
theorem ggX5_keep_X2_takeFrom : GoodIn wsX5_keep wsX2_takeFrom := goodIn_r _ [8, 9, 10, 11, 12, 13, 14, 15, 16, 17, 18, 19, 20, 21, 22, 23, 24, 25, 26, 27, 28, 29, 30, 31, 32, 33, 34, 35, 36, 37, 38, 39, 77, 78, 79, 80, 81, 82, 83, 84, 85, 86, 87, 88, 89, 90, 91] (by decide +kernel) (by decide +kernel)
set_option maxRecDepth 20000 in
theorem gX5_keep_X2_takeFrom : GoodIn wsX5_keep (wsV RX5 160 RX2 yX2_takeFrom wsX2_takeFrom) := goodIn_app (goodIn_of _ (by decide +kernel)) ggX5_keep_X2_takeFrom
set_option maxRecDepth 20000 in
theorem ggX5_keep_X1_wayOff : GoodIn wsX5_keep wsX1_wayOff := goodIn_r _ [43, 44, 45, 46, 25, 47, 27, 48, 49, 50, 51, 52, 53, 54, 55, 56, 57, 58, 59, 60, 61, 62, 63, 64, 65, 66, 67, 28, 68, 69, 70, 71, 86, 87, 88] (by decide +kernel) (by decide +kernel)
set_option maxRecDepth 20000 in
theorem gX5_keep_X1_wayOff : GoodIn wsX5_keep (wsV RX5 57 RX1 yX1_wayOff wsX1_wayOff) := goodIn_app (goodIn_of _ (by decide +kernel)) ggX5_keep_X1_wayOff
theorem dX5_keep_0 : decode cX5_keep 0 = .ok (.aload_n 0, 1) := by decide +kernel
theorem dX5_keep_1 : decode cX5_keep 1 = .ok (.getfield 23, 3) := by decide +kernel
theorem dX5_keep_4 : decode cX5_keep 4 = .ok (.aload_n 0, 1) := by decide +kernel
theorem dX5_keep_5 : decode cX5_keep 5 = .ok (.getfield 10, 3) := by decide +kernel
theorem dX5_keep_8 : decode cX5_keep 8 = .ok (.invokevirtual 160, 3) := by decide +kernel
theorem dX5_keep_11 : decode cX5_keep 11 = .ok (.aload_n 0, 1) := by decide +kernel
theorem dX5_keep_12 : decode cX5_keep 12 = .ok (.iconst 1, 1) := by decide +kernel
theorem dX5_keep_13 : decode cX5_keep 13 = .ok (.putfield 26, 3) := by decide +kernel
theorem dX5_keep_16 : decode cX5_keep 16 = .ok (.aload_n 0, 1) := by decide +kernel
theorem dX5_keep_17 : decode cX5_keep 17 = .ok (.getfield 10, 3) := by decide +kernel
theorem dX5_keep_20 : decode cX5_keep 20 = .ok (.getfield 44, 3) := by decide +kernel
theorem dX5_keep_23 : decode cX5_keep 23 = .ok (.invokevirtual 57, 3) := by decide +kernel
theorem dX5_keep_26 : decode cX5_keep 26 = .ok (.ireturn, 1) := by decide +kernel
set_option maxRecDepth 20000 in
theorem ggX5_restore_X0_record : GoodIn wsX5_restore wsX0_record := goodIn_r _ [9, 10, 11, 12, 13, 14, 8, 15, 16, 17, 18, 19, 20, 21, 22, 23, 24, 25, 26, 27, 28, 29, 30, 31, 32, 33, 34, 35, 36, 37, 38, 39, 40, 41, 42, 43, 44, 45, 46, 47, 48, 49, 50, 51, 52, 53, 54, 55, 103, 104, 94, 95, 96, 97, 98, 99, 100, 101, 102, 105, 106, 107, 108, 109, 110] (by decide +kernel) (by decide +kernel)
set_option maxRecDepth 20000 in
theorem gX5_restore_X0_record : GoodIn wsX5_restore (wsV RX5 37 RX0 yX0_record wsX0_record) := goodIn_app (goodIn_of _ (by decide +kernel)) ggX5_restore_X0_record
set_option maxRecDepth 20000 in
theorem ggX5_restore_X2_takeFrom : GoodIn wsX5_restore wsX2_takeFrom := goodIn_r _ [24, 25, 26, 27, 28, 29, 30, 31, 32, 33, 34, 35, 36, 37, 38, 39, 40, 41, 42, 43, 44, 45, 46, 47, 48, 49, 50, 51, 52, 53, 54, 55, 94, 95, 96, 97, 98, 99, 100, 101, 102, 105, 106, 107, 108, 109, 110] (by decide +kernel) (by decide +kernel)
set_option maxRecDepth 20000 in
theorem gX5_restore_X2_takeFrom : GoodIn wsX5_restore (wsV RX5 160 RX2 yX2_takeFrom wsX2_takeFrom) := goodIn_app (goodIn_of _ (by decide +kernel)) ggX5_restore_X2_takeFrom
set_option maxRecDepth 20000 in
theorem ggX5_restore_X1_wayOff : GoodIn wsX5_restore wsX1_wayOff := goodIn_r _ [60, 61, 62, 63, 41, 64, 43, 65, 66, 67, 68, 69, 70, 71, 72, 73, 74, 75, 76, 77, 78, 79, 80, 81, 82, 83, 84, 44, 85, 86, 87, 88, 105, 106, 107] (by decide +kernel) (by decide +kernel)
set_option maxRecDepth 20000 in
theorem gX5_restore_X1_wayOff : GoodIn wsX5_restore (wsV RX5 57 RX1 yX1_wayOff wsX1_wayOff) := goodIn_app (goodIn_of _ (by decide +kernel)) ggX5_restore_X1_wayOff
theorem dX5_restore_0 : decode cX5_restore 0 = .ok (.aload_n 0, 1) := by decide +kernel
theorem dX5_restore_1 : decode cX5_restore 1 = .ok (.getfield 26, 3) := by decide +kernel
theorem dX5_restore_4 : decode cX5_restore 4 = .ok (.ifCond .ne 6, 3) := by decide +kernel
theorem dX5_restore_7 : decode cX5_restore 7 = .ok (.bipush (-5), 2) := by decide +kernel
theorem dX5_restore_9 : decode cX5_restore 9 = .ok (.ireturn, 1) := by decide +kernel
theorem dX5_restore_10 : decode cX5_restore 10 = .ok (.aload_n 0, 1) := by decide +kernel
theorem dX5_restore_11 : decode cX5_restore 11 = .ok (.getfield 19, 3) := by decide +kernel
theorem dX5_restore_14 : decode cX5_restore 14 = .ok (.aload_n 0, 1) := by decide +kernel
theorem dX5_restore_15 : decode cX5_restore 15 = .ok (.getfield 10, 3) := by decide +kernel
theorem dX5_restore_18 : decode cX5_restore 18 = .ok (.invokevirtual 37, 3) := by decide +kernel
theorem dX5_restore_21 : decode cX5_restore 21 = .ok (.aload_n 0, 1) := by decide +kernel
theorem dX5_restore_22 : decode cX5_restore 22 = .ok (.getfield 10, 3) := by decide +kernel
theorem dX5_restore_25 : decode cX5_restore 25 = .ok (.aload_n 0, 1) := by decide +kernel
theorem dX5_restore_26 : decode cX5_restore 26 = .ok (.getfield 23, 3) := by decide +kernel
theorem dX5_restore_29 : decode cX5_restore 29 = .ok (.invokevirtual 160, 3) := by decide +kernel
theorem dX5_restore_32 : decode cX5_restore 32 = .ok (.aload_n 0, 1) := by decide +kernel
theorem dX5_restore_33 : decode cX5_restore 33 = .ok (.getfield 10, 3) := by decide +kernel
theorem dX5_restore_36 : decode cX5_restore 36 = .ok (.getfield 44, 3) := by decide +kernel
theorem dX5_restore_39 : decode cX5_restore 39 = .ok (.invokevirtual 57, 3) := by decide +kernel
theorem dX5_restore_42 : decode cX5_restore 42 = .ok (.ireturn, 1) := by decide +kernel
set_option maxRecDepth 20000 in
theorem ggX5_cell_X1_hasCell : GoodIn wsX5_cell wsX1_hasCell := goodIn_r _ [6, 7, 8, 9, 5, 10, 11, 69, 70, 71] (by decide +kernel) (by decide +kernel)
set_option maxRecDepth 20000 in
theorem gX5_cell_X1_hasCell : GoodIn wsX5_cell (wsV RX5 79 RX1 yX1_hasCell wsX1_hasCell) := goodIn_app (goodIn_of _ (by decide +kernel)) ggX5_cell_X1_hasCell
set_option maxRecDepth 20000 in
theorem ggX5_cell_X1_numberAt : GoodIn wsX5_cell wsX1_numberAt := goodIn_r _ [15, 16, 69, 70, 71] (by decide +kernel) (by decide +kernel)
set_option maxRecDepth 20000 in
theorem gX5_cell_X1_numberAt : GoodIn wsX5_cell (wsV RX5 163 RX1 yX1_numberAt wsX1_numberAt) := goodIn_app (goodIn_of _ (by decide +kernel)) ggX5_cell_X1_numberAt
set_option maxRecDepth 20000 in
theorem ggX5_cell_X1_frozenFor : GoodIn wsX5_cell wsX1_frozenFor := goodIn_r _ [20, 21, 69, 70, 71] (by decide +kernel) (by decide +kernel)
set_option maxRecDepth 20000 in
theorem gX5_cell_X1_frozenFor : GoodIn wsX5_cell (wsV RX5 166 RX1 yX1_frozenFor wsX1_frozenFor) := goodIn_app (goodIn_of _ (by decide +kernel)) ggX5_cell_X1_frozenFor
set_option maxRecDepth 20000 in
theorem ggX5_cell_X1_linesThrough : GoodIn wsX5_cell wsX1_linesThrough := goodIn_r _ [25, 26, 27, 28, 5, 29, 11, 30, 31, 32, 33, 34, 35, 36, 37, 69, 70, 71] (by decide +kernel) (by decide +kernel)
set_option maxRecDepth 20000 in
theorem gX5_cell_X1_linesThrough : GoodIn wsX5_cell (wsV RX5 169 RX1 yX1_linesThrough wsX1_linesThrough) := goodIn_app (goodIn_of _ (by decide +kernel)) ggX5_cell_X1_linesThrough
set_option maxRecDepth 20000 in
theorem ggX5_cell_X1_magicLinesThrough : GoodIn wsX5_cell wsX1_magicLinesThrough := goodIn_r _ [41, 26, 27, 28, 5, 29, 11, 30, 31, 32, 33, 34, 35, 36, 37, 42, 43, 44, 45, 46, 47, 48, 49, 50, 13, 14, 15, 16, 51, 52, 53, 54, 69, 70, 71] (by decide +kernel) (by decide +kernel)
set_option maxRecDepth 20000 in
theorem gX5_cell_X1_magicLinesThrough : GoodIn wsX5_cell (wsV RX5 172 RX1 yX1_magicLinesThrough wsX1_magicLinesThrough) := goodIn_app (goodIn_of _ (by decide +kernel)) ggX5_cell_X1_magicLinesThrough
theorem dX5_cell_0 : decode cX5_cell 0 = .ok (.aload_n 0, 1) := by decide +kernel
theorem dX5_cell_1 : decode cX5_cell 1 = .ok (.getfield 10, 3) := by decide +kernel
theorem dX5_cell_4 : decode cX5_cell 4 = .ok (.getfield 44, 3) := by decide +kernel
theorem dX5_cell_7 : decode cX5_cell 7 = .ok (.iload_n 1, 1) := by decide +kernel
theorem dX5_cell_8 : decode cX5_cell 8 = .ok (.invokevirtual 79, 3) := by decide +kernel
theorem dX5_cell_11 : decode cX5_cell 11 = .ok (.ifCond .ne 5, 3) := by decide +kernel
theorem dX5_cell_14 : decode cX5_cell 14 = .ok (.iconst (-1), 1) := by decide +kernel
theorem dX5_cell_15 : decode cX5_cell 15 = .ok (.ireturn, 1) := by decide +kernel
theorem dX5_cell_16 : decode cX5_cell 16 = .ok (.iload_n 2, 1) := by decide +kernel
theorem dX5_cell_17 : decode cX5_cell 17 = .ok (.tableswitch 79 0 3 #[31, 43, 55, 67], 31) := by decide +kernel
theorem dX5_cell_48 : decode cX5_cell 48 = .ok (.aload_n 0, 1) := by decide +kernel
theorem dX5_cell_49 : decode cX5_cell 49 = .ok (.getfield 10, 3) := by decide +kernel
theorem dX5_cell_52 : decode cX5_cell 52 = .ok (.getfield 44, 3) := by decide +kernel
theorem dX5_cell_55 : decode cX5_cell 55 = .ok (.iload_n 1, 1) := by decide +kernel
theorem dX5_cell_56 : decode cX5_cell 56 = .ok (.invokevirtual 163, 3) := by decide +kernel
theorem dX5_cell_59 : decode cX5_cell 59 = .ok (.ireturn, 1) := by decide +kernel
theorem dX5_cell_60 : decode cX5_cell 60 = .ok (.aload_n 0, 1) := by decide +kernel
theorem dX5_cell_61 : decode cX5_cell 61 = .ok (.getfield 10, 3) := by decide +kernel
theorem dX5_cell_64 : decode cX5_cell 64 = .ok (.getfield 44, 3) := by decide +kernel
theorem dX5_cell_67 : decode cX5_cell 67 = .ok (.iload_n 1, 1) := by decide +kernel
theorem dX5_cell_68 : decode cX5_cell 68 = .ok (.invokevirtual 166, 3) := by decide +kernel
theorem dX5_cell_71 : decode cX5_cell 71 = .ok (.ireturn, 1) := by decide +kernel
theorem dX5_cell_72 : decode cX5_cell 72 = .ok (.aload_n 0, 1) := by decide +kernel
theorem dX5_cell_73 : decode cX5_cell 73 = .ok (.getfield 10, 3) := by decide +kernel
theorem dX5_cell_76 : decode cX5_cell 76 = .ok (.getfield 44, 3) := by decide +kernel
theorem dX5_cell_79 : decode cX5_cell 79 = .ok (.iload_n 1, 1) := by decide +kernel
theorem dX5_cell_80 : decode cX5_cell 80 = .ok (.invokevirtual 169, 3) := by decide +kernel
theorem dX5_cell_83 : decode cX5_cell 83 = .ok (.ireturn, 1) := by decide +kernel
theorem dX5_cell_84 : decode cX5_cell 84 = .ok (.aload_n 0, 1) := by decide +kernel
theorem dX5_cell_85 : decode cX5_cell 85 = .ok (.getfield 10, 3) := by decide +kernel
theorem dX5_cell_88 : decode cX5_cell 88 = .ok (.getfield 44, 3) := by decide +kernel
theorem dX5_cell_91 : decode cX5_cell 91 = .ok (.iload_n 1, 1) := by decide +kernel
theorem dX5_cell_92 : decode cX5_cell 92 = .ok (.invokevirtual 172, 3) := by decide +kernel
theorem dX5_cell_95 : decode cX5_cell 95 = .ok (.ireturn, 1) := by decide +kernel
theorem dX5_cell_96 : decode cX5_cell 96 = .ok (.bipush (-2), 2) := by decide +kernel
theorem dX5_cell_98 : decode cX5_cell 98 = .ok (.ireturn, 1) := by decide +kernel
set_option maxRecDepth 20000 in
theorem ggX5_line_X1_hasLine : GoodIn wsX5_line wsX1_hasLine := goodIn_r _ [6, 7, 8, 9, 5, 10, 11, 64, 65, 66] (by decide +kernel) (by decide +kernel)
set_option maxRecDepth 20000 in
theorem gX5_line_X1_hasLine : GoodIn wsX5_line (wsV RX5 122 RX1 yX1_hasLine wsX1_hasLine) := goodIn_app (goodIn_of _ (by decide +kernel)) ggX5_line_X1_hasLine
set_option maxRecDepth 20000 in
theorem ggX5_line_X1_sumOf : GoodIn wsX5_line wsX1_sumOf := goodIn_r _ [15, 11, 16, 17, 18, 5, 19, 20, 21, 22, 23, 24, 64, 65, 66] (by decide +kernel) (by decide +kernel)
set_option maxRecDepth 20000 in
theorem gX5_line_X1_sumOf : GoodIn wsX5_line (wsV RX5 175 RX1 yX1_sumOf wsX1_sumOf) := goodIn_app (goodIn_of _ (by decide +kernel)) ggX5_line_X1_sumOf
set_option maxRecDepth 20000 in
theorem ggX5_line_X1_magicNumber : GoodIn wsX5_line wsX1_magicNumber := goodIn_r _ [28, 11, 64, 65, 66] (by decide +kernel) (by decide +kernel)
set_option maxRecDepth 20000 in
theorem gX5_line_X1_magicNumber : GoodIn wsX5_line (wsV RX5 178 RX1 yX1_magicNumber wsX1_magicNumber) := goodIn_app (goodIn_of _ (by decide +kernel)) ggX5_line_X1_magicNumber
set_option maxRecDepth 20000 in
theorem ggX5_line_X1_isMagicLine : GoodIn wsX5_line wsX1_isMagicLine := goodIn_r _ [32, 33, 13, 14, 5, 15, 11, 16, 17, 18, 19, 20, 21, 22, 23, 24, 34, 26, 27, 28, 64, 65, 66] (by decide +kernel) (by decide +kernel)
set_option maxRecDepth 20000 in
theorem gX5_line_X1_isMagicLine : GoodIn wsX5_line (wsV RX5 181 RX1 yX1_isMagicLine wsX1_isMagicLine) := goodIn_app (goodIn_of _ (by decide +kernel)) ggX5_line_X1_isMagicLine
set_option maxRecDepth 20000 in
theorem ggX5_line_X3_stakesWith : GoodIn wsX5_line wsX3_stakesWith := goodIn_r _ [39, 40, 41, 42, 43, 38, 44, 45, 67, 68, 69] (by decide +kernel) (by decide +kernel)
set_option maxRecDepth 20000 in
theorem gX5_line_X3_stakesWith : GoodIn wsX5_line (wsV RX5 184 RX3 yX3_stakesWith wsX3_stakesWith) := goodIn_app (goodIn_of _ (by decide +kernel)) ggX5_line_X3_stakesWith
set_option maxRecDepth 20000 in
theorem ggX5_line_X3_amountWith : GoodIn wsX5_line wsX3_amountWith := goodIn_r _ [49, 40, 41, 42, 43, 38, 44, 45, 67, 68, 69] (by decide +kernel) (by decide +kernel)
set_option maxRecDepth 20000 in
theorem gX5_line_X3_amountWith : GoodIn wsX5_line (wsV RX5 187 RX3 yX3_amountWith wsX3_amountWith) := goodIn_app (goodIn_of _ (by decide +kernel)) ggX5_line_X3_amountWith
theorem dX5_line_0 : decode cX5_line 0 = .ok (.aload_n 0, 1) := by decide +kernel
theorem dX5_line_1 : decode cX5_line 1 = .ok (.getfield 10, 3) := by decide +kernel
theorem dX5_line_4 : decode cX5_line 4 = .ok (.getfield 44, 3) := by decide +kernel
theorem dX5_line_7 : decode cX5_line 7 = .ok (.iload_n 1, 1) := by decide +kernel
theorem dX5_line_8 : decode cX5_line 8 = .ok (.invokevirtual 122, 3) := by decide +kernel
theorem dX5_line_11 : decode cX5_line 11 = .ok (.ifCond .ne 5, 3) := by decide +kernel
theorem dX5_line_14 : decode cX5_line 14 = .ok (.iconst (-1), 1) := by decide +kernel
theorem dX5_line_15 : decode cX5_line 15 = .ok (.ireturn, 1) := by decide +kernel
theorem dX5_line_16 : decode cX5_line 16 = .ok (.iload_n 2, 1) := by decide +kernel
theorem dX5_line_17 : decode cX5_line 17 = .ok (.tableswitch 119 0 4 #[35, 47, 73, 93, 106], 35) := by decide +kernel
theorem dX5_line_52 : decode cX5_line 52 = .ok (.aload_n 0, 1) := by decide +kernel
theorem dX5_line_53 : decode cX5_line 53 = .ok (.getfield 10, 3) := by decide +kernel
theorem dX5_line_56 : decode cX5_line 56 = .ok (.getfield 44, 3) := by decide +kernel
theorem dX5_line_59 : decode cX5_line 59 = .ok (.iload_n 1, 1) := by decide +kernel
theorem dX5_line_60 : decode cX5_line 60 = .ok (.invokevirtual 175, 3) := by decide +kernel
theorem dX5_line_63 : decode cX5_line 63 = .ok (.ireturn, 1) := by decide +kernel
theorem dX5_line_64 : decode cX5_line 64 = .ok (.aload_n 0, 1) := by decide +kernel
theorem dX5_line_65 : decode cX5_line 65 = .ok (.getfield 10, 3) := by decide +kernel
theorem dX5_line_68 : decode cX5_line 68 = .ok (.getfield 44, 3) := by decide +kernel
theorem dX5_line_71 : decode cX5_line 71 = .ok (.iload_n 1, 1) := by decide +kernel
theorem dX5_line_72 : decode cX5_line 72 = .ok (.invokevirtual 175, 3) := by decide +kernel
theorem dX5_line_75 : decode cX5_line 75 = .ok (.aload_n 0, 1) := by decide +kernel
theorem dX5_line_76 : decode cX5_line 76 = .ok (.getfield 10, 3) := by decide +kernel
theorem dX5_line_79 : decode cX5_line 79 = .ok (.getfield 44, 3) := by decide +kernel
theorem dX5_line_82 : decode cX5_line 82 = .ok (.invokevirtual 178, 3) := by decide +kernel
theorem dX5_line_85 : decode cX5_line 85 = .ok (.isub, 1) := by decide +kernel
theorem dX5_line_86 : decode cX5_line 86 = .ok (.bipush 100, 2) := by decide +kernel
theorem dX5_line_88 : decode cX5_line 88 = .ok (.iadd, 1) := by decide +kernel
theorem dX5_line_89 : decode cX5_line 89 = .ok (.ireturn, 1) := by decide +kernel
theorem dX5_line_90 : decode cX5_line 90 = .ok (.aload_n 0, 1) := by decide +kernel
theorem dX5_line_91 : decode cX5_line 91 = .ok (.getfield 10, 3) := by decide +kernel
theorem dX5_line_94 : decode cX5_line 94 = .ok (.getfield 44, 3) := by decide +kernel
theorem dX5_line_97 : decode cX5_line 97 = .ok (.iload_n 1, 1) := by decide +kernel
theorem dX5_line_98 : decode cX5_line 98 = .ok (.invokevirtual 181, 3) := by decide +kernel
theorem dX5_line_101 : decode cX5_line 101 = .ok (.ifCond .eq 7, 3) := by decide +kernel
theorem dX5_line_104 : decode cX5_line 104 = .ok (.iconst 1, 1) := by decide +kernel
theorem dX5_line_105 : decode cX5_line 105 = .ok (.goto 4, 3) := by decide +kernel
theorem dX5_line_108 : decode cX5_line 108 = .ok (.iconst 0, 1) := by decide +kernel
theorem dX5_line_109 : decode cX5_line 109 = .ok (.ireturn, 1) := by decide +kernel
theorem dX5_line_110 : decode cX5_line 110 = .ok (.aload_n 0, 1) := by decide +kernel
theorem dX5_line_111 : decode cX5_line 111 = .ok (.getfield 10, 3) := by decide +kernel
theorem dX5_line_114 : decode cX5_line 114 = .ok (.getfield 113, 3) := by decide +kernel
theorem dX5_line_117 : decode cX5_line 117 = .ok (.iconst 1, 1) := by decide +kernel
theorem dX5_line_118 : decode cX5_line 118 = .ok (.iload_n 1, 1) := by decide +kernel
theorem dX5_line_119 : decode cX5_line 119 = .ok (.invokevirtual 184, 3) := by decide +kernel
theorem dX5_line_122 : decode cX5_line 122 = .ok (.ireturn, 1) := by decide +kernel
theorem dX5_line_123 : decode cX5_line 123 = .ok (.aload_n 0, 1) := by decide +kernel
theorem dX5_line_124 : decode cX5_line 124 = .ok (.getfield 10, 3) := by decide +kernel
theorem dX5_line_127 : decode cX5_line 127 = .ok (.getfield 113, 3) := by decide +kernel
theorem dX5_line_130 : decode cX5_line 130 = .ok (.iconst 1, 1) := by decide +kernel
theorem dX5_line_131 : decode cX5_line 131 = .ok (.iload_n 1, 1) := by decide +kernel
theorem dX5_line_132 : decode cX5_line 132 = .ok (.invokevirtual 187, 3) := by decide +kernel
theorem dX5_line_135 : decode cX5_line 135 = .ok (.ireturn, 1) := by decide +kernel
theorem dX5_line_136 : decode cX5_line 136 = .ok (.bipush (-2), 2) := by decide +kernel
theorem dX5_line_138 : decode cX5_line 138 = .ok (.ireturn, 1) := by decide +kernel
set_option maxRecDepth 20000 in
theorem ggX5_rival_X2_hasRival : GoodIn wsX5_rival wsX2_hasRival := goodIn_r _ [5] (by decide +kernel) (by decide +kernel)
set_option maxRecDepth 20000 in
theorem gX5_rival_X2_hasRival : GoodIn wsX5_rival (va_wsS RX5 190 yX2_hasRival wsX2_hasRival) := goodIn_app (goodIn_of _ (by decide +kernel)) ggX5_rival_X2_hasRival
set_option maxRecDepth 20000 in
theorem ggX5_rival_X2_purseOf : GoodIn wsX5_rival wsX2_purseOf := goodIn_r _ [9, 10, 77, 78, 79, 80, 81, 82, 83, 84, 85] (by decide +kernel) (by decide +kernel)
set_option maxRecDepth 20000 in
theorem gX5_rival_X2_purseOf : GoodIn wsX5_rival (wsV RX5 193 RX2 yX2_purseOf wsX2_purseOf) := goodIn_app (goodIn_of _ (by decide +kernel)) ggX5_rival_X2_purseOf
set_option maxRecDepth 20000 in
theorem ggX5_rival_X2_squaresWonBy : GoodIn wsX5_rival wsX2_squaresWonBy := goodIn_r _ [14, 15, 77, 78, 79, 80, 81, 82, 83, 84, 85] (by decide +kernel) (by decide +kernel)
set_option maxRecDepth 20000 in
theorem gX5_rival_X2_squaresWonBy : GoodIn wsX5_rival (wsV RX5 196 RX2 yX2_squaresWonBy wsX2_squaresWonBy) := goodIn_app (goodIn_of _ (by decide +kernel)) ggX5_rival_X2_squaresWonBy
set_option maxRecDepth 20000 in
theorem ggX5_rival_X3_stakesWith : GoodIn wsX5_rival wsX3_stakesWith := goodIn_r _ [20, 21, 22, 23, 24, 19, 25, 26, 86, 87, 88] (by decide +kernel) (by decide +kernel)
set_option maxRecDepth 20000 in
theorem gX5_rival_X3_stakesWith : GoodIn wsX5_rival (wsV RX5 184 RX3 yX3_stakesWith wsX3_stakesWith) := goodIn_app (goodIn_of _ (by decide +kernel)) ggX5_rival_X3_stakesWith
set_option maxRecDepth 20000 in
theorem ggX5_rival_X3_amountWith : GoodIn wsX5_rival wsX3_amountWith := goodIn_r _ [30, 21, 22, 23, 24, 19, 25, 26, 86, 87, 88] (by decide +kernel) (by decide +kernel)
set_option maxRecDepth 20000 in
theorem gX5_rival_X3_amountWith : GoodIn wsX5_rival (wsV RX5 187 RX3 yX3_amountWith wsX3_amountWith) := goodIn_app (goodIn_of _ (by decide +kernel)) ggX5_rival_X3_amountWith
set_option maxRecDepth 20000 in
theorem ggX5_rival_X3_dueTo : GoodIn wsX5_rival wsX3_dueTo := goodIn_r _ [34, 21, 22, 23, 24, 19, 25, 26, 35, 36, 37, 38, 39, 40, 41, 42, 43, 44, 45, 46, 47, 48, 49, 50, 51, 52, 53, 54, 55, 56, 57, 58, 59, 60, 61, 62, 63, 64, 65, 66, 67, 68, 69, 70, 71, 86, 87, 88, 89, 90, 91] (by decide +kernel) (by decide +kernel)
set_option maxRecDepth 20000 in
theorem gX5_rival_X3_dueTo : GoodIn wsX5_rival (wsV RX5 199 RX3 yX3_dueTo wsX3_dueTo) := goodIn_app (goodIn_of _ (by decide +kernel)) ggX5_rival_X3_dueTo
theorem dX5_rival_0 : decode cX5_rival 0 = .ok (.iload_n 1, 1) := by decide +kernel
theorem dX5_rival_1 : decode cX5_rival 1 = .ok (.invokestatic 190, 3) := by decide +kernel
theorem dX5_rival_4 : decode cX5_rival 4 = .ok (.ifCond .ne 5, 3) := by decide +kernel
theorem dX5_rival_7 : decode cX5_rival 7 = .ok (.iconst (-1), 1) := by decide +kernel
theorem dX5_rival_8 : decode cX5_rival 8 = .ok (.ireturn, 1) := by decide +kernel
theorem dX5_rival_9 : decode cX5_rival 9 = .ok (.iload_n 2, 1) := by decide +kernel
theorem dX5_rival_10 : decode cX5_rival 10 = .ok (.tableswitch 97 0 4 #[34, 43, 52, 65, 78], 34) := by decide +kernel
theorem dX5_rival_44 : decode cX5_rival 44 = .ok (.aload_n 0, 1) := by decide +kernel
theorem dX5_rival_45 : decode cX5_rival 45 = .ok (.getfield 10, 3) := by decide +kernel
theorem dX5_rival_48 : decode cX5_rival 48 = .ok (.iload_n 1, 1) := by decide +kernel
theorem dX5_rival_49 : decode cX5_rival 49 = .ok (.invokevirtual 193, 3) := by decide +kernel
theorem dX5_rival_52 : decode cX5_rival 52 = .ok (.ireturn, 1) := by decide +kernel
theorem dX5_rival_53 : decode cX5_rival 53 = .ok (.aload_n 0, 1) := by decide +kernel
theorem dX5_rival_54 : decode cX5_rival 54 = .ok (.getfield 10, 3) := by decide +kernel
theorem dX5_rival_57 : decode cX5_rival 57 = .ok (.iload_n 1, 1) := by decide +kernel
theorem dX5_rival_58 : decode cX5_rival 58 = .ok (.invokevirtual 196, 3) := by decide +kernel
theorem dX5_rival_61 : decode cX5_rival 61 = .ok (.ireturn, 1) := by decide +kernel
theorem dX5_rival_62 : decode cX5_rival 62 = .ok (.aload_n 0, 1) := by decide +kernel
theorem dX5_rival_63 : decode cX5_rival 63 = .ok (.getfield 10, 3) := by decide +kernel
theorem dX5_rival_66 : decode cX5_rival 66 = .ok (.getfield 113, 3) := by decide +kernel
theorem dX5_rival_69 : decode cX5_rival 69 = .ok (.iconst 0, 1) := by decide +kernel
theorem dX5_rival_70 : decode cX5_rival 70 = .ok (.iload_n 1, 1) := by decide +kernel
theorem dX5_rival_71 : decode cX5_rival 71 = .ok (.invokevirtual 184, 3) := by decide +kernel
theorem dX5_rival_74 : decode cX5_rival 74 = .ok (.ireturn, 1) := by decide +kernel
theorem dX5_rival_75 : decode cX5_rival 75 = .ok (.aload_n 0, 1) := by decide +kernel
theorem dX5_rival_76 : decode cX5_rival 76 = .ok (.getfield 10, 3) := by decide +kernel
theorem dX5_rival_79 : decode cX5_rival 79 = .ok (.getfield 113, 3) := by decide +kernel
theorem dX5_rival_82 : decode cX5_rival 82 = .ok (.iconst 0, 1) := by decide +kernel
theorem dX5_rival_83 : decode cX5_rival 83 = .ok (.iload_n 1, 1) := by decide +kernel
theorem dX5_rival_84 : decode cX5_rival 84 = .ok (.invokevirtual 187, 3) := by decide +kernel
theorem dX5_rival_87 : decode cX5_rival 87 = .ok (.ireturn, 1) := by decide +kernel
theorem dX5_rival_88 : decode cX5_rival 88 = .ok (.aload_n 0, 1) := by decide +kernel
theorem dX5_rival_89 : decode cX5_rival 89 = .ok (.getfield 10, 3) := by decide +kernel
theorem dX5_rival_92 : decode cX5_rival 92 = .ok (.getfield 113, 3) := by decide +kernel
theorem dX5_rival_95 : decode cX5_rival 95 = .ok (.iload_n 1, 1) := by decide +kernel
theorem dX5_rival_96 : decode cX5_rival 96 = .ok (.aload_n 0, 1) := by decide +kernel
theorem dX5_rival_97 : decode cX5_rival 97 = .ok (.getfield 10, 3) := by decide +kernel
theorem dX5_rival_100 : decode cX5_rival 100 = .ok (.getfield 44, 3) := by decide +kernel
theorem dX5_rival_103 : decode cX5_rival 103 = .ok (.invokevirtual 199, 3) := by decide +kernel
theorem dX5_rival_106 : decode cX5_rival 106 = .ok (.ireturn, 1) := by decide +kernel
theorem dX5_rival_107 : decode cX5_rival 107 = .ok (.bipush (-2), 2) := by decide +kernel
theorem dX5_rival_109 : decode cX5_rival 109 = .ok (.ireturn, 1) := by decide +kernel
set_option maxRecDepth 20000 in
theorem ggX5_stakeOf_X3_hasStake : GoodIn wsX5_stakeOf wsX3_hasStake := goodIn_r _ [6, 7, 65, 66, 67] (by decide +kernel) (by decide +kernel)
set_option maxRecDepth 20000 in
theorem gX5_stakeOf_X3_hasStake : GoodIn wsX5_stakeOf (wsV RX5 203 RX3 yX3_hasStake wsX3_hasStake) := goodIn_app (goodIn_of _ (by decide +kernel)) ggX5_stakeOf_X3_hasStake
set_option maxRecDepth 20000 in
theorem ggX5_stakeOf_X3_fact : GoodIn wsX5_stakeOf wsX3_fact := goodIn_r _ [11, 12, 65, 66, 67] (by decide +kernel) (by decide +kernel)
set_option maxRecDepth 20000 in
theorem gX5_stakeOf_X3_fact : GoodIn wsX5_stakeOf (wsV RX5 206 RX3 yX3_fact wsX3_fact) := goodIn_app (goodIn_of _ (by decide +kernel)) ggX5_stakeOf_X3_fact
set_option maxRecDepth 20000 in
theorem ggX5_stakeOf_X3_isRight : GoodIn wsX5_stakeOf wsX3_isRight := goodIn_r _ [16, 17, 9, 10, 5, 11, 12, 18, 19, 20, 21, 22, 23, 24, 25, 26, 27, 28, 29, 30, 31, 32, 33, 34, 35, 36, 37, 38, 39, 40, 41, 65, 66, 67, 68, 69, 70] (by decide +kernel) (by decide +kernel)
set_option maxRecDepth 20000 in
theorem gX5_stakeOf_X3_isRight : GoodIn wsX5_stakeOf (wsV RX5 209 RX3 yX3_isRight wsX3_isRight) := goodIn_app (goodIn_of _ (by decide +kernel)) ggX5_stakeOf_X3_isRight
set_option maxRecDepth 20000 in
theorem ggX5_stakeOf_X3_payout : GoodIn wsX5_stakeOf wsX3_payout := goodIn_r _ [45, 17, 9, 10, 5, 11, 12, 46, 47, 48, 49, 50, 65, 66, 67] (by decide +kernel) (by decide +kernel)
set_option maxRecDepth 20000 in
theorem gX5_stakeOf_X3_payout : GoodIn wsX5_stakeOf (wsV RX5 213 RX3 yX3_payout wsX3_payout) := goodIn_app (goodIn_of _ (by decide +kernel)) ggX5_stakeOf_X3_payout
theorem dX5_stakeOf_0 : decode cX5_stakeOf 0 = .ok (.aload_n 0, 1) := by decide +kernel
theorem dX5_stakeOf_1 : decode cX5_stakeOf 1 = .ok (.getfield 10, 3) := by decide +kernel
theorem dX5_stakeOf_4 : decode cX5_stakeOf 4 = .ok (.getfield 113, 3) := by decide +kernel
theorem dX5_stakeOf_7 : decode cX5_stakeOf 7 = .ok (.iload_n 1, 1) := by decide +kernel
theorem dX5_stakeOf_8 : decode cX5_stakeOf 8 = .ok (.invokevirtual 203, 3) := by decide +kernel
theorem dX5_stakeOf_11 : decode cX5_stakeOf 11 = .ok (.ifCond .ne 5, 3) := by decide +kernel
theorem dX5_stakeOf_14 : decode cX5_stakeOf 14 = .ok (.iconst (-1), 1) := by decide +kernel
theorem dX5_stakeOf_15 : decode cX5_stakeOf 15 = .ok (.ireturn, 1) := by decide +kernel
theorem dX5_stakeOf_16 : decode cX5_stakeOf 16 = .ok (.iload_n 2, 1) := by decide +kernel
theorem dX5_stakeOf_17 : decode cX5_stakeOf 17 = .ok (.tableswitch 147 0 6 #[43, 56, 69, 82, 95, 108, 135], 43) := by decide +kernel
theorem dX5_stakeOf_60 : decode cX5_stakeOf 60 = .ok (.aload_n 0, 1) := by decide +kernel
theorem dX5_stakeOf_61 : decode cX5_stakeOf 61 = .ok (.getfield 10, 3) := by decide +kernel
theorem dX5_stakeOf_64 : decode cX5_stakeOf 64 = .ok (.getfield 113, 3) := by decide +kernel
theorem dX5_stakeOf_67 : decode cX5_stakeOf 67 = .ok (.iload_n 1, 1) := by decide +kernel
theorem dX5_stakeOf_68 : decode cX5_stakeOf 68 = .ok (.iconst 0, 1) := by decide +kernel
theorem dX5_stakeOf_69 : decode cX5_stakeOf 69 = .ok (.invokevirtual 206, 3) := by decide +kernel
theorem dX5_stakeOf_72 : decode cX5_stakeOf 72 = .ok (.ireturn, 1) := by decide +kernel
theorem dX5_stakeOf_73 : decode cX5_stakeOf 73 = .ok (.aload_n 0, 1) := by decide +kernel
theorem dX5_stakeOf_74 : decode cX5_stakeOf 74 = .ok (.getfield 10, 3) := by decide +kernel
theorem dX5_stakeOf_77 : decode cX5_stakeOf 77 = .ok (.getfield 113, 3) := by decide +kernel
theorem dX5_stakeOf_80 : decode cX5_stakeOf 80 = .ok (.iload_n 1, 1) := by decide +kernel
theorem dX5_stakeOf_81 : decode cX5_stakeOf 81 = .ok (.iconst 1, 1) := by decide +kernel
theorem dX5_stakeOf_82 : decode cX5_stakeOf 82 = .ok (.invokevirtual 206, 3) := by decide +kernel
theorem dX5_stakeOf_85 : decode cX5_stakeOf 85 = .ok (.ireturn, 1) := by decide +kernel
theorem dX5_stakeOf_86 : decode cX5_stakeOf 86 = .ok (.aload_n 0, 1) := by decide +kernel
theorem dX5_stakeOf_87 : decode cX5_stakeOf 87 = .ok (.getfield 10, 3) := by decide +kernel
theorem dX5_stakeOf_90 : decode cX5_stakeOf 90 = .ok (.getfield 113, 3) := by decide +kernel
theorem dX5_stakeOf_93 : decode cX5_stakeOf 93 = .ok (.iload_n 1, 1) := by decide +kernel
theorem dX5_stakeOf_94 : decode cX5_stakeOf 94 = .ok (.iconst 2, 1) := by decide +kernel
theorem dX5_stakeOf_95 : decode cX5_stakeOf 95 = .ok (.invokevirtual 206, 3) := by decide +kernel
theorem dX5_stakeOf_98 : decode cX5_stakeOf 98 = .ok (.ireturn, 1) := by decide +kernel
theorem dX5_stakeOf_99 : decode cX5_stakeOf 99 = .ok (.aload_n 0, 1) := by decide +kernel
theorem dX5_stakeOf_100 : decode cX5_stakeOf 100 = .ok (.getfield 10, 3) := by decide +kernel
theorem dX5_stakeOf_103 : decode cX5_stakeOf 103 = .ok (.getfield 113, 3) := by decide +kernel
theorem dX5_stakeOf_106 : decode cX5_stakeOf 106 = .ok (.iload_n 1, 1) := by decide +kernel
theorem dX5_stakeOf_107 : decode cX5_stakeOf 107 = .ok (.iconst 3, 1) := by decide +kernel
theorem dX5_stakeOf_108 : decode cX5_stakeOf 108 = .ok (.invokevirtual 206, 3) := by decide +kernel
theorem dX5_stakeOf_111 : decode cX5_stakeOf 111 = .ok (.ireturn, 1) := by decide +kernel
theorem dX5_stakeOf_112 : decode cX5_stakeOf 112 = .ok (.aload_n 0, 1) := by decide +kernel
theorem dX5_stakeOf_113 : decode cX5_stakeOf 113 = .ok (.getfield 10, 3) := by decide +kernel
theorem dX5_stakeOf_116 : decode cX5_stakeOf 116 = .ok (.getfield 113, 3) := by decide +kernel
theorem dX5_stakeOf_119 : decode cX5_stakeOf 119 = .ok (.iload_n 1, 1) := by decide +kernel
theorem dX5_stakeOf_120 : decode cX5_stakeOf 120 = .ok (.iconst 4, 1) := by decide +kernel
theorem dX5_stakeOf_121 : decode cX5_stakeOf 121 = .ok (.invokevirtual 206, 3) := by decide +kernel
theorem dX5_stakeOf_124 : decode cX5_stakeOf 124 = .ok (.ireturn, 1) := by decide +kernel
theorem dX5_stakeOf_125 : decode cX5_stakeOf 125 = .ok (.aload_n 0, 1) := by decide +kernel
theorem dX5_stakeOf_126 : decode cX5_stakeOf 126 = .ok (.getfield 10, 3) := by decide +kernel
theorem dX5_stakeOf_129 : decode cX5_stakeOf 129 = .ok (.getfield 113, 3) := by decide +kernel
theorem dX5_stakeOf_132 : decode cX5_stakeOf 132 = .ok (.iload_n 1, 1) := by decide +kernel
theorem dX5_stakeOf_133 : decode cX5_stakeOf 133 = .ok (.aload_n 0, 1) := by decide +kernel
theorem dX5_stakeOf_134 : decode cX5_stakeOf 134 = .ok (.getfield 10, 3) := by decide +kernel
theorem dX5_stakeOf_137 : decode cX5_stakeOf 137 = .ok (.getfield 44, 3) := by decide +kernel
theorem dX5_stakeOf_140 : decode cX5_stakeOf 140 = .ok (.invokevirtual 209, 3) := by decide +kernel
theorem dX5_stakeOf_143 : decode cX5_stakeOf 143 = .ok (.ifCond .eq 7, 3) := by decide +kernel
theorem dX5_stakeOf_146 : decode cX5_stakeOf 146 = .ok (.iconst 1, 1) := by decide +kernel
theorem dX5_stakeOf_147 : decode cX5_stakeOf 147 = .ok (.goto 4, 3) := by decide +kernel
theorem dX5_stakeOf_150 : decode cX5_stakeOf 150 = .ok (.iconst 0, 1) := by decide +kernel
theorem dX5_stakeOf_151 : decode cX5_stakeOf 151 = .ok (.ireturn, 1) := by decide +kernel
theorem dX5_stakeOf_152 : decode cX5_stakeOf 152 = .ok (.aload_n 0, 1) := by decide +kernel
theorem dX5_stakeOf_153 : decode cX5_stakeOf 153 = .ok (.getfield 10, 3) := by decide +kernel
theorem dX5_stakeOf_156 : decode cX5_stakeOf 156 = .ok (.getfield 113, 3) := by decide +kernel
theorem dX5_stakeOf_159 : decode cX5_stakeOf 159 = .ok (.iload_n 1, 1) := by decide +kernel
theorem dX5_stakeOf_160 : decode cX5_stakeOf 160 = .ok (.invokevirtual 213, 3) := by decide +kernel
theorem dX5_stakeOf_163 : decode cX5_stakeOf 163 = .ok (.ireturn, 1) := by decide +kernel
theorem dX5_stakeOf_164 : decode cX5_stakeOf 164 = .ok (.bipush (-2), 2) := by decide +kernel
theorem dX5_stakeOf_166 : decode cX5_stakeOf 166 = .ok (.ireturn, 1) := by decide +kernel
set_option maxRecDepth 20000 in
theorem ggX5_odds_X3_hasStake : GoodIn wsX5_odds wsX3_hasStake := goodIn_r _ [7, 8, 28, 29, 30] (by decide +kernel) (by decide +kernel)
set_option maxRecDepth 20000 in
theorem gX5_odds_X3_hasStake : GoodIn wsX5_odds (wsV RX5 203 RX3 yX3_hasStake wsX3_hasStake) := goodIn_app (goodIn_of _ (by decide +kernel)) ggX5_odds_X3_hasStake
set_option maxRecDepth 20000 in
theorem ggX5_odds_X3_oddsOf : GoodIn wsX5_odds wsX3_oddsOf := goodIn_r _ [12, 13, 28, 29, 30] (by decide +kernel) (by decide +kernel)
set_option maxRecDepth 20000 in
theorem gX5_odds_X3_oddsOf : GoodIn wsX5_odds (wsV RX5 216 RX3 yX3_oddsOf wsX3_oddsOf) := goodIn_app (goodIn_of _ (by decide +kernel)) ggX5_odds_X3_oddsOf
theorem dX5_odds_0 : decode cX5_odds 0 = .ok (.aload_n 0, 1) := by decide +kernel
theorem dX5_odds_1 : decode cX5_odds 1 = .ok (.getfield 10, 3) := by decide +kernel
theorem dX5_odds_4 : decode cX5_odds 4 = .ok (.getfield 113, 3) := by decide +kernel
theorem dX5_odds_7 : decode cX5_odds 7 = .ok (.iload_n 1, 1) := by decide +kernel
theorem dX5_odds_8 : decode cX5_odds 8 = .ok (.invokevirtual 203, 3) := by decide +kernel
theorem dX5_odds_11 : decode cX5_odds 11 = .ok (.ifCond .eq 17, 3) := by decide +kernel
theorem dX5_odds_14 : decode cX5_odds 14 = .ok (.aload_n 0, 1) := by decide +kernel
theorem dX5_odds_15 : decode cX5_odds 15 = .ok (.getfield 10, 3) := by decide +kernel
theorem dX5_odds_18 : decode cX5_odds 18 = .ok (.getfield 113, 3) := by decide +kernel
theorem dX5_odds_21 : decode cX5_odds 21 = .ok (.iload_n 1, 1) := by decide +kernel
theorem dX5_odds_22 : decode cX5_odds 22 = .ok (.invokevirtual 216, 3) := by decide +kernel
theorem dX5_odds_25 : decode cX5_odds 25 = .ok (.goto 5, 3) := by decide +kernel
theorem dX5_odds_28 : decode cX5_odds 28 = .ok (.ldc 220, 2) := by decide +kernel
theorem dX5_odds_30 : decode cX5_odds 30 = .ok (.freturn, 1) := by decide +kernel
set_option maxRecDepth 20000 in
theorem ggX5_would_X1_hasCell : GoodIn wsX5_would wsX1_hasCell := goodIn_r _ [6, 7, 8, 9, 5, 10, 11, 102, 103, 104] (by decide +kernel) (by decide +kernel)
set_option maxRecDepth 20000 in
theorem gX5_would_X1_hasCell : GoodIn wsX5_would (wsV RX5 79 RX1 yX1_hasCell wsX1_hasCell) := goodIn_app (goodIn_of _ (by decide +kernel)) ggX5_would_X1_hasCell
set_option maxRecDepth 20000 in
theorem ggX5_would_X1_exchange : GoodIn wsX5_would wsX1_exchange := goodIn_r _ [15, 16, 102, 103, 104] (by decide +kernel) (by decide +kernel)
set_option maxRecDepth 20000 in
theorem gX5_would_X1_exchange : GoodIn wsX5_would (wsV RX5 221 RX1 yX1_exchange wsX1_exchange) := goodIn_app (goodIn_of _ (by decide +kernel)) ggX5_would_X1_exchange
set_option maxRecDepth 20000 in
theorem ggX5_would_X5_toldBySwap : GoodIn wsX5_would wsX5_toldBySwap := goodIn_r _ [21, 1, 22, 23, 24, 5, 25, 26, 27, 28, 29, 11, 30, 31, 32, 33, 34, 35, 36, 37, 38, 39, 40, 41, 42, 43, 44, 45, 46, 47, 48, 49, 16, 50, 51, 52, 53, 54, 55, 56, 57, 58, 59, 60, 61, 62, 63, 64, 65, 66, 67, 68, 69, 70, 71, 72, 73, 74, 75, 76, 77, 78, 79, 80, 81, 82, 83, 84, 85, 86, 87, 88, 89, 90, 91, 92, 93, 94, 95, 96, 97, 98, 99, 100, 101, 102, 103, 104, 105, 106, 107] (by decide +kernel) (by decide +kernel)
set_option maxRecDepth 20000 in
theorem gX5_would_X5_toldBySwap : GoodIn wsX5_would (wsV RX5 224 RX5 yX5_toldBySwap wsX5_toldBySwap) := goodIn_app (goodIn_of _ (by decide +kernel)) ggX5_would_X5_toldBySwap
theorem dX5_would_0 : decode cX5_would 0 = .ok (.aload_n 0, 1) := by decide +kernel
theorem dX5_would_1 : decode cX5_would 1 = .ok (.getfield 10, 3) := by decide +kernel
theorem dX5_would_4 : decode cX5_would 4 = .ok (.getfield 44, 3) := by decide +kernel
theorem dX5_would_7 : decode cX5_would 7 = .ok (.iload_n 1, 1) := by decide +kernel
theorem dX5_would_8 : decode cX5_would 8 = .ok (.invokevirtual 79, 3) := by decide +kernel
theorem dX5_would_11 : decode cX5_would 11 = .ok (.ifCond .eq 17, 3) := by decide +kernel
theorem dX5_would_14 : decode cX5_would 14 = .ok (.aload_n 0, 1) := by decide +kernel
theorem dX5_would_15 : decode cX5_would 15 = .ok (.getfield 10, 3) := by decide +kernel
theorem dX5_would_18 : decode cX5_would 18 = .ok (.getfield 44, 3) := by decide +kernel
theorem dX5_would_21 : decode cX5_would 21 = .ok (.iload_n 2, 1) := by decide +kernel
theorem dX5_would_22 : decode cX5_would 22 = .ok (.invokevirtual 79, 3) := by decide +kernel
theorem dX5_would_25 : decode cX5_would 25 = .ok (.ifCond .ne 5, 3) := by decide +kernel
theorem dX5_would_28 : decode cX5_would 28 = .ok (.iconst (-1), 1) := by decide +kernel
theorem dX5_would_29 : decode cX5_would 29 = .ok (.ireturn, 1) := by decide +kernel
theorem dX5_would_30 : decode cX5_would 30 = .ok (.iload_n 3, 1) := by decide +kernel
theorem dX5_would_31 : decode cX5_would 31 = .ok (.ifCond .lt 13, 3) := by decide +kernel
theorem dX5_would_34 : decode cX5_would 34 = .ok (.iload_n 3, 1) := by decide +kernel
theorem dX5_would_35 : decode cX5_would 35 = .ok (.iconst 2, 1) := by decide +kernel
theorem dX5_would_36 : decode cX5_would 36 = .ok (.if_icmp .gt 8, 3) := by decide +kernel
theorem dX5_would_39 : decode cX5_would 39 = .ok (.iload_n 1, 1) := by decide +kernel
theorem dX5_would_40 : decode cX5_would 40 = .ok (.iload_n 2, 1) := by decide +kernel
theorem dX5_would_41 : decode cX5_would 41 = .ok (.if_icmp .ne 6, 3) := by decide +kernel
theorem dX5_would_44 : decode cX5_would 44 = .ok (.bipush (-2), 2) := by decide +kernel
theorem dX5_would_46 : decode cX5_would 46 = .ok (.ireturn, 1) := by decide +kernel
theorem dX5_would_47 : decode cX5_would 47 = .ok (.aload_n 0, 1) := by decide +kernel
theorem dX5_would_48 : decode cX5_would 48 = .ok (.getfield 10, 3) := by decide +kernel
theorem dX5_would_51 : decode cX5_would 51 = .ok (.getfield 44, 3) := by decide +kernel
theorem dX5_would_54 : decode cX5_would 54 = .ok (.iload_n 1, 1) := by decide +kernel
theorem dX5_would_55 : decode cX5_would 55 = .ok (.iload_n 2, 1) := by decide +kernel
theorem dX5_would_56 : decode cX5_would 56 = .ok (.invokevirtual 221, 3) := by decide +kernel
theorem dX5_would_59 : decode cX5_would 59 = .ok (.aload_n 0, 1) := by decide +kernel
theorem dX5_would_60 : decode cX5_would 60 = .ok (.iload_n 3, 1) := by decide +kernel
theorem dX5_would_61 : decode cX5_would 61 = .ok (.invokevirtual 224, 3) := by decide +kernel
theorem dX5_would_64 : decode cX5_would 64 = .ok (.istore 4, 2) := by decide +kernel
theorem dX5_would_66 : decode cX5_would 66 = .ok (.aload_n 0, 1) := by decide +kernel
theorem dX5_would_67 : decode cX5_would 67 = .ok (.getfield 10, 3) := by decide +kernel
theorem dX5_would_70 : decode cX5_would 70 = .ok (.getfield 44, 3) := by decide +kernel
theorem dX5_would_73 : decode cX5_would 73 = .ok (.iload_n 1, 1) := by decide +kernel
theorem dX5_would_74 : decode cX5_would 74 = .ok (.iload_n 2, 1) := by decide +kernel
theorem dX5_would_75 : decode cX5_would 75 = .ok (.invokevirtual 221, 3) := by decide +kernel
theorem dX5_would_78 : decode cX5_would 78 = .ok (.iload 4, 2) := by decide +kernel
theorem dX5_would_80 : decode cX5_would 80 = .ok (.ireturn, 1) := by decide +kernel
set_option maxRecDepth 20000 in
theorem ggX5_toldBySwap_X1_wayOff : GoodIn wsX5_toldBySwap wsX1_wayOff := goodIn_r _ [6, 7, 8, 9, 5, 10, 11, 12, 13, 14, 15, 16, 17, 18, 19, 20, 21, 22, 23, 24, 25, 26, 27, 28, 29, 30, 31, 32, 33, 34, 35, 36, 85, 86, 87] (by decide +kernel) (by decide +kernel)
set_option maxRecDepth 20000 in
theorem gX5_toldBySwap_X1_wayOff : GoodIn wsX5_toldBySwap (wsV RX5 57 RX1 yX1_wayOff wsX1_wayOff) := goodIn_app (goodIn_of _ (by decide +kernel)) ggX5_toldBySwap_X1_wayOff
set_option maxRecDepth 20000 in
theorem ggX5_toldBySwap_X1_magicLines : GoodIn wsX5_toldBySwap wsX1_magicLines := goodIn_r _ [40, 7, 8, 9, 5, 10, 11, 41, 42, 43, 44, 20, 21, 22, 23, 24, 25, 26, 27, 28, 29, 30, 31, 32, 33, 34, 35, 36, 85, 86, 87] (by decide +kernel) (by decide +kernel)
set_option maxRecDepth 20000 in
theorem gX5_toldBySwap_X1_magicLines : GoodIn wsX5_toldBySwap (wsV RX5 76 RX1 yX1_magicLines wsX1_magicLines) := goodIn_app (goodIn_of _ (by decide +kernel)) ggX5_toldBySwap_X1_magicLines
set_option maxRecDepth 20000 in
theorem ggX5_toldBySwap_X3_dueToAll : GoodIn wsX5_toldBySwap wsX3_dueToAll := goodIn_r _ [49, 50, 51, 52, 53, 48, 54, 55, 56, 57, 58, 59, 60, 42, 43, 5, 44, 20, 21, 22, 23, 11, 24, 25, 26, 27, 28, 29, 30, 31, 32, 33, 34, 35, 36, 61, 62, 63, 64, 65, 66, 67, 68, 69, 70, 88, 89, 90, 85, 86, 87] (by decide +kernel) (by decide +kernel)
set_option maxRecDepth 20000 in
theorem gX5_toldBySwap_X3_dueToAll : GoodIn wsX5_toldBySwap (wsV RX5 227 RX3 yX3_dueToAll wsX3_dueToAll) := goodIn_app (goodIn_of _ (by decide +kernel)) ggX5_toldBySwap_X3_dueToAll
theorem dX5_toldBySwap_0 : decode cX5_toldBySwap 0 = .ok (.iload_n 1, 1) := by decide +kernel
theorem dX5_toldBySwap_1 : decode cX5_toldBySwap 1 = .ok (.lookupswitch 49 #[(0, 27), (1, 38)], 27) := by decide +kernel
theorem dX5_toldBySwap_28 : decode cX5_toldBySwap 28 = .ok (.aload_n 0, 1) := by decide +kernel
theorem dX5_toldBySwap_29 : decode cX5_toldBySwap 29 = .ok (.getfield 10, 3) := by decide +kernel
theorem dX5_toldBySwap_32 : decode cX5_toldBySwap 32 = .ok (.getfield 44, 3) := by decide +kernel
theorem dX5_toldBySwap_35 : decode cX5_toldBySwap 35 = .ok (.invokevirtual 57, 3) := by decide +kernel
theorem dX5_toldBySwap_38 : decode cX5_toldBySwap 38 = .ok (.ireturn, 1) := by decide +kernel
theorem dX5_toldBySwap_39 : decode cX5_toldBySwap 39 = .ok (.aload_n 0, 1) := by decide +kernel
theorem dX5_toldBySwap_40 : decode cX5_toldBySwap 40 = .ok (.getfield 10, 3) := by decide +kernel
theorem dX5_toldBySwap_43 : decode cX5_toldBySwap 43 = .ok (.getfield 44, 3) := by decide +kernel
theorem dX5_toldBySwap_46 : decode cX5_toldBySwap 46 = .ok (.invokevirtual 76, 3) := by decide +kernel
theorem dX5_toldBySwap_49 : decode cX5_toldBySwap 49 = .ok (.ireturn, 1) := by decide +kernel
theorem dX5_toldBySwap_50 : decode cX5_toldBySwap 50 = .ok (.aload_n 0, 1) := by decide +kernel
theorem dX5_toldBySwap_51 : decode cX5_toldBySwap 51 = .ok (.getfield 10, 3) := by decide +kernel
theorem dX5_toldBySwap_54 : decode cX5_toldBySwap 54 = .ok (.getfield 113, 3) := by decide +kernel
theorem dX5_toldBySwap_57 : decode cX5_toldBySwap 57 = .ok (.aload_n 0, 1) := by decide +kernel
theorem dX5_toldBySwap_58 : decode cX5_toldBySwap 58 = .ok (.getfield 10, 3) := by decide +kernel
theorem dX5_toldBySwap_61 : decode cX5_toldBySwap 61 = .ok (.getfield 44, 3) := by decide +kernel
theorem dX5_toldBySwap_64 : decode cX5_toldBySwap 64 = .ok (.invokevirtual 227, 3) := by decide +kernel
theorem dX5_toldBySwap_67 : decode cX5_toldBySwap 67 = .ok (.ireturn, 1) := by decide +kernel
set_option maxRecDepth 20000 in
theorem ggX5_best_X1_bestSwap : GoodIn wsX5_best wsX1_bestSwap := goodIn_r _ [6, 7, 8, 9, 5, 10, 11, 12, 13, 14, 15, 16, 17, 18, 19, 20, 21, 22, 23, 24, 25, 26, 27, 28, 29, 30, 31, 32, 33, 34, 35, 36, 37, 38, 39, 40, 41, 42, 43, 44, 45, 46, 47, 48, 49, 50, 51, 52, 53, 54, 55, 56, 57, 58, 59, 60, 61, 76, 77, 78] (by decide +kernel) (by decide +kernel)
set_option maxRecDepth 20000 in
theorem gX5_best_X1_bestSwap : GoodIn wsX5_best (wsV RX5 231 RX1 yX1_bestSwap wsX1_bestSwap) := goodIn_app (goodIn_of _ (by decide +kernel)) ggX5_best_X1_bestSwap
theorem dX5_best_0 : decode cX5_best 0 = .ok (.aload_n 0, 1) := by decide +kernel
theorem dX5_best_1 : decode cX5_best 1 = .ok (.getfield 10, 3) := by decide +kernel
theorem dX5_best_4 : decode cX5_best 4 = .ok (.getfield 44, 3) := by decide +kernel
theorem dX5_best_7 : decode cX5_best 7 = .ok (.invokevirtual 231, 3) := by decide +kernel
theorem dX5_best_10 : decode cX5_best 10 = .ok (.ireturn, 1) := by decide +kernel
set_option maxRecDepth 20000 in
theorem ggX5_count_X1_side : GoodIn wsX5_count wsX1_side := goodIn_r _ [8, 9, 124, 125, 126] (by decide +kernel) (by decide +kernel)
set_option maxRecDepth 20000 in
theorem gX5_count_X1_side : GoodIn wsX5_count (wsV RX5 234 RX1 yX1_side wsX1_side) := goodIn_app (goodIn_of _ (by decide +kernel)) ggX5_count_X1_side
set_option maxRecDepth 20000 in
theorem ggX5_count_X1_magicNumber : GoodIn wsX5_count wsX1_magicNumber := goodIn_r _ [13, 9, 124, 125, 126] (by decide +kernel) (by decide +kernel)
set_option maxRecDepth 20000 in
theorem gX5_count_X1_magicNumber : GoodIn wsX5_count (wsV RX5 178 RX1 yX1_magicNumber wsX1_magicNumber) := goodIn_app (goodIn_of _ (by decide +kernel)) ggX5_count_X1_magicNumber
set_option maxRecDepth 20000 in
theorem ggX5_count_X1_wayOff : GoodIn wsX5_count wsX1_wayOff := goodIn_r _ [17, 18, 19, 20, 7, 21, 9, 22, 23, 24, 25, 26, 27, 28, 29, 30, 31, 32, 33, 34, 35, 36, 37, 38, 39, 40, 41, 42, 43, 11, 12, 13, 124, 125, 126] (by decide +kernel) (by decide +kernel)
set_option maxRecDepth 20000 in
theorem gX5_count_X1_wayOff : GoodIn wsX5_count (wsV RX5 57 RX1 yX1_wayOff wsX1_wayOff) := goodIn_app (goodIn_of _ (by decide +kernel)) ggX5_count_X1_wayOff
set_option maxRecDepth 20000 in
theorem ggX5_count_X1_magicLines : GoodIn wsX5_count wsX1_magicLines := goodIn_r _ [47, 18, 19, 20, 7, 21, 9, 48, 49, 50, 51, 30, 31, 32, 33, 34, 35, 36, 37, 38, 39, 40, 41, 42, 43, 11, 12, 13, 124, 125, 126] (by decide +kernel) (by decide +kernel)
set_option maxRecDepth 20000 in
theorem gX5_count_X1_magicLines : GoodIn wsX5_count (wsV RX5 76 RX1 yX1_magicLines wsX1_magicLines) := goodIn_app (goodIn_of _ (by decide +kernel)) ggX5_count_X1_magicLines
set_option maxRecDepth 20000 in
theorem ggX5_count_X2_turn : GoodIn wsX5_count wsX2_turn := goodIn_r _ [56, 57, 115, 116, 117, 118, 119, 120, 121, 122, 123] (by decide +kernel) (by decide +kernel)
set_option maxRecDepth 20000 in
theorem gX5_count_X2_turn : GoodIn wsX5_count (wsV RX5 132 RX2 yX2_turn wsX2_turn) := goodIn_app (goodIn_of _ (by decide +kernel)) ggX5_count_X2_turn
set_option maxRecDepth 20000 in
theorem ggX5_count_X2_pot : GoodIn wsX5_count wsX2_pot := goodIn_r _ [61, 62, 115, 116, 117, 118, 119, 120, 121, 122, 123] (by decide +kernel) (by decide +kernel)
set_option maxRecDepth 20000 in
theorem gX5_count_X2_pot : GoodIn wsX5_count (wsV RX5 237 RX2 yX2_pot wsX2_pot) := goodIn_app (goodIn_of _ (by decide +kernel)) ggX5_count_X2_pot
set_option maxRecDepth 20000 in
theorem ggX5_count_X3_size : GoodIn wsX5_count wsX3_size := goodIn_r _ [67, 68, 127, 128, 129] (by decide +kernel) (by decide +kernel)
set_option maxRecDepth 20000 in
theorem gX5_count_X3_size : GoodIn wsX5_count (wsV RX5 117 RX3 yX3_size wsX3_size) := goodIn_app (goodIn_of _ (by decide +kernel)) ggX5_count_X3_size
set_option maxRecDepth 20000 in
theorem ggX5_count_X2_roundSwaps : GoodIn wsX5_count wsX2_roundSwaps := goodIn_r _ [72, 73, 115, 116, 117, 118, 119, 120, 121, 122, 123] (by decide +kernel) (by decide +kernel)
set_option maxRecDepth 20000 in
theorem gX5_count_X2_roundSwaps : GoodIn wsX5_count (wsV RX5 240 RX2 yX2_roundSwaps wsX2_roundSwaps) := goodIn_app (goodIn_of _ (by decide +kernel)) ggX5_count_X2_roundSwaps
set_option maxRecDepth 20000 in
theorem ggX5_count_X2_allSwaps : GoodIn wsX5_count wsX2_allSwaps := goodIn_r _ [77, 78, 115, 116, 117, 118, 119, 120, 121, 122, 123] (by decide +kernel) (by decide +kernel)
set_option maxRecDepth 20000 in
theorem gX5_count_X2_allSwaps : GoodIn wsX5_count (wsV RX5 243 RX2 yX2_allSwaps wsX2_allSwaps) := goodIn_app (goodIn_of _ (by decide +kernel)) ggX5_count_X2_allSwaps
set_option maxRecDepth 20000 in
theorem ggX5_count_X1_frozenCells : GoodIn wsX5_count wsX1_frozenCells := goodIn_r _ [82, 83, 124, 125, 126] (by decide +kernel) (by decide +kernel)
set_option maxRecDepth 20000 in
theorem gX5_count_X1_frozenCells : GoodIn wsX5_count (wsV RX5 98 RX1 yX1_frozenCells wsX1_frozenCells) := goodIn_app (goodIn_of _ (by decide +kernel)) ggX5_count_X1_frozenCells
set_option maxRecDepth 20000 in
theorem ggX5_count_X2_settingOf : GoodIn wsX5_count wsX2_settingOf := goodIn_r _ [87, 88, 115, 116, 117, 118, 119, 120, 121, 122, 123] (by decide +kernel) (by decide +kernel)
set_option maxRecDepth 20000 in
theorem gX5_count_X2_settingOf : GoodIn wsX5_count (wsV RX5 139 RX2 yX2_settingOf wsX2_settingOf) := goodIn_app (goodIn_of _ (by decide +kernel)) ggX5_count_X2_settingOf
set_option maxRecDepth 20000 in
theorem ggX5_count_X0_size : GoodIn wsX5_count wsX0_size := goodIn_r _ [93, 94, 130, 131] (by decide +kernel) (by decide +kernel)
set_option maxRecDepth 20000 in
theorem gX5_count_X0_size : GoodIn wsX5_count (wsV RX5 159 RX0 yX0_size wsX0_size) := goodIn_app (goodIn_of _ (by decide +kernel)) ggX5_count_X0_size
set_option maxRecDepth 20000 in
theorem ggX5_count_X4_length : GoodIn wsX5_count wsX4_length := goodIn_r _ [99, 100, 132, 133] (by decide +kernel) (by decide +kernel)
set_option maxRecDepth 20000 in
theorem gX5_count_X4_length : GoodIn wsX5_count (wsV RX5 149 RX4 yX4_length wsX4_length) := goodIn_app (goodIn_of _ (by decide +kernel)) ggX5_count_X4_length
set_option maxRecDepth 20000 in
theorem ggX5_count_X3_amountOfAll : GoodIn wsX5_count wsX3_amountOfAll := goodIn_r _ [104, 68, 105, 106, 107, 66, 108, 109, 127, 128, 129] (by decide +kernel) (by decide +kernel)
set_option maxRecDepth 20000 in
theorem gX5_count_X3_amountOfAll : GoodIn wsX5_count (wsV RX5 246 RX3 yX3_amountOfAll wsX3_amountOfAll) := goodIn_app (goodIn_of _ (by decide +kernel)) ggX5_count_X3_amountOfAll
theorem dX5_count_0 : decode cX5_count 0 = .ok (.iload_n 1, 1) := by decide +kernel
theorem dX5_count_1 : decode cX5_count 1 = .ok (.tableswitch 231 0 15 #[79, 90, 101, 112, 123, 131, 139, 150, 158, 166, 177, 186, 195, 204, 212, 220], 79) := by decide +kernel
theorem dX5_count_80 : decode cX5_count 80 = .ok (.aload_n 0, 1) := by decide +kernel
theorem dX5_count_81 : decode cX5_count 81 = .ok (.getfield 10, 3) := by decide +kernel
theorem dX5_count_84 : decode cX5_count 84 = .ok (.getfield 44, 3) := by decide +kernel
theorem dX5_count_87 : decode cX5_count 87 = .ok (.invokevirtual 234, 3) := by decide +kernel
theorem dX5_count_90 : decode cX5_count 90 = .ok (.ireturn, 1) := by decide +kernel
theorem dX5_count_91 : decode cX5_count 91 = .ok (.aload_n 0, 1) := by decide +kernel
