theorem dX6_stake_72 : decode cX6_stake 72 = .ok (.aload_n 0, 1) := by decide +kernel
theorem dX6_stake_73 : decode cX6_stake 73 = .ok (.getfield 7, 3) := by decide +kernel
theorem dX6_stake_76 : decode cX6_stake 76 = .ok (.bipush 9, 2) := by decide +kernel
theorem dX6_stake_78 : decode cX6_stake 78 = .ok (.aload_n 0, 1) := by decide +kernel
theorem dX6_stake_79 : decode cX6_stake 79 = .ok (.getfield 7, 3) := by decide +kernel
theorem dX6_stake_82 : decode cX6_stake 82 = .ok (.iconst 1, 1) := by decide +kernel
theorem dX6_stake_83 : decode cX6_stake 83 = .ok (.iaload, 1) := by decide +kernel
theorem dX6_stake_84 : decode cX6_stake 84 = .ok (.iadd, 1) := by decide +kernel
theorem dX6_stake_85 : decode cX6_stake 85 = .ok (.dup2, 1) := by decide +kernel
theorem dX6_stake_86 : decode cX6_stake 86 = .ok (.iaload, 1) := by decide +kernel
theorem dX6_stake_87 : decode cX6_stake 87 = .ok (.iload_n 3, 1) := by decide +kernel
theorem dX6_stake_88 : decode cX6_stake 88 = .ok (.isub, 1) := by decide +kernel
theorem dX6_stake_89 : decode cX6_stake 89 = .ok (.iastore, 1) := by decide +kernel
theorem dX6_stake_90 : decode cX6_stake 90 = .ok (.aload_n 0, 1) := by decide +kernel
theorem dX6_stake_91 : decode cX6_stake 91 = .ok (.getfield 7, 3) := by decide +kernel
theorem dX6_stake_94 : decode cX6_stake 94 = .ok (.iload 4, 2) := by decide +kernel
theorem dX6_stake_96 : decode cX6_stake 96 = .ok (.iconst 0, 1) := by decide +kernel
theorem dX6_stake_97 : decode cX6_stake 97 = .ok (.invokestatic 55, 3) := by decide +kernel
theorem dX6_stake_100 : decode cX6_stake 100 = .ok (.aload_n 0, 1) := by decide +kernel
theorem dX6_stake_101 : decode cX6_stake 101 = .ok (.getfield 7, 3) := by decide +kernel
theorem dX6_stake_104 : decode cX6_stake 104 = .ok (.iconst 1, 1) := by decide +kernel
theorem dX6_stake_105 : decode cX6_stake 105 = .ok (.iaload, 1) := by decide +kernel
theorem dX6_stake_106 : decode cX6_stake 106 = .ok (.iastore, 1) := by decide +kernel
theorem dX6_stake_107 : decode cX6_stake 107 = .ok (.aload_n 0, 1) := by decide +kernel
theorem dX6_stake_108 : decode cX6_stake 108 = .ok (.getfield 7, 3) := by decide +kernel
theorem dX6_stake_111 : decode cX6_stake 111 = .ok (.iload 4, 2) := by decide +kernel
theorem dX6_stake_113 : decode cX6_stake 113 = .ok (.iconst 1, 1) := by decide +kernel
theorem dX6_stake_114 : decode cX6_stake 114 = .ok (.invokestatic 55, 3) := by decide +kernel
theorem dX6_stake_117 : decode cX6_stake 117 = .ok (.iload_n 1, 1) := by decide +kernel
theorem dX6_stake_118 : decode cX6_stake 118 = .ok (.iastore, 1) := by decide +kernel
theorem dX6_stake_119 : decode cX6_stake 119 = .ok (.aload_n 0, 1) := by decide +kernel
theorem dX6_stake_120 : decode cX6_stake 120 = .ok (.getfield 7, 3) := by decide +kernel
theorem dX6_stake_123 : decode cX6_stake 123 = .ok (.iload 4, 2) := by decide +kernel
theorem dX6_stake_125 : decode cX6_stake 125 = .ok (.iconst 2, 1) := by decide +kernel
theorem dX6_stake_126 : decode cX6_stake 126 = .ok (.invokestatic 55, 3) := by decide +kernel
theorem dX6_stake_129 : decode cX6_stake 129 = .ok (.iload_n 2, 1) := by decide +kernel
theorem dX6_stake_130 : decode cX6_stake 130 = .ok (.iastore, 1) := by decide +kernel
theorem dX6_stake_131 : decode cX6_stake 131 = .ok (.aload_n 0, 1) := by decide +kernel
theorem dX6_stake_132 : decode cX6_stake 132 = .ok (.getfield 7, 3) := by decide +kernel
theorem dX6_stake_135 : decode cX6_stake 135 = .ok (.iload 4, 2) := by decide +kernel
theorem dX6_stake_137 : decode cX6_stake 137 = .ok (.iconst 3, 1) := by decide +kernel
theorem dX6_stake_138 : decode cX6_stake 138 = .ok (.invokestatic 55, 3) := by decide +kernel
theorem dX6_stake_141 : decode cX6_stake 141 = .ok (.iload_n 3, 1) := by decide +kernel
theorem dX6_stake_142 : decode cX6_stake 142 = .ok (.iastore, 1) := by decide +kernel
theorem dX6_stake_143 : decode cX6_stake 143 = .ok (.aload_n 0, 1) := by decide +kernel
theorem dX6_stake_144 : decode cX6_stake 144 = .ok (.getfield 7, 3) := by decide +kernel
theorem dX6_stake_147 : decode cX6_stake 147 = .ok (.iload 4, 2) := by decide +kernel
theorem dX6_stake_149 : decode cX6_stake 149 = .ok (.iconst 4, 1) := by decide +kernel
theorem dX6_stake_150 : decode cX6_stake 150 = .ok (.invokestatic 55, 3) := by decide +kernel
theorem dX6_stake_153 : decode cX6_stake 153 = .ok (.aload_n 0, 1) := by decide +kernel
theorem dX6_stake_154 : decode cX6_stake 154 = .ok (.iload_n 1, 1) := by decide +kernel
theorem dX6_stake_155 : decode cX6_stake 155 = .ok (.invokevirtual 45, 3) := by decide +kernel
theorem dX6_stake_158 : decode cX6_stake 158 = .ok (.iastore, 1) := by decide +kernel
theorem dX6_stake_159 : decode cX6_stake 159 = .ok (.aload_n 0, 1) := by decide +kernel
theorem dX6_stake_160 : decode cX6_stake 160 = .ok (.getfield 7, 3) := by decide +kernel
theorem dX6_stake_163 : decode cX6_stake 163 = .ok (.iload 4, 2) := by decide +kernel
theorem dX6_stake_165 : decode cX6_stake 165 = .ok (.iconst 5, 1) := by decide +kernel
theorem dX6_stake_166 : decode cX6_stake 166 = .ok (.invokestatic 55, 3) := by decide +kernel
theorem dX6_stake_169 : decode cX6_stake 169 = .ok (.iload_n 2, 1) := by decide +kernel
theorem dX6_stake_170 : decode cX6_stake 170 = .ok (.ifCond .ne 11, 3) := by decide +kernel
theorem dX6_stake_173 : decode cX6_stake 173 = .ok (.aload_n 0, 1) := by decide +kernel
theorem dX6_stake_174 : decode cX6_stake 174 = .ok (.iload_n 1, 1) := by decide +kernel
theorem dX6_stake_175 : decode cX6_stake 175 = .ok (.invokevirtual 52, 3) := by decide +kernel
theorem dX6_stake_178 : decode cX6_stake 178 = .ok (.goto 7, 3) := by decide +kernel
theorem dX6_stake_181 : decode cX6_stake 181 = .ok (.aload_n 0, 1) := by decide +kernel
theorem dX6_stake_182 : decode cX6_stake 182 = .ok (.invokevirtual 108, 3) := by decide +kernel
theorem dX6_stake_185 : decode cX6_stake 185 = .ok (.iastore, 1) := by decide +kernel
theorem dX6_stake_186 : decode cX6_stake 186 = .ok (.aload_n 0, 1) := by decide +kernel
theorem dX6_stake_187 : decode cX6_stake 187 = .ok (.getfield 7, 3) := by decide +kernel
theorem dX6_stake_190 : decode cX6_stake 190 = .ok (.iload 4, 2) := by decide +kernel
theorem dX6_stake_192 : decode cX6_stake 192 = .ok (.bipush 6, 2) := by decide +kernel
theorem dX6_stake_194 : decode cX6_stake 194 = .ok (.invokestatic 55, 3) := by decide +kernel
theorem dX6_stake_197 : decode cX6_stake 197 = .ok (.iload_n 2, 1) := by decide +kernel
theorem dX6_stake_198 : decode cX6_stake 198 = .ok (.ifCond .ne 7, 3) := by decide +kernel
theorem dX6_stake_201 : decode cX6_stake 201 = .ok (.iconst 4, 1) := by decide +kernel
theorem dX6_stake_202 : decode cX6_stake 202 = .ok (.goto 7, 3) := by decide +kernel
theorem dX6_stake_205 : decode cX6_stake 205 = .ok (.aload_n 0, 1) := by decide +kernel
theorem dX6_stake_206 : decode cX6_stake 206 = .ok (.invokevirtual 34, 3) := by decide +kernel
theorem dX6_stake_209 : decode cX6_stake 209 = .ok (.iastore, 1) := by decide +kernel
theorem dX6_stake_210 : decode cX6_stake 210 = .ok (.aload_n 0, 1) := by decide +kernel
theorem dX6_stake_211 : decode cX6_stake 211 = .ok (.getfield 7, 3) := by decide +kernel
theorem dX6_stake_214 : decode cX6_stake 214 = .ok (.iconst 5, 1) := by decide +kernel
theorem dX6_stake_215 : decode cX6_stake 215 = .ok (.dup2, 1) := by decide +kernel
theorem dX6_stake_216 : decode cX6_stake 216 = .ok (.iaload, 1) := by decide +kernel
theorem dX6_stake_217 : decode cX6_stake 217 = .ok (.iconst 1, 1) := by decide +kernel
theorem dX6_stake_218 : decode cX6_stake 218 = .ok (.iadd, 1) := by decide +kernel
theorem dX6_stake_219 : decode cX6_stake 219 = .ok (.iastore, 1) := by decide +kernel
theorem dX6_stake_220 : decode cX6_stake 220 = .ok (.aload_n 0, 1) := by decide +kernel
theorem dX6_stake_221 : decode cX6_stake 221 = .ok (.getfield 7, 3) := by decide +kernel
theorem dX6_stake_224 : decode cX6_stake 224 = .ok (.iconst 5, 1) := by decide +kernel
theorem dX6_stake_225 : decode cX6_stake 225 = .ok (.iaload, 1) := by decide +kernel
theorem dX6_stake_226 : decode cX6_stake 226 = .ok (.ireturn, 1) := by decide +kernel
set_option maxRecDepth 20000 in
theorem ggX6_pass_X6_know : GoodIn wsX6_pass wsX6_know := goodIn_r _ [6, 7, 8, 1, 13, 14, 15, 16, 17, 18, 19] (by decide +kernel) (by decide +kernel)
set_option maxRecDepth 20000 in
theorem gX6_pass_X6_know : GoodIn wsX6_pass (wsV RX6 78 RX6 yX6_know wsX6_know) := goodIn_app (goodIn_of _ (by decide +kernel)) ggX6_pass_X6_know
set_option maxRecDepth 20000 in
theorem ggX6_pass_X6_nextTurn : GoodIn wsX6_pass wsX6_nextTurn := goodIn_r _ [12, 1, 13, 14, 15, 16, 17, 18, 19] (by decide +kernel) (by decide +kernel)
set_option maxRecDepth 20000 in
theorem gX6_pass_X6_nextTurn : GoodIn wsX6_pass (wsV RX6 105 RX6 yX6_nextTurn wsX6_nextTurn) := goodIn_app (goodIn_of _ (by decide +kernel)) ggX6_pass_X6_nextTurn
theorem dX6_pass_0 : decode cX6_pass 0 = .ok (.aload_n 0, 1) := by decide +kernel
theorem dX6_pass_1 : decode cX6_pass 1 = .ok (.invokevirtual 78, 3) := by decide +kernel
theorem dX6_pass_4 : decode cX6_pass 4 = .ok (.aload_n 0, 1) := by decide +kernel
theorem dX6_pass_5 : decode cX6_pass 5 = .ok (.invokevirtual 105, 3) := by decide +kernel
theorem dX6_pass_8 : decode cX6_pass 8 = .ok (.aload_n 0, 1) := by decide +kernel
theorem dX6_pass_9 : decode cX6_pass 9 = .ok (.getfield 7, 3) := by decide +kernel
theorem dX6_pass_12 : decode cX6_pass 12 = .ok (.iconst 1, 1) := by decide +kernel
theorem dX6_pass_13 : decode cX6_pass 13 = .ok (.iaload, 1) := by decide +kernel
theorem dX6_pass_14 : decode cX6_pass 14 = .ok (.ireturn, 1) := by decide +kernel
set_option maxRecDepth 20000 in
theorem ggX6_set_X6_in : GoodIn wsX6_set wsX6_in := goodIn_r _ [5] (by decide +kernel) (by decide +kernel)
set_option maxRecDepth 20000 in
theorem gX6_set_X6_in : GoodIn wsX6_set (va_wsS RX6 30 yX6_in wsX6_in) := goodIn_app (goodIn_of _ (by decide +kernel)) ggX6_set_X6_in
set_option maxRecDepth 20000 in
theorem ggX6_set_X6_know : GoodIn wsX6_set wsX6_know := goodIn_r _ [9, 10, 11, 1, 12, 13, 14, 15, 16, 17, 18] (by decide +kernel) (by decide +kernel)
set_option maxRecDepth 20000 in
theorem gX6_set_X6_know : GoodIn wsX6_set (wsV RX6 78 RX6 yX6_know wsX6_know) := goodIn_app (goodIn_of _ (by decide +kernel)) ggX6_set_X6_know
theorem dX6_set_0 : decode cX6_set 0 = .ok (.iload_n 1, 1) := by decide +kernel
theorem dX6_set_1 : decode cX6_set 1 = .ok (.iconst 0, 1) := by decide +kernel
theorem dX6_set_2 : decode cX6_set 2 = .ok (.iconst 2, 1) := by decide +kernel
theorem dX6_set_3 : decode cX6_set 3 = .ok (.invokestatic 30, 3) := by decide +kernel
theorem dX6_set_6 : decode cX6_set 6 = .ok (.ifCond .eq 21, 3) := by decide +kernel
theorem dX6_set_9 : decode cX6_set 9 = .ok (.iload_n 2, 1) := by decide +kernel
theorem dX6_set_10 : decode cX6_set 10 = .ok (.iload_n 1, 1) := by decide +kernel
theorem dX6_set_11 : decode cX6_set 11 = .ok (.ifCond .ne 7, 3) := by decide +kernel
theorem dX6_set_14 : decode cX6_set 14 = .ok (.iconst 1, 1) := by decide +kernel
theorem dX6_set_15 : decode cX6_set 15 = .ok (.goto 4, 3) := by decide +kernel
theorem dX6_set_18 : decode cX6_set 18 = .ok (.iconst 0, 1) := by decide +kernel
theorem dX6_set_19 : decode cX6_set 19 = .ok (.bipush 9, 2) := by decide +kernel
theorem dX6_set_21 : decode cX6_set 21 = .ok (.invokestatic 30, 3) := by decide +kernel
theorem dX6_set_24 : decode cX6_set 24 = .ok (.ifCond .ne 6, 3) := by decide +kernel
theorem dX6_set_27 : decode cX6_set 27 = .ok (.bipush (-2), 2) := by decide +kernel
theorem dX6_set_29 : decode cX6_set 29 = .ok (.ireturn, 1) := by decide +kernel
theorem dX6_set_30 : decode cX6_set 30 = .ok (.aload_n 0, 1) := by decide +kernel
theorem dX6_set_31 : decode cX6_set 31 = .ok (.getfield 7, 3) := by decide +kernel
theorem dX6_set_34 : decode cX6_set 34 = .ok (.bipush 6, 2) := by decide +kernel
theorem dX6_set_36 : decode cX6_set 36 = .ok (.iload_n 1, 1) := by decide +kernel
theorem dX6_set_37 : decode cX6_set 37 = .ok (.iadd, 1) := by decide +kernel
theorem dX6_set_38 : decode cX6_set 38 = .ok (.iaload, 1) := by decide +kernel
theorem dX6_set_39 : decode cX6_set 39 = .ok (.istore_n 3, 1) := by decide +kernel
theorem dX6_set_40 : decode cX6_set 40 = .ok (.iload_n 3, 1) := by decide +kernel
theorem dX6_set_41 : decode cX6_set 41 = .ok (.iload_n 2, 1) := by decide +kernel
theorem dX6_set_42 : decode cX6_set 42 = .ok (.if_icmp .ne 6, 3) := by decide +kernel
theorem dX6_set_45 : decode cX6_set 45 = .ok (.bipush (-5), 2) := by decide +kernel
theorem dX6_set_47 : decode cX6_set 47 = .ok (.ireturn, 1) := by decide +kernel
theorem dX6_set_48 : decode cX6_set 48 = .ok (.aload_n 0, 1) := by decide +kernel
theorem dX6_set_49 : decode cX6_set 49 = .ok (.invokevirtual 78, 3) := by decide +kernel
theorem dX6_set_52 : decode cX6_set 52 = .ok (.aload_n 0, 1) := by decide +kernel
theorem dX6_set_53 : decode cX6_set 53 = .ok (.getfield 7, 3) := by decide +kernel
theorem dX6_set_56 : decode cX6_set 56 = .ok (.bipush 6, 2) := by decide +kernel
theorem dX6_set_58 : decode cX6_set 58 = .ok (.iload_n 1, 1) := by decide +kernel
theorem dX6_set_59 : decode cX6_set 59 = .ok (.iadd, 1) := by decide +kernel
theorem dX6_set_60 : decode cX6_set 60 = .ok (.iload_n 2, 1) := by decide +kernel
theorem dX6_set_61 : decode cX6_set 61 = .ok (.iastore, 1) := by decide +kernel
theorem dX6_set_62 : decode cX6_set 62 = .ok (.iload_n 3, 1) := by decide +kernel
theorem dX6_set_63 : decode cX6_set 63 = .ok (.ireturn, 1) := by decide +kernel
theorem dX6_type_0 : decode cX6_type 0 = .ok (.aload_n 0, 1) := by decide +kernel
theorem dX6_type_1 : decode cX6_type 1 = .ok (.getfield 90, 3) := by decide +kernel
theorem dX6_type_4 : decode cX6_type 4 = .ok (.bipush 60, 2) := by decide +kernel
theorem dX6_type_6 : decode cX6_type 6 = .ok (.if_icmp .ne 6, 3) := by decide +kernel
theorem dX6_type_9 : decode cX6_type 9 = .ok (.bipush (-3), 2) := by decide +kernel
theorem dX6_type_11 : decode cX6_type 11 = .ok (.ireturn, 1) := by decide +kernel
theorem dX6_type_12 : decode cX6_type 12 = .ok (.aload_n 0, 1) := by decide +kernel
theorem dX6_type_13 : decode cX6_type 13 = .ok (.getfield 19, 3) := by decide +kernel
theorem dX6_type_16 : decode cX6_type 16 = .ok (.aload_n 0, 1) := by decide +kernel
theorem dX6_type_17 : decode cX6_type 17 = .ok (.getfield 90, 3) := by decide +kernel
theorem dX6_type_20 : decode cX6_type 20 = .ok (.iload_n 1, 1) := by decide +kernel
theorem dX6_type_21 : decode cX6_type 21 = .ok (.iastore, 1) := by decide +kernel
theorem dX6_type_22 : decode cX6_type 22 = .ok (.aload_n 0, 1) := by decide +kernel
theorem dX6_type_23 : decode cX6_type 23 = .ok (.dup, 1) := by decide +kernel
theorem dX6_type_24 : decode cX6_type 24 = .ok (.getfield 90, 3) := by decide +kernel
theorem dX6_type_27 : decode cX6_type 27 = .ok (.iconst 1, 1) := by decide +kernel
theorem dX6_type_28 : decode cX6_type 28 = .ok (.iadd, 1) := by decide +kernel
theorem dX6_type_29 : decode cX6_type 29 = .ok (.putfield 90, 3) := by decide +kernel
theorem dX6_type_32 : decode cX6_type 32 = .ok (.aload_n 0, 1) := by decide +kernel
theorem dX6_type_33 : decode cX6_type 33 = .ok (.getfield 90, 3) := by decide +kernel
theorem dX6_type_36 : decode cX6_type 36 = .ok (.ireturn, 1) := by decide +kernel
theorem dX6_clearText_0 : decode cX6_clearText 0 = .ok (.aload_n 0, 1) := by decide +kernel
theorem dX6_clearText_1 : decode cX6_clearText 1 = .ok (.getfield 90, 3) := by decide +kernel
theorem dX6_clearText_4 : decode cX6_clearText 4 = .ok (.istore_n 1, 1) := by decide +kernel
theorem dX6_clearText_5 : decode cX6_clearText 5 = .ok (.aload_n 0, 1) := by decide +kernel
theorem dX6_clearText_6 : decode cX6_clearText 6 = .ok (.iconst 0, 1) := by decide +kernel
theorem dX6_clearText_7 : decode cX6_clearText 7 = .ok (.putfield 90, 3) := by decide +kernel
theorem dX6_clearText_10 : decode cX6_clearText 10 = .ok (.iload_n 1, 1) := by decide +kernel
theorem dX6_clearText_11 : decode cX6_clearText 11 = .ok (.ireturn, 1) := by decide +kernel
theorem dX6_undo_0 : decode cX6_undo 0 = .ok (.aload_n 0, 1) := by decide +kernel
theorem dX6_undo_1 : decode cX6_undo 1 = .ok (.getfield 37, 3) := by decide +kernel
theorem dX6_undo_4 : decode cX6_undo 4 = .ok (.ifCond .ne 6, 3) := by decide +kernel
theorem dX6_undo_7 : decode cX6_undo 7 = .ok (.bipush (-5), 2) := by decide +kernel
theorem dX6_undo_9 : decode cX6_undo 9 = .ok (.ireturn, 1) := by decide +kernel
theorem dX6_undo_10 : decode cX6_undo 10 = .ok (.aload_n 0, 1) := by decide +kernel
theorem dX6_undo_11 : decode cX6_undo 11 = .ok (.dup, 1) := by decide +kernel
theorem dX6_undo_12 : decode cX6_undo 12 = .ok (.getfield 37, 3) := by decide +kernel
theorem dX6_undo_15 : decode cX6_undo 15 = .ok (.iconst 1, 1) := by decide +kernel
theorem dX6_undo_16 : decode cX6_undo 16 = .ok (.isub, 1) := by decide +kernel
theorem dX6_undo_17 : decode cX6_undo 17 = .ok (.putfield 37, 3) := by decide +kernel
theorem dX6_undo_20 : decode cX6_undo 20 = .ok (.iconst 0, 1) := by decide +kernel
theorem dX6_undo_21 : decode cX6_undo 21 = .ok (.istore_n 1, 1) := by decide +kernel
theorem dX6_undo_22 : decode cX6_undo 22 = .ok (.iload_n 1, 1) := by decide +kernel
theorem dX6_undo_23 : decode cX6_undo 23 = .ok (.bipush 117, 2) := by decide +kernel
theorem dX6_undo_25 : decode cX6_undo 25 = .ok (.if_icmp .ge 29, 3) := by decide +kernel
theorem dX6_undo_28 : decode cX6_undo 28 = .ok (.aload_n 0, 1) := by decide +kernel
theorem dX6_undo_29 : decode cX6_undo 29 = .ok (.getfield 7, 3) := by decide +kernel
theorem dX6_undo_32 : decode cX6_undo 32 = .ok (.iload_n 1, 1) := by decide +kernel
theorem dX6_undo_33 : decode cX6_undo 33 = .ok (.aload_n 0, 1) := by decide +kernel
theorem dX6_undo_34 : decode cX6_undo 34 = .ok (.getfield 13, 3) := by decide +kernel
theorem dX6_undo_37 : decode cX6_undo 37 = .ok (.bipush 117, 2) := by decide +kernel
theorem dX6_undo_39 : decode cX6_undo 39 = .ok (.aload_n 0, 1) := by decide +kernel
theorem dX6_undo_40 : decode cX6_undo 40 = .ok (.getfield 37, 3) := by decide +kernel
theorem dX6_undo_43 : decode cX6_undo 43 = .ok (.imul, 1) := by decide +kernel
theorem dX6_undo_44 : decode cX6_undo 44 = .ok (.iload_n 1, 1) := by decide +kernel
theorem dX6_undo_45 : decode cX6_undo 45 = .ok (.iadd, 1) := by decide +kernel
theorem dX6_undo_46 : decode cX6_undo 46 = .ok (.iaload, 1) := by decide +kernel
theorem dX6_undo_47 : decode cX6_undo 47 = .ok (.iastore, 1) := by decide +kernel
theorem dX6_undo_48 : decode cX6_undo 48 = .ok (.iinc 1 1, 3) := by decide +kernel
theorem dX6_undo_51 : decode cX6_undo 51 = .ok (.goto (-29), 3) := by decide +kernel
theorem dX6_undo_54 : decode cX6_undo 54 = .ok (.aload_n 0, 1) := by decide +kernel
theorem dX6_undo_55 : decode cX6_undo 55 = .ok (.getfield 37, 3) := by decide +kernel
theorem dX6_undo_58 : decode cX6_undo 58 = .ok (.ireturn, 1) := by decide +kernel
set_option maxRecDepth 20000 in
theorem ggX6_keep_X6_wayOff : GoodIn wsX6_keep wsX6_wayOff := goodIn_r _ [8, 9, 10, 11, 7, 12, 2, 13, 14, 15, 16, 17, 18, 19, 20, 21, 22, 23, 24, 25, 26, 27, 28, 29, 30, 31, 32, 33, 34, 35, 36, 37, 38, 39] (by decide +kernel) (by decide +kernel)
set_option maxRecDepth 20000 in
theorem gX6_keep_X6_wayOff : GoodIn wsX6_keep (wsV RX6 87 RX6 yX6_wayOff wsX6_wayOff) := goodIn_app (goodIn_of _ (by decide +kernel)) ggX6_keep_X6_wayOff
theorem dX6_keep_0 : decode cX6_keep 0 = .ok (.iconst 0, 1) := by decide +kernel
theorem dX6_keep_1 : decode cX6_keep 1 = .ok (.istore_n 1, 1) := by decide +kernel
theorem dX6_keep_2 : decode cX6_keep 2 = .ok (.iload_n 1, 1) := by decide +kernel
theorem dX6_keep_3 : decode cX6_keep 3 = .ok (.bipush 117, 2) := by decide +kernel
theorem dX6_keep_5 : decode cX6_keep 5 = .ok (.if_icmp .ge 21, 3) := by decide +kernel
theorem dX6_keep_8 : decode cX6_keep 8 = .ok (.aload_n 0, 1) := by decide +kernel
theorem dX6_keep_9 : decode cX6_keep 9 = .ok (.getfield 16, 3) := by decide +kernel
theorem dX6_keep_12 : decode cX6_keep 12 = .ok (.iload_n 1, 1) := by decide +kernel
theorem dX6_keep_13 : decode cX6_keep 13 = .ok (.aload_n 0, 1) := by decide +kernel
theorem dX6_keep_14 : decode cX6_keep 14 = .ok (.getfield 7, 3) := by decide +kernel
theorem dX6_keep_17 : decode cX6_keep 17 = .ok (.iload_n 1, 1) := by decide +kernel
theorem dX6_keep_18 : decode cX6_keep 18 = .ok (.iaload, 1) := by decide +kernel
theorem dX6_keep_19 : decode cX6_keep 19 = .ok (.iastore, 1) := by decide +kernel
theorem dX6_keep_20 : decode cX6_keep 20 = .ok (.iinc 1 1, 3) := by decide +kernel
theorem dX6_keep_23 : decode cX6_keep 23 = .ok (.goto (-21), 3) := by decide +kernel
theorem dX6_keep_26 : decode cX6_keep 26 = .ok (.aload_n 0, 1) := by decide +kernel
theorem dX6_keep_27 : decode cX6_keep 27 = .ok (.iconst 1, 1) := by decide +kernel
theorem dX6_keep_28 : decode cX6_keep 28 = .ok (.putfield 117, 3) := by decide +kernel
theorem dX6_keep_31 : decode cX6_keep 31 = .ok (.aload_n 0, 1) := by decide +kernel
theorem dX6_keep_32 : decode cX6_keep 32 = .ok (.invokevirtual 87, 3) := by decide +kernel
theorem dX6_keep_35 : decode cX6_keep 35 = .ok (.ireturn, 1) := by decide +kernel
set_option maxRecDepth 20000 in
theorem ggX6_restore_X6_know : GoodIn wsX6_restore wsX6_know := goodIn_r _ [8, 9, 10, 2, 39, 40, 41, 42, 43, 44, 45] (by decide +kernel) (by decide +kernel)
set_option maxRecDepth 20000 in
theorem gX6_restore_X6_know : GoodIn wsX6_restore (wsV RX6 78 RX6 yX6_know wsX6_know) := goodIn_app (goodIn_of _ (by decide +kernel)) ggX6_restore_X6_know
set_option maxRecDepth 20000 in
theorem ggX6_restore_X6_wayOff : GoodIn wsX6_restore wsX6_wayOff := goodIn_r _ [14, 15, 16, 17, 7, 18, 2, 19, 20, 21, 22, 23, 24, 25, 26, 27, 28, 29, 30, 31, 32, 33, 34, 35, 36, 37, 38, 39, 40, 41, 42, 43, 44, 45] (by decide +kernel) (by decide +kernel)
set_option maxRecDepth 20000 in
theorem gX6_restore_X6_wayOff : GoodIn wsX6_restore (wsV RX6 87 RX6 yX6_wayOff wsX6_wayOff) := goodIn_app (goodIn_of _ (by decide +kernel)) ggX6_restore_X6_wayOff
theorem dX6_restore_0 : decode cX6_restore 0 = .ok (.aload_n 0, 1) := by decide +kernel
theorem dX6_restore_1 : decode cX6_restore 1 = .ok (.getfield 117, 3) := by decide +kernel
theorem dX6_restore_4 : decode cX6_restore 4 = .ok (.ifCond .ne 6, 3) := by decide +kernel
theorem dX6_restore_7 : decode cX6_restore 7 = .ok (.bipush (-5), 2) := by decide +kernel
theorem dX6_restore_9 : decode cX6_restore 9 = .ok (.ireturn, 1) := by decide +kernel
theorem dX6_restore_10 : decode cX6_restore 10 = .ok (.aload_n 0, 1) := by decide +kernel
theorem dX6_restore_11 : decode cX6_restore 11 = .ok (.invokevirtual 78, 3) := by decide +kernel
theorem dX6_restore_14 : decode cX6_restore 14 = .ok (.iconst 0, 1) := by decide +kernel
theorem dX6_restore_15 : decode cX6_restore 15 = .ok (.istore_n 1, 1) := by decide +kernel
theorem dX6_restore_16 : decode cX6_restore 16 = .ok (.iload_n 1, 1) := by decide +kernel
theorem dX6_restore_17 : decode cX6_restore 17 = .ok (.bipush 117, 2) := by decide +kernel
theorem dX6_restore_19 : decode cX6_restore 19 = .ok (.if_icmp .ge 21, 3) := by decide +kernel
theorem dX6_restore_22 : decode cX6_restore 22 = .ok (.aload_n 0, 1) := by decide +kernel
theorem dX6_restore_23 : decode cX6_restore 23 = .ok (.getfield 7, 3) := by decide +kernel
theorem dX6_restore_26 : decode cX6_restore 26 = .ok (.iload_n 1, 1) := by decide +kernel
theorem dX6_restore_27 : decode cX6_restore 27 = .ok (.aload_n 0, 1) := by decide +kernel
theorem dX6_restore_28 : decode cX6_restore 28 = .ok (.getfield 16, 3) := by decide +kernel
theorem dX6_restore_31 : decode cX6_restore 31 = .ok (.iload_n 1, 1) := by decide +kernel
theorem dX6_restore_32 : decode cX6_restore 32 = .ok (.iaload, 1) := by decide +kernel
theorem dX6_restore_33 : decode cX6_restore 33 = .ok (.iastore, 1) := by decide +kernel
theorem dX6_restore_34 : decode cX6_restore 34 = .ok (.iinc 1 1, 3) := by decide +kernel
theorem dX6_restore_37 : decode cX6_restore 37 = .ok (.goto (-21), 3) := by decide +kernel
theorem dX6_restore_40 : decode cX6_restore 40 = .ok (.aload_n 0, 1) := by decide +kernel
theorem dX6_restore_41 : decode cX6_restore 41 = .ok (.invokevirtual 87, 3) := by decide +kernel
theorem dX6_restore_44 : decode cX6_restore 44 = .ok (.ireturn, 1) := by decide +kernel
set_option maxRecDepth 20000 in
theorem ggX6_linesOf_X6_lines : GoodIn wsX6_linesOf wsX6_lines := goodIn_r _ [5, 6, 27, 28, 29, 30, 31, 32, 33] (by decide +kernel) (by decide +kernel)
set_option maxRecDepth 20000 in
theorem gX6_linesOf_X6_lines : GoodIn wsX6_linesOf (wsV RX6 34 RX6 yX6_lines wsX6_lines) := goodIn_app (goodIn_of _ (by decide +kernel)) ggX6_linesOf_X6_lines
set_option maxRecDepth 20000 in
theorem ggX6_linesOf_X6_isOn : GoodIn wsX6_linesOf wsX6_isOn := goodIn_r _ [10, 6, 27, 28, 29, 30, 31, 32, 33] (by decide +kernel) (by decide +kernel)
set_option maxRecDepth 20000 in
theorem gX6_linesOf_X6_isOn : GoodIn wsX6_linesOf (wsV RX6 41 RX6 yX6_isOn wsX6_isOn) := goodIn_app (goodIn_of _ (by decide +kernel)) ggX6_linesOf_X6_isOn
set_option maxRecDepth 20000 in
theorem ggX6_linesOf_X6_off : GoodIn wsX6_linesOf wsX6_off := goodIn_r _ [14, 15, 16, 17, 4, 18, 6, 19, 20, 21, 22, 7, 8, 9, 10, 23, 24, 25, 26, 27, 28, 29, 30, 31, 32, 33] (by decide +kernel) (by decide +kernel)
set_option maxRecDepth 20000 in
theorem gX6_linesOf_X6_off : GoodIn wsX6_linesOf (wsV RX6 52 RX6 yX6_off wsX6_off) := goodIn_app (goodIn_of _ (by decide +kernel)) ggX6_linesOf_X6_off
theorem dX6_linesOf_0 : decode cX6_linesOf 0 = .ok (.iconst 0, 1) := by decide +kernel
theorem dX6_linesOf_1 : decode cX6_linesOf 1 = .ok (.istore_n 3, 1) := by decide +kernel
theorem dX6_linesOf_2 : decode cX6_linesOf 2 = .ok (.iconst 0, 1) := by decide +kernel
theorem dX6_linesOf_3 : decode cX6_linesOf 3 = .ok (.istore 4, 2) := by decide +kernel
theorem dX6_linesOf_5 : decode cX6_linesOf 5 = .ok (.iload 4, 2) := by decide +kernel
theorem dX6_linesOf_7 : decode cX6_linesOf 7 = .ok (.aload_n 0, 1) := by decide +kernel
theorem dX6_linesOf_8 : decode cX6_linesOf 8 = .ok (.invokevirtual 34, 3) := by decide +kernel
theorem dX6_linesOf_11 : decode cX6_linesOf 11 = .ok (.if_icmp .ge 40, 3) := by decide +kernel
theorem dX6_linesOf_14 : decode cX6_linesOf 14 = .ok (.iload_n 3, 1) := by decide +kernel
theorem dX6_linesOf_15 : decode cX6_linesOf 15 = .ok (.aload_n 0, 1) := by decide +kernel
theorem dX6_linesOf_16 : decode cX6_linesOf 16 = .ok (.iload 4, 2) := by decide +kernel
theorem dX6_linesOf_18 : decode cX6_linesOf 18 = .ok (.iload_n 1, 1) := by decide +kernel
theorem dX6_linesOf_19 : decode cX6_linesOf 19 = .ok (.invokevirtual 41, 3) := by decide +kernel
theorem dX6_linesOf_22 : decode cX6_linesOf 22 = .ok (.ifCond .eq 20, 3) := by decide +kernel
theorem dX6_linesOf_25 : decode cX6_linesOf 25 = .ok (.iload_n 2, 1) := by decide +kernel
theorem dX6_linesOf_26 : decode cX6_linesOf 26 = .ok (.ifCond .eq 12, 3) := by decide +kernel
theorem dX6_linesOf_29 : decode cX6_linesOf 29 = .ok (.aload_n 0, 1) := by decide +kernel
theorem dX6_linesOf_30 : decode cX6_linesOf 30 = .ok (.iload 4, 2) := by decide +kernel
theorem dX6_linesOf_32 : decode cX6_linesOf 32 = .ok (.invokevirtual 52, 3) := by decide +kernel
theorem dX6_linesOf_35 : decode cX6_linesOf 35 = .ok (.ifCond .ne 7, 3) := by decide +kernel
theorem dX6_linesOf_38 : decode cX6_linesOf 38 = .ok (.iconst 1, 1) := by decide +kernel
theorem dX6_linesOf_39 : decode cX6_linesOf 39 = .ok (.goto 4, 3) := by decide +kernel
theorem dX6_linesOf_42 : decode cX6_linesOf 42 = .ok (.iconst 0, 1) := by decide +kernel
theorem dX6_linesOf_43 : decode cX6_linesOf 43 = .ok (.iadd, 1) := by decide +kernel
theorem dX6_linesOf_44 : decode cX6_linesOf 44 = .ok (.istore_n 3, 1) := by decide +kernel
theorem dX6_linesOf_45 : decode cX6_linesOf 45 = .ok (.iinc 4 1, 3) := by decide +kernel
theorem dX6_linesOf_48 : decode cX6_linesOf 48 = .ok (.goto (-43), 3) := by decide +kernel
theorem dX6_linesOf_51 : decode cX6_linesOf 51 = .ok (.iload_n 3, 1) := by decide +kernel
theorem dX6_linesOf_52 : decode cX6_linesOf 52 = .ok (.ireturn, 1) := by decide +kernel
set_option maxRecDepth 20000 in
theorem ggX6_cell_X6_isCell : GoodIn wsX6_cell wsX6_isCell := goodIn_r _ [6, 7, 8, 9, 5, 10, 1, 11, 12, 13, 38, 39, 40, 41, 42, 43, 44] (by decide +kernel) (by decide +kernel)
set_option maxRecDepth 20000 in
theorem gX6_cell_X6_isCell : GoodIn wsX6_cell (wsV RX6 96 RX6 yX6_isCell wsX6_isCell) := goodIn_app (goodIn_of _ (by decide +kernel)) ggX6_cell_X6_isCell
set_option maxRecDepth 20000 in
theorem ggX6_cell_X6_linesOf : GoodIn wsX6_cell wsX6_linesOf := goodIn_r _ [17, 18, 19, 20, 5, 21, 1, 22, 23, 24, 25, 26, 27, 28, 29, 30, 31, 32, 33, 7, 8, 9, 10, 34, 35, 36, 37, 38, 39, 40, 41, 42, 43, 44] (by decide +kernel) (by decide +kernel)
set_option maxRecDepth 20000 in
theorem gX6_cell_X6_linesOf : GoodIn wsX6_cell (wsV RX6 121 RX6 yX6_linesOf wsX6_linesOf) := goodIn_app (goodIn_of _ (by decide +kernel)) ggX6_cell_X6_linesOf
theorem dX6_cell_0 : decode cX6_cell 0 = .ok (.aload_n 0, 1) := by decide +kernel
theorem dX6_cell_1 : decode cX6_cell 1 = .ok (.iload_n 1, 1) := by decide +kernel
theorem dX6_cell_2 : decode cX6_cell 2 = .ok (.invokevirtual 96, 3) := by decide +kernel
theorem dX6_cell_5 : decode cX6_cell 5 = .ok (.ifCond .ne 5, 3) := by decide +kernel
theorem dX6_cell_8 : decode cX6_cell 8 = .ok (.iconst (-1), 1) := by decide +kernel
theorem dX6_cell_9 : decode cX6_cell 9 = .ok (.ireturn, 1) := by decide +kernel
theorem dX6_cell_10 : decode cX6_cell 10 = .ok (.iload_n 2, 1) := by decide +kernel
theorem dX6_cell_11 : decode cX6_cell 11 = .ok (.tableswitch 65 0 3 #[29, 39, 49, 49], 29) := by decide +kernel
theorem dX6_cell_40 : decode cX6_cell 40 = .ok (.aload_n 0, 1) := by decide +kernel
theorem dX6_cell_41 : decode cX6_cell 41 = .ok (.getfield 7, 3) := by decide +kernel
theorem dX6_cell_44 : decode cX6_cell 44 = .ok (.bipush 15, 2) := by decide +kernel
theorem dX6_cell_46 : decode cX6_cell 46 = .ok (.iload_n 1, 1) := by decide +kernel
theorem dX6_cell_47 : decode cX6_cell 47 = .ok (.iadd, 1) := by decide +kernel
theorem dX6_cell_48 : decode cX6_cell 48 = .ok (.iaload, 1) := by decide +kernel
theorem dX6_cell_49 : decode cX6_cell 49 = .ok (.ireturn, 1) := by decide +kernel
theorem dX6_cell_50 : decode cX6_cell 50 = .ok (.aload_n 0, 1) := by decide +kernel
theorem dX6_cell_51 : decode cX6_cell 51 = .ok (.getfield 7, 3) := by decide +kernel
theorem dX6_cell_54 : decode cX6_cell 54 = .ok (.bipush 31, 2) := by decide +kernel
theorem dX6_cell_56 : decode cX6_cell 56 = .ok (.iload_n 1, 1) := by decide +kernel
theorem dX6_cell_57 : decode cX6_cell 57 = .ok (.iadd, 1) := by decide +kernel
theorem dX6_cell_58 : decode cX6_cell 58 = .ok (.iaload, 1) := by decide +kernel
theorem dX6_cell_59 : decode cX6_cell 59 = .ok (.ireturn, 1) := by decide +kernel
theorem dX6_cell_60 : decode cX6_cell 60 = .ok (.aload_n 0, 1) := by decide +kernel
theorem dX6_cell_61 : decode cX6_cell 61 = .ok (.iload_n 1, 1) := by decide +kernel
theorem dX6_cell_62 : decode cX6_cell 62 = .ok (.iload_n 2, 1) := by decide +kernel
theorem dX6_cell_63 : decode cX6_cell 63 = .ok (.iconst 3, 1) := by decide +kernel
theorem dX6_cell_64 : decode cX6_cell 64 = .ok (.if_icmp .ne 7, 3) := by decide +kernel
theorem dX6_cell_67 : decode cX6_cell 67 = .ok (.iconst 1, 1) := by decide +kernel
theorem dX6_cell_68 : decode cX6_cell 68 = .ok (.goto 4, 3) := by decide +kernel
theorem dX6_cell_71 : decode cX6_cell 71 = .ok (.iconst 0, 1) := by decide +kernel
theorem dX6_cell_72 : decode cX6_cell 72 = .ok (.invokevirtual 121, 3) := by decide +kernel
theorem dX6_cell_75 : decode cX6_cell 75 = .ok (.ireturn, 1) := by decide +kernel
theorem dX6_cell_76 : decode cX6_cell 76 = .ok (.bipush (-2), 2) := by decide +kernel
theorem dX6_cell_78 : decode cX6_cell 78 = .ok (.ireturn, 1) := by decide +kernel
set_option maxRecDepth 20000 in
theorem ggX6_stakesOf_X6_of : GoodIn wsX6_stakesOf wsX6_of := goodIn_r _ [5] (by decide +kernel) (by decide +kernel)
set_option maxRecDepth 20000 in
theorem gX6_stakesOf_X6_of : GoodIn wsX6_stakesOf (va_wsS RX6 55 yX6_of wsX6_of) := goodIn_app (goodIn_of _ (by decide +kernel)) ggX6_stakesOf_X6_of
theorem dX6_stakesOf_0 : decode cX6_stakesOf 0 = .ok (.iconst 0, 1) := by decide +kernel
theorem dX6_stakesOf_1 : decode cX6_stakesOf 1 = .ok (.istore 4, 2) := by decide +kernel
theorem dX6_stakesOf_3 : decode cX6_stakesOf 3 = .ok (.iconst 0, 1) := by decide +kernel
theorem dX6_stakesOf_4 : decode cX6_stakesOf 4 = .ok (.istore 5, 2) := by decide +kernel
theorem dX6_stakesOf_6 : decode cX6_stakesOf 6 = .ok (.iload 5, 2) := by decide +kernel
theorem dX6_stakesOf_8 : decode cX6_stakesOf 8 = .ok (.aload_n 0, 1) := by decide +kernel
theorem dX6_stakesOf_9 : decode cX6_stakesOf 9 = .ok (.getfield 7, 3) := by decide +kernel
theorem dX6_stakesOf_12 : decode cX6_stakesOf 12 = .ok (.iconst 5, 1) := by decide +kernel
theorem dX6_stakesOf_13 : decode cX6_stakesOf 13 = .ok (.iaload, 1) := by decide +kernel
theorem dX6_stakesOf_14 : decode cX6_stakesOf 14 = .ok (.if_icmp .ge 52, 3) := by decide +kernel
theorem dX6_stakesOf_17 : decode cX6_stakesOf 17 = .ok (.iload 4, 2) := by decide +kernel
theorem dX6_stakesOf_19 : decode cX6_stakesOf 19 = .ok (.aload_n 0, 1) := by decide +kernel
theorem dX6_stakesOf_20 : decode cX6_stakesOf 20 = .ok (.getfield 7, 3) := by decide +kernel
theorem dX6_stakesOf_23 : decode cX6_stakesOf 23 = .ok (.iload 5, 2) := by decide +kernel
theorem dX6_stakesOf_25 : decode cX6_stakesOf 25 = .ok (.iload_n 1, 1) := by decide +kernel
theorem dX6_stakesOf_26 : decode cX6_stakesOf 26 = .ok (.invokestatic 55, 3) := by decide +kernel
theorem dX6_stakesOf_29 : decode cX6_stakesOf 29 = .ok (.iaload, 1) := by decide +kernel
theorem dX6_stakesOf_30 : decode cX6_stakesOf 30 = .ok (.iload_n 2, 1) := by decide +kernel
theorem dX6_stakesOf_31 : decode cX6_stakesOf 31 = .ok (.if_icmp .eq 7, 3) := by decide +kernel
theorem dX6_stakesOf_34 : decode cX6_stakesOf 34 = .ok (.iconst 0, 1) := by decide +kernel
theorem dX6_stakesOf_35 : decode cX6_stakesOf 35 = .ok (.goto 22, 3) := by decide +kernel
theorem dX6_stakesOf_38 : decode cX6_stakesOf 38 = .ok (.iload_n 3, 1) := by decide +kernel
theorem dX6_stakesOf_39 : decode cX6_stakesOf 39 = .ok (.ifCond .eq 17, 3) := by decide +kernel
theorem dX6_stakesOf_42 : decode cX6_stakesOf 42 = .ok (.aload_n 0, 1) := by decide +kernel
theorem dX6_stakesOf_43 : decode cX6_stakesOf 43 = .ok (.getfield 7, 3) := by decide +kernel
theorem dX6_stakesOf_46 : decode cX6_stakesOf 46 = .ok (.iload 5, 2) := by decide +kernel
theorem dX6_stakesOf_48 : decode cX6_stakesOf 48 = .ok (.iconst 3, 1) := by decide +kernel
theorem dX6_stakesOf_49 : decode cX6_stakesOf 49 = .ok (.invokestatic 55, 3) := by decide +kernel
theorem dX6_stakesOf_52 : decode cX6_stakesOf 52 = .ok (.iaload, 1) := by decide +kernel
theorem dX6_stakesOf_53 : decode cX6_stakesOf 53 = .ok (.goto 4, 3) := by decide +kernel
theorem dX6_stakesOf_56 : decode cX6_stakesOf 56 = .ok (.iconst 1, 1) := by decide +kernel
theorem dX6_stakesOf_57 : decode cX6_stakesOf 57 = .ok (.iadd, 1) := by decide +kernel
theorem dX6_stakesOf_58 : decode cX6_stakesOf 58 = .ok (.istore 4, 2) := by decide +kernel
theorem dX6_stakesOf_60 : decode cX6_stakesOf 60 = .ok (.iinc 5 1, 3) := by decide +kernel
theorem dX6_stakesOf_63 : decode cX6_stakesOf 63 = .ok (.goto (-57), 3) := by decide +kernel
theorem dX6_stakesOf_66 : decode cX6_stakesOf 66 = .ok (.iload 4, 2) := by decide +kernel
theorem dX6_stakesOf_68 : decode cX6_stakesOf 68 = .ok (.ireturn, 1) := by decide +kernel
set_option maxRecDepth 20000 in
theorem ggX6_line_X6_isLine : GoodIn wsX6_line wsX6_isLine := goodIn_r _ [5, 6, 7, 8, 4, 9, 10, 11, 12, 13, 41, 42, 43, 44, 45, 46, 47] (by decide +kernel) (by decide +kernel)
set_option maxRecDepth 20000 in
theorem gX6_line_X6_isLine : GoodIn wsX6_line (wsV RX6 114 RX6 yX6_isLine wsX6_isLine) := goodIn_app (goodIn_of _ (by decide +kernel)) ggX6_line_X6_isLine
set_option maxRecDepth 20000 in
theorem ggX6_line_X6_sum : GoodIn wsX6_line wsX6_sum := goodIn_r _ [17, 10, 18, 19, 20, 4, 21, 22, 23, 24, 25, 41, 42, 43, 44, 45, 46, 47] (by decide +kernel) (by decide +kernel)
set_option maxRecDepth 20000 in
theorem gX6_line_X6_sum : GoodIn wsX6_line (wsV RX6 45 RX6 yX6_sum wsX6_sum) := goodIn_app (goodIn_of _ (by decide +kernel)) ggX6_line_X6_sum
set_option maxRecDepth 20000 in
theorem ggX6_line_X6_magic : GoodIn wsX6_line wsX6_magic := goodIn_r _ [29, 10, 18, 19, 20, 4, 21, 41, 42, 43, 44, 45, 46, 47] (by decide +kernel) (by decide +kernel)
set_option maxRecDepth 20000 in
theorem gX6_line_X6_magic : GoodIn wsX6_line (wsV RX6 49 RX6 yX6_magic wsX6_magic) := goodIn_app (goodIn_of _ (by decide +kernel)) ggX6_line_X6_magic
set_option maxRecDepth 20000 in
theorem ggX6_line_X6_off : GoodIn wsX6_line wsX6_off := goodIn_r _ [33, 14, 15, 16, 4, 17, 10, 18, 19, 20, 21, 22, 23, 24, 25, 26, 27, 28, 29, 41, 42, 43, 44, 45, 46, 47] (by decide +kernel) (by decide +kernel)
set_option maxRecDepth 20000 in
theorem gX6_line_X6_off : GoodIn wsX6_line (wsV RX6 52 RX6 yX6_off wsX6_off) := goodIn_app (goodIn_of _ (by decide +kernel)) ggX6_line_X6_off
set_option maxRecDepth 20000 in
theorem ggX6_line_X6_stakesOf : GoodIn wsX6_line wsX6_stakesOf := goodIn_r _ [37, 10, 38, 39, 4, 40, 41, 42, 43, 44, 45, 46, 47] (by decide +kernel) (by decide +kernel)
set_option maxRecDepth 20000 in
theorem gX6_line_X6_stakesOf : GoodIn wsX6_line (wsV RX6 125 RX6 yX6_stakesOf wsX6_stakesOf) := goodIn_app (goodIn_of _ (by decide +kernel)) ggX6_line_X6_stakesOf
theorem dX6_line_0 : decode cX6_line 0 = .ok (.aload_n 0, 1) := by decide +kernel
theorem dX6_line_1 : decode cX6_line 1 = .ok (.iload_n 1, 1) := by decide +kernel
theorem dX6_line_2 : decode cX6_line 2 = .ok (.invokevirtual 114, 3) := by decide +kernel
theorem dX6_line_5 : decode cX6_line 5 = .ok (.ifCond .ne 5, 3) := by decide +kernel
theorem dX6_line_8 : decode cX6_line 8 = .ok (.iconst (-1), 1) := by decide +kernel
theorem dX6_line_9 : decode cX6_line 9 = .ok (.ireturn, 1) := by decide +kernel
theorem dX6_line_10 : decode cX6_line 10 = .ok (.iload_n 2, 1) := by decide +kernel
theorem dX6_line_11 : decode cX6_line 11 = .ok (.tableswitch 84 0 4 #[33, 39, 53, 67, 67], 33) := by decide +kernel
theorem dX6_line_44 : decode cX6_line 44 = .ok (.aload_n 0, 1) := by decide +kernel
theorem dX6_line_45 : decode cX6_line 45 = .ok (.iload_n 1, 1) := by decide +kernel
theorem dX6_line_46 : decode cX6_line 46 = .ok (.invokevirtual 45, 3) := by decide +kernel
theorem dX6_line_49 : decode cX6_line 49 = .ok (.ireturn, 1) := by decide +kernel
theorem dX6_line_50 : decode cX6_line 50 = .ok (.aload_n 0, 1) := by decide +kernel
theorem dX6_line_51 : decode cX6_line 51 = .ok (.iload_n 1, 1) := by decide +kernel
theorem dX6_line_52 : decode cX6_line 52 = .ok (.invokevirtual 45, 3) := by decide +kernel
theorem dX6_line_55 : decode cX6_line 55 = .ok (.aload_n 0, 1) := by decide +kernel
theorem dX6_line_56 : decode cX6_line 56 = .ok (.invokevirtual 49, 3) := by decide +kernel
theorem dX6_line_59 : decode cX6_line 59 = .ok (.isub, 1) := by decide +kernel
theorem dX6_line_60 : decode cX6_line 60 = .ok (.bipush 100, 2) := by decide +kernel
theorem dX6_line_62 : decode cX6_line 62 = .ok (.iadd, 1) := by decide +kernel
theorem dX6_line_63 : decode cX6_line 63 = .ok (.ireturn, 1) := by decide +kernel
theorem dX6_line_64 : decode cX6_line 64 = .ok (.aload_n 0, 1) := by decide +kernel
theorem dX6_line_65 : decode cX6_line 65 = .ok (.iload_n 1, 1) := by decide +kernel
theorem dX6_line_66 : decode cX6_line 66 = .ok (.invokevirtual 52, 3) := by decide +kernel
theorem dX6_line_69 : decode cX6_line 69 = .ok (.ifCond .ne 7, 3) := by decide +kernel
theorem dX6_line_72 : decode cX6_line 72 = .ok (.iconst 1, 1) := by decide +kernel
theorem dX6_line_73 : decode cX6_line 73 = .ok (.goto 4, 3) := by decide +kernel
theorem dX6_line_76 : decode cX6_line 76 = .ok (.iconst 0, 1) := by decide +kernel
theorem dX6_line_77 : decode cX6_line 77 = .ok (.ireturn, 1) := by decide +kernel
theorem dX6_line_78 : decode cX6_line 78 = .ok (.aload_n 0, 1) := by decide +kernel
theorem dX6_line_79 : decode cX6_line 79 = .ok (.iconst 1, 1) := by decide +kernel
theorem dX6_line_80 : decode cX6_line 80 = .ok (.iload_n 1, 1) := by decide +kernel
theorem dX6_line_81 : decode cX6_line 81 = .ok (.iload_n 2, 1) := by decide +kernel
theorem dX6_line_82 : decode cX6_line 82 = .ok (.iconst 4, 1) := by decide +kernel
theorem dX6_line_83 : decode cX6_line 83 = .ok (.if_icmp .ne 7, 3) := by decide +kernel
theorem dX6_line_86 : decode cX6_line 86 = .ok (.iconst 1, 1) := by decide +kernel
theorem dX6_line_87 : decode cX6_line 87 = .ok (.goto 4, 3) := by decide +kernel
theorem dX6_line_90 : decode cX6_line 90 = .ok (.iconst 0, 1) := by decide +kernel
theorem dX6_line_91 : decode cX6_line 91 = .ok (.invokevirtual 125, 3) := by decide +kernel
theorem dX6_line_94 : decode cX6_line 94 = .ok (.ireturn, 1) := by decide +kernel
theorem dX6_line_95 : decode cX6_line 95 = .ok (.bipush (-2), 2) := by decide +kernel
theorem dX6_line_97 : decode cX6_line 97 = .ok (.ireturn, 1) := by decide +kernel
set_option maxRecDepth 20000 in
theorem ggX6_rival_X6_in : GoodIn wsX6_rival wsX6_in := goodIn_r _ [5] (by decide +kernel) (by decide +kernel)
set_option maxRecDepth 20000 in
theorem gX6_rival_X6_in : GoodIn wsX6_rival (va_wsS RX6 30 yX6_in wsX6_in) := goodIn_app (goodIn_of _ (by decide +kernel)) ggX6_rival_X6_in
set_option maxRecDepth 20000 in
theorem ggX6_rival_X6_stakesOf : GoodIn wsX6_rival wsX6_stakesOf := goodIn_r _ [9, 1, 10, 11, 4, 12, 49, 50, 51, 52, 53, 54, 55] (by decide +kernel) (by decide +kernel)
set_option maxRecDepth 20000 in
theorem gX6_rival_X6_stakesOf : GoodIn wsX6_rival (wsV RX6 125 RX6 yX6_stakesOf wsX6_stakesOf) := goodIn_app (goodIn_of _ (by decide +kernel)) ggX6_rival_X6_stakesOf
set_option maxRecDepth 20000 in
theorem ggX6_rival_X6_wouldPay : GoodIn wsX6_rival wsX6_wouldPay := goodIn_r _ [16, 1, 10, 11, 4, 12, 17, 18, 19, 20, 21, 22, 23, 24, 25, 26, 27, 28, 29, 30, 31, 32, 33, 34, 35, 36, 37, 38, 39, 40, 41, 42, 43, 44, 45, 46, 47, 48, 49, 50, 51, 52, 53, 54, 55] (by decide +kernel) (by decide +kernel)
set_option maxRecDepth 20000 in
theorem gX6_rival_X6_wouldPay : GoodIn wsX6_rival (wsV RX6 129 RX6 yX6_wouldPay wsX6_wouldPay) := goodIn_app (goodIn_of _ (by decide +kernel)) ggX6_rival_X6_wouldPay
theorem dX6_rival_0 : decode cX6_rival 0 = .ok (.iload_n 1, 1) := by decide +kernel
theorem dX6_rival_1 : decode cX6_rival 1 = .ok (.iconst 0, 1) := by decide +kernel
theorem dX6_rival_2 : decode cX6_rival 2 = .ok (.iconst 2, 1) := by decide +kernel
theorem dX6_rival_3 : decode cX6_rival 3 = .ok (.invokestatic 30, 3) := by decide +kernel
theorem dX6_rival_6 : decode cX6_rival 6 = .ok (.ifCond .ne 5, 3) := by decide +kernel
theorem dX6_rival_9 : decode cX6_rival 9 = .ok (.iconst (-1), 1) := by decide +kernel
theorem dX6_rival_10 : decode cX6_rival 10 = .ok (.ireturn, 1) := by decide +kernel
theorem dX6_rival_11 : decode cX6_rival 11 = .ok (.iload_n 2, 1) := by decide +kernel
theorem dX6_rival_12 : decode cX6_rival 12 = .ok (.tableswitch 79 0 4 #[36, 46, 56, 56, 73], 36) := by decide +kernel
theorem dX6_rival_48 : decode cX6_rival 48 = .ok (.aload_n 0, 1) := by decide +kernel
theorem dX6_rival_49 : decode cX6_rival 49 = .ok (.getfield 7, 3) := by decide +kernel
theorem dX6_rival_52 : decode cX6_rival 52 = .ok (.bipush 9, 2) := by decide +kernel
theorem dX6_rival_54 : decode cX6_rival 54 = .ok (.iload_n 1, 1) := by decide +kernel
theorem dX6_rival_55 : decode cX6_rival 55 = .ok (.iadd, 1) := by decide +kernel
theorem dX6_rival_56 : decode cX6_rival 56 = .ok (.iaload, 1) := by decide +kernel
theorem dX6_rival_57 : decode cX6_rival 57 = .ok (.ireturn, 1) := by decide +kernel
theorem dX6_rival_58 : decode cX6_rival 58 = .ok (.aload_n 0, 1) := by decide +kernel
theorem dX6_rival_59 : decode cX6_rival 59 = .ok (.getfield 7, 3) := by decide +kernel
theorem dX6_rival_62 : decode cX6_rival 62 = .ok (.bipush 12, 2) := by decide +kernel
theorem dX6_rival_64 : decode cX6_rival 64 = .ok (.iload_n 1, 1) := by decide +kernel
theorem dX6_rival_65 : decode cX6_rival 65 = .ok (.iadd, 1) := by decide +kernel
theorem dX6_rival_66 : decode cX6_rival 66 = .ok (.iaload, 1) := by decide +kernel
theorem dX6_rival_67 : decode cX6_rival 67 = .ok (.ireturn, 1) := by decide +kernel
theorem dX6_rival_68 : decode cX6_rival 68 = .ok (.aload_n 0, 1) := by decide +kernel
theorem dX6_rival_69 : decode cX6_rival 69 = .ok (.iconst 0, 1) := by decide +kernel
theorem dX6_rival_70 : decode cX6_rival 70 = .ok (.iload_n 1, 1) := by decide +kernel
theorem dX6_rival_71 : decode cX6_rival 71 = .ok (.iload_n 2, 1) := by decide +kernel
theorem dX6_rival_72 : decode cX6_rival 72 = .ok (.iconst 3, 1) := by decide +kernel
theorem dX6_rival_73 : decode cX6_rival 73 = .ok (.if_icmp .ne 7, 3) := by decide +kernel
theorem dX6_rival_76 : decode cX6_rival 76 = .ok (.iconst 1, 1) := by decide +kernel
theorem dX6_rival_77 : decode cX6_rival 77 = .ok (.goto 4, 3) := by decide +kernel
theorem dX6_rival_80 : decode cX6_rival 80 = .ok (.iconst 0, 1) := by decide +kernel
theorem dX6_rival_81 : decode cX6_rival 81 = .ok (.invokevirtual 125, 3) := by decide +kernel
theorem dX6_rival_84 : decode cX6_rival 84 = .ok (.ireturn, 1) := by decide +kernel
theorem dX6_rival_85 : decode cX6_rival 85 = .ok (.aload_n 0, 1) := by decide +kernel
theorem dX6_rival_86 : decode cX6_rival 86 = .ok (.iload_n 1, 1) := by decide +kernel
theorem dX6_rival_87 : decode cX6_rival 87 = .ok (.invokevirtual 129, 3) := by decide +kernel
theorem dX6_rival_90 : decode cX6_rival 90 = .ok (.ireturn, 1) := by decide +kernel
theorem dX6_rival_91 : decode cX6_rival 91 = .ok (.bipush (-2), 2) := by decide +kernel
theorem dX6_rival_93 : decode cX6_rival 93 = .ok (.ireturn, 1) := by decide +kernel
set_option maxRecDepth 20000 in
theorem ggX6_stakeOf_X6_in : GoodIn wsX6_stakeOf wsX6_in := goodIn_r _ [5] (by decide +kernel) (by decide +kernel)
set_option maxRecDepth 20000 in
theorem gX6_stakeOf_X6_in : GoodIn wsX6_stakeOf (va_wsS RX6 30 yX6_in wsX6_in) := goodIn_app (goodIn_of _ (by decide +kernel)) ggX6_stakeOf_X6_in
set_option maxRecDepth 20000 in
theorem ggX6_stakeOf_X6_of : GoodIn wsX6_stakeOf wsX6_of := goodIn_r _ [8] (by decide +kernel) (by decide +kernel)
set_option maxRecDepth 20000 in
theorem gX6_stakeOf_X6_of : GoodIn wsX6_stakeOf (va_wsS RX6 55 yX6_of wsX6_of) := goodIn_app (goodIn_of _ (by decide +kernel)) ggX6_stakeOf_X6_of
set_option maxRecDepth 20000 in
theorem ggX6_stakeOf_X6_isRight : GoodIn wsX6_stakeOf wsX6_isRight := goodIn_r _ [12, 1, 6, 7, 4, 8, 13, 14, 15, 16, 17, 18, 19, 20, 21, 22, 23, 24, 25, 26, 27, 28, 29, 30, 31, 32, 41, 42, 43, 44, 45, 46, 47] (by decide +kernel) (by decide +kernel)
set_option maxRecDepth 20000 in
theorem gX6_stakeOf_X6_isRight : GoodIn wsX6_stakeOf (wsV RX6 63 RX6 yX6_isRight wsX6_isRight) := goodIn_app (goodIn_of _ (by decide +kernel)) ggX6_stakeOf_X6_isRight
set_option maxRecDepth 20000 in
theorem ggX6_stakeOf_X6_pays : GoodIn wsX6_stakeOf wsX6_pays := goodIn_r _ [36, 1, 6, 7, 4, 8, 37, 38, 39, 40, 41, 42, 43, 44, 45, 46, 47] (by decide +kernel) (by decide +kernel)
set_option maxRecDepth 20000 in
theorem gX6_stakeOf_X6_pays : GoodIn wsX6_stakeOf (wsV RX6 67 RX6 yX6_pays wsX6_pays) := goodIn_app (goodIn_of _ (by decide +kernel)) ggX6_stakeOf_X6_pays
theorem dX6_stakeOf_0 : decode cX6_stakeOf 0 = .ok (.iload_n 1, 1) := by decide +kernel
theorem dX6_stakeOf_1 : decode cX6_stakeOf 1 = .ok (.iconst 0, 1) := by decide +kernel
theorem dX6_stakeOf_2 : decode cX6_stakeOf 2 = .ok (.aload_n 0, 1) := by decide +kernel
theorem dX6_stakeOf_3 : decode cX6_stakeOf 3 = .ok (.getfield 7, 3) := by decide +kernel
theorem dX6_stakeOf_6 : decode cX6_stakeOf 6 = .ok (.iconst 5, 1) := by decide +kernel
theorem dX6_stakeOf_7 : decode cX6_stakeOf 7 = .ok (.iaload, 1) := by decide +kernel
theorem dX6_stakeOf_8 : decode cX6_stakeOf 8 = .ok (.iconst 1, 1) := by decide +kernel
theorem dX6_stakeOf_9 : decode cX6_stakeOf 9 = .ok (.isub, 1) := by decide +kernel
theorem dX6_stakeOf_10 : decode cX6_stakeOf 10 = .ok (.invokestatic 30, 3) := by decide +kernel
theorem dX6_stakeOf_13 : decode cX6_stakeOf 13 = .ok (.ifCond .ne 5, 3) := by decide +kernel
theorem dX6_stakeOf_16 : decode cX6_stakeOf 16 = .ok (.iconst (-1), 1) := by decide +kernel
theorem dX6_stakeOf_17 : decode cX6_stakeOf 17 = .ok (.ireturn, 1) := by decide +kernel
theorem dX6_stakeOf_18 : decode cX6_stakeOf 18 = .ok (.iload_n 2, 1) := by decide +kernel
theorem dX6_stakeOf_19 : decode cX6_stakeOf 19 = .ok (.iconst 0, 1) := by decide +kernel
theorem dX6_stakeOf_20 : decode cX6_stakeOf 20 = .ok (.bipush 6, 2) := by decide +kernel
theorem dX6_stakeOf_22 : decode cX6_stakeOf 22 = .ok (.invokestatic 30, 3) := by decide +kernel
theorem dX6_stakeOf_25 : decode cX6_stakeOf 25 = .ok (.ifCond .ne 6, 3) := by decide +kernel
theorem dX6_stakeOf_28 : decode cX6_stakeOf 28 = .ok (.bipush (-2), 2) := by decide +kernel
theorem dX6_stakeOf_30 : decode cX6_stakeOf 30 = .ok (.ireturn, 1) := by decide +kernel
theorem dX6_stakeOf_31 : decode cX6_stakeOf 31 = .ok (.iload_n 2, 1) := by decide +kernel
theorem dX6_stakeOf_32 : decode cX6_stakeOf 32 = .ok (.iconst 5, 1) := by decide +kernel
theorem dX6_stakeOf_33 : decode cX6_stakeOf 33 = .ok (.if_icmp .ge 16, 3) := by decide +kernel
theorem dX6_stakeOf_36 : decode cX6_stakeOf 36 = .ok (.aload_n 0, 1) := by decide +kernel
theorem dX6_stakeOf_37 : decode cX6_stakeOf 37 = .ok (.getfield 7, 3) := by decide +kernel
theorem dX6_stakeOf_40 : decode cX6_stakeOf 40 = .ok (.iload_n 1, 1) := by decide +kernel
theorem dX6_stakeOf_41 : decode cX6_stakeOf 41 = .ok (.iload_n 2, 1) := by decide +kernel
theorem dX6_stakeOf_42 : decode cX6_stakeOf 42 = .ok (.invokestatic 55, 3) := by decide +kernel
theorem dX6_stakeOf_45 : decode cX6_stakeOf 45 = .ok (.iaload, 1) := by decide +kernel
theorem dX6_stakeOf_46 : decode cX6_stakeOf 46 = .ok (.goto 29, 3) := by decide +kernel
theorem dX6_stakeOf_49 : decode cX6_stakeOf 49 = .ok (.iload_n 2, 1) := by decide +kernel
theorem dX6_stakeOf_50 : decode cX6_stakeOf 50 = .ok (.iconst 5, 1) := by decide +kernel
theorem dX6_stakeOf_51 : decode cX6_stakeOf 51 = .ok (.if_icmp .ne 19, 3) := by decide +kernel
theorem dX6_stakeOf_54 : decode cX6_stakeOf 54 = .ok (.aload_n 0, 1) := by decide +kernel
theorem dX6_stakeOf_55 : decode cX6_stakeOf 55 = .ok (.iload_n 1, 1) := by decide +kernel
theorem dX6_stakeOf_56 : decode cX6_stakeOf 56 = .ok (.invokevirtual 63, 3) := by decide +kernel
theorem dX6_stakeOf_59 : decode cX6_stakeOf 59 = .ok (.ifCond .eq 7, 3) := by decide +kernel
theorem dX6_stakeOf_62 : decode cX6_stakeOf 62 = .ok (.iconst 1, 1) := by decide +kernel
theorem dX6_stakeOf_63 : decode cX6_stakeOf 63 = .ok (.goto 12, 3) := by decide +kernel
theorem dX6_stakeOf_66 : decode cX6_stakeOf 66 = .ok (.iconst 0, 1) := by decide +kernel
theorem dX6_stakeOf_67 : decode cX6_stakeOf 67 = .ok (.goto 8, 3) := by decide +kernel
theorem dX6_stakeOf_70 : decode cX6_stakeOf 70 = .ok (.aload_n 0, 1) := by decide +kernel
theorem dX6_stakeOf_71 : decode cX6_stakeOf 71 = .ok (.iload_n 1, 1) := by decide +kernel
theorem dX6_stakeOf_72 : decode cX6_stakeOf 72 = .ok (.invokevirtual 67, 3) := by decide +kernel
theorem dX6_stakeOf_75 : decode cX6_stakeOf 75 = .ok (.ireturn, 1) := by decide +kernel
set_option maxRecDepth 20000 in
theorem ggX6_odds_X6_in : GoodIn wsX6_odds wsX6_in := goodIn_r _ [6] (by decide +kernel) (by decide +kernel)
set_option maxRecDepth 20000 in
theorem gX6_odds_X6_in : GoodIn wsX6_odds (va_wsS RX6 30 yX6_in wsX6_in) := goodIn_app (goodIn_of _ (by decide +kernel)) ggX6_odds_X6_in
set_option maxRecDepth 20000 in
theorem ggX6_odds_X6_oddsOf : GoodIn wsX6_odds wsX6_oddsOf := goodIn_r _ [10, 1, 11, 12, 5, 13, 14, 15, 16, 17, 18, 19, 20] (by decide +kernel) (by decide +kernel)
set_option maxRecDepth 20000 in
theorem gX6_odds_X6_oddsOf : GoodIn wsX6_odds (wsV RX6 59 RX6 yX6_oddsOf wsX6_oddsOf) := goodIn_app (goodIn_of _ (by decide +kernel)) ggX6_odds_X6_oddsOf
theorem dX6_odds_0 : decode cX6_odds 0 = .ok (.iload_n 1, 1) := by decide +kernel
theorem dX6_odds_1 : decode cX6_odds 1 = .ok (.iconst 0, 1) := by decide +kernel
theorem dX6_odds_2 : decode cX6_odds 2 = .ok (.aload_n 0, 1) := by decide +kernel
theorem dX6_odds_3 : decode cX6_odds 3 = .ok (.getfield 7, 3) := by decide +kernel
theorem dX6_odds_6 : decode cX6_odds 6 = .ok (.iconst 5, 1) := by decide +kernel
theorem dX6_odds_7 : decode cX6_odds 7 = .ok (.iaload, 1) := by decide +kernel
theorem dX6_odds_8 : decode cX6_odds 8 = .ok (.iconst 1, 1) := by decide +kernel
theorem dX6_odds_9 : decode cX6_odds 9 = .ok (.isub, 1) := by decide +kernel
theorem dX6_odds_10 : decode cX6_odds 10 = .ok (.invokestatic 30, 3) := by decide +kernel
theorem dX6_odds_13 : decode cX6_odds 13 = .ok (.ifCond .eq 11, 3) := by decide +kernel
theorem dX6_odds_16 : decode cX6_odds 16 = .ok (.aload_n 0, 1) := by decide +kernel
theorem dX6_odds_17 : decode cX6_odds 17 = .ok (.iload_n 1, 1) := by decide +kernel
theorem dX6_odds_18 : decode cX6_odds 18 = .ok (.invokevirtual 59, 3) := by decide +kernel
theorem dX6_odds_21 : decode cX6_odds 21 = .ok (.goto 5, 3) := by decide +kernel
theorem dX6_odds_24 : decode cX6_odds 24 = .ok (.ldc 132, 2) := by decide +kernel
theorem dX6_odds_26 : decode cX6_odds 26 = .ok (.freturn, 1) := by decide +kernel
set_option maxRecDepth 20000 in
theorem ggX6_tried_X6_exchange : GoodIn wsX6_tried wsX6_exchange := goodIn_r _ [5, 6, 58, 59, 60, 61, 62, 63, 64] (by decide +kernel) (by decide +kernel)
set_option maxRecDepth 20000 in
theorem gX6_tried_X6_exchange : GoodIn wsX6_tried (wsV RX6 84 RX6 yX6_exchange wsX6_exchange) := goodIn_app (goodIn_of _ (by decide +kernel)) ggX6_tried_X6_exchange
set_option maxRecDepth 20000 in
theorem ggX6_tried_X6_wayOff : GoodIn wsX6_tried wsX6_wayOff := goodIn_r _ [10, 11, 12, 13, 4, 14, 6, 15, 16, 17, 18, 19, 20, 21, 22, 23, 24, 25, 26, 27, 28, 29, 30, 31, 32, 33, 34, 58, 59, 60, 61, 62, 63, 64] (by decide +kernel) (by decide +kernel)
set_option maxRecDepth 20000 in
theorem gX6_tried_X6_wayOff : GoodIn wsX6_tried (wsV RX6 87 RX6 yX6_wayOff wsX6_wayOff) := goodIn_app (goodIn_of _ (by decide +kernel)) ggX6_tried_X6_wayOff
set_option maxRecDepth 20000 in
theorem ggX6_tried_X6_magicLines : GoodIn wsX6_tried wsX6_magicLines := goodIn_r _ [38, 11, 12, 13, 4, 14, 6, 15, 16, 17, 18, 19, 20, 21, 22, 23, 24, 25, 26, 27, 28, 29, 30, 31, 32, 33, 34, 58, 59, 60, 61, 62, 63, 64] (by decide +kernel) (by decide +kernel)
set_option maxRecDepth 20000 in
theorem gX6_tried_X6_magicLines : GoodIn wsX6_tried (wsV RX6 108 RX6 yX6_magicLines wsX6_magicLines) := goodIn_app (goodIn_of _ (by decide +kernel)) ggX6_tried_X6_magicLines
set_option maxRecDepth 20000 in
theorem ggX6_tried_X6_wouldPay : GoodIn wsX6_tried wsX6_wouldPay := goodIn_r _ [42, 6, 43, 44, 4, 45, 46, 47, 48, 49, 19, 20, 21, 22, 23, 24, 25, 26, 27, 28, 29, 30, 15, 16, 17, 18, 31, 32, 33, 34, 50, 51, 52, 53, 54, 55, 56, 57, 58, 59, 60, 61, 62, 63, 64] (by decide +kernel) (by decide +kernel)
set_option maxRecDepth 20000 in
theorem gX6_tried_X6_wouldPay : GoodIn wsX6_tried (wsV RX6 129 RX6 yX6_wouldPay wsX6_wouldPay) := goodIn_app (goodIn_of _ (by decide +kernel)) ggX6_tried_X6_wouldPay
theorem dX6_tried_0 : decode cX6_tried 0 = .ok (.aload_n 0, 1) := by decide +kernel
theorem dX6_tried_1 : decode cX6_tried 1 = .ok (.iload_n 1, 1) := by decide +kernel
theorem dX6_tried_2 : decode cX6_tried 2 = .ok (.iload_n 2, 1) := by decide +kernel
theorem dX6_tried_3 : decode cX6_tried 3 = .ok (.invokevirtual 84, 3) := by decide +kernel
theorem dX6_tried_6 : decode cX6_tried 6 = .ok (.iload_n 3, 1) := by decide +kernel
theorem dX6_tried_7 : decode cX6_tried 7 = .ok (.ifCond .ne 10, 3) := by decide +kernel
theorem dX6_tried_10 : decode cX6_tried 10 = .ok (.aload_n 0, 1) := by decide +kernel
theorem dX6_tried_11 : decode cX6_tried 11 = .ok (.invokevirtual 87, 3) := by decide +kernel
theorem dX6_tried_14 : decode cX6_tried 14 = .ok (.goto 20, 3) := by decide +kernel
theorem dX6_tried_17 : decode cX6_tried 17 = .ok (.iload_n 3, 1) := by decide +kernel
theorem dX6_tried_18 : decode cX6_tried 18 = .ok (.iconst 1, 1) := by decide +kernel
theorem dX6_tried_19 : decode cX6_tried 19 = .ok (.if_icmp .ne 10, 3) := by decide +kernel
theorem dX6_tried_22 : decode cX6_tried 22 = .ok (.aload_n 0, 1) := by decide +kernel
theorem dX6_tried_23 : decode cX6_tried 23 = .ok (.invokevirtual 108, 3) := by decide +kernel
theorem dX6_tried_26 : decode cX6_tried 26 = .ok (.goto 8, 3) := by decide +kernel
theorem dX6_tried_29 : decode cX6_tried 29 = .ok (.aload_n 0, 1) := by decide +kernel
theorem dX6_tried_30 : decode cX6_tried 30 = .ok (.iconst 3, 1) := by decide +kernel
theorem dX6_tried_31 : decode cX6_tried 31 = .ok (.invokevirtual 129, 3) := by decide +kernel
theorem dX6_tried_34 : decode cX6_tried 34 = .ok (.istore 4, 2) := by decide +kernel
theorem dX6_tried_36 : decode cX6_tried 36 = .ok (.aload_n 0, 1) := by decide +kernel
theorem dX6_tried_37 : decode cX6_tried 37 = .ok (.iload_n 1, 1) := by decide +kernel
theorem dX6_tried_38 : decode cX6_tried 38 = .ok (.iload_n 2, 1) := by decide +kernel
theorem dX6_tried_39 : decode cX6_tried 39 = .ok (.invokevirtual 84, 3) := by decide +kernel
theorem dX6_tried_42 : decode cX6_tried 42 = .ok (.iload 4, 2) := by decide +kernel
theorem dX6_tried_44 : decode cX6_tried 44 = .ok (.ireturn, 1) := by decide +kernel
set_option maxRecDepth 20000 in
theorem ggX6_would_X6_isCell : GoodIn wsX6_would wsX6_isCell := goodIn_r _ [5, 6, 7, 8, 4, 9, 10, 11, 12, 13, 69, 70, 71, 72, 73, 74, 75] (by decide +kernel) (by decide +kernel)
set_option maxRecDepth 20000 in
theorem gX6_would_X6_isCell : GoodIn wsX6_would (wsV RX6 96 RX6 yX6_isCell wsX6_isCell) := goodIn_app (goodIn_of _ (by decide +kernel)) ggX6_would_X6_isCell
set_option maxRecDepth 20000 in
theorem ggX6_would_X6_in : GoodIn wsX6_would wsX6_in := goodIn_r _ [13] (by decide +kernel) (by decide +kernel)
set_option maxRecDepth 20000 in
theorem gX6_would_X6_in : GoodIn wsX6_would (va_wsS RX6 30 yX6_in wsX6_in) := goodIn_app (goodIn_of _ (by decide +kernel)) ggX6_would_X6_in
set_option maxRecDepth 20000 in
theorem ggX6_would_X6_tried : GoodIn wsX6_would wsX6_tried := goodIn_r _ [17, 18, 19, 20, 4, 21, 10, 22, 23, 24, 25, 26, 27, 28, 29, 30, 31, 32, 33, 34, 35, 36, 37, 6, 7, 8, 9, 38, 39, 40, 41, 42, 43, 44, 45, 46, 47, 48, 49, 50, 51, 52, 53, 54, 55, 56, 57, 58, 59, 60, 61, 62, 63, 64, 65, 66, 67, 68, 69, 70, 71, 72, 73, 74, 75] (by decide +kernel) (by decide +kernel)
set_option maxRecDepth 20000 in
theorem gX6_would_X6_tried : GoodIn wsX6_would (wsV RX6 133 RX6 yX6_tried wsX6_tried) := goodIn_app (goodIn_of _ (by decide +kernel)) ggX6_would_X6_tried
theorem dX6_would_0 : decode cX6_would 0 = .ok (.aload_n 0, 1) := by decide +kernel
theorem dX6_would_1 : decode cX6_would 1 = .ok (.iload_n 1, 1) := by decide +kernel
theorem dX6_would_2 : decode cX6_would 2 = .ok (.invokevirtual 96, 3) := by decide +kernel
theorem dX6_would_5 : decode cX6_would 5 = .ok (.ifCond .eq 11, 3) := by decide +kernel
theorem dX6_would_8 : decode cX6_would 8 = .ok (.aload_n 0, 1) := by decide +kernel
theorem dX6_would_9 : decode cX6_would 9 = .ok (.iload_n 2, 1) := by decide +kernel
theorem dX6_would_10 : decode cX6_would 10 = .ok (.invokevirtual 96, 3) := by decide +kernel
theorem dX6_would_13 : decode cX6_would 13 = .ok (.ifCond .ne 5, 3) := by decide +kernel
theorem dX6_would_16 : decode cX6_would 16 = .ok (.iconst (-1), 1) := by decide +kernel
theorem dX6_would_17 : decode cX6_would 17 = .ok (.ireturn, 1) := by decide +kernel
theorem dX6_would_18 : decode cX6_would 18 = .ok (.iload_n 3, 1) := by decide +kernel
theorem dX6_would_19 : decode cX6_would 19 = .ok (.iconst 0, 1) := by decide +kernel
theorem dX6_would_20 : decode cX6_would 20 = .ok (.iconst 2, 1) := by decide +kernel
theorem dX6_would_21 : decode cX6_would 21 = .ok (.invokestatic 30, 3) := by decide +kernel
theorem dX6_would_24 : decode cX6_would 24 = .ok (.ifCond .eq 18, 3) := by decide +kernel
theorem dX6_would_27 : decode cX6_would 27 = .ok (.iload_n 1, 1) := by decide +kernel
theorem dX6_would_28 : decode cX6_would 28 = .ok (.iload_n 2, 1) := by decide +kernel
theorem dX6_would_29 : decode cX6_would 29 = .ok (.if_icmp .eq 13, 3) := by decide +kernel
theorem dX6_would_32 : decode cX6_would 32 = .ok (.aload_n 0, 1) := by decide +kernel
theorem dX6_would_33 : decode cX6_would 33 = .ok (.iload_n 1, 1) := by decide +kernel
theorem dX6_would_34 : decode cX6_would 34 = .ok (.iload_n 2, 1) := by decide +kernel
theorem dX6_would_35 : decode cX6_would 35 = .ok (.iload_n 3, 1) := by decide +kernel
theorem dX6_would_36 : decode cX6_would 36 = .ok (.invokevirtual 133, 3) := by decide +kernel
theorem dX6_would_39 : decode cX6_would 39 = .ok (.goto 5, 3) := by decide +kernel
theorem dX6_would_42 : decode cX6_would 42 = .ok (.bipush (-2), 2) := by decide +kernel
theorem dX6_would_44 : decode cX6_would 44 = .ok (.ireturn, 1) := by decide +kernel
set_option maxRecDepth 20000 in
theorem ggX6_best_X6_cells : GoodIn wsX6_best wsX6_cells := goodIn_r _ [6, 1, 62, 63, 64, 65, 66, 67, 68] (by decide +kernel) (by decide +kernel)
set_option maxRecDepth 20000 in
theorem gX6_best_X6_cells : GoodIn wsX6_best (wsV RX6 26 RX6 yX6_cells wsX6_cells) := goodIn_app (goodIn_of _ (by decide +kernel)) ggX6_best_X6_cells
set_option maxRecDepth 20000 in
theorem ggX6_best_X6_tried : GoodIn wsX6_best wsX6_tried := goodIn_r _ [10, 11, 12, 13, 5, 14, 1, 15, 16, 17, 18, 19, 20, 21, 22, 23, 24, 25, 26, 27, 28, 29, 30, 2, 3, 4, 6, 31, 32, 33, 34, 35, 36, 37, 38, 39, 40, 41, 42, 43, 44, 45, 46, 47, 48, 49, 50, 51, 52, 53, 54, 55, 56, 57, 58, 59, 60, 61, 62, 63, 64, 65, 66, 67, 68] (by decide +kernel) (by decide +kernel)
set_option maxRecDepth 20000 in
theorem gX6_best_X6_tried : GoodIn wsX6_best (wsV RX6 133 RX6 yX6_tried wsX6_tried) := goodIn_app (goodIn_of _ (by decide +kernel)) ggX6_best_X6_tried
theorem dX6_best_0 : decode cX6_best 0 = .ok (.bipush (-5), 2) := by decide +kernel
theorem dX6_best_2 : decode cX6_best 2 = .ok (.istore_n 1, 1) := by decide +kernel
theorem dX6_best_3 : decode cX6_best 3 = .ok (.iconst 0, 1) := by decide +kernel
theorem dX6_best_4 : decode cX6_best 4 = .ok (.istore_n 2, 1) := by decide +kernel
theorem dX6_best_5 : decode cX6_best 5 = .ok (.iconst 0, 1) := by decide +kernel
theorem dX6_best_6 : decode cX6_best 6 = .ok (.istore_n 3, 1) := by decide +kernel
theorem dX6_best_7 : decode cX6_best 7 = .ok (.iload_n 3, 1) := by decide +kernel
theorem dX6_best_8 : decode cX6_best 8 = .ok (.aload_n 0, 1) := by decide +kernel
theorem dX6_best_9 : decode cX6_best 9 = .ok (.invokevirtual 26, 3) := by decide +kernel
theorem dX6_best_12 : decode cX6_best 12 = .ok (.if_icmp .ge 112, 3) := by decide +kernel
theorem dX6_best_15 : decode cX6_best 15 = .ok (.iload_n 3, 1) := by decide +kernel
theorem dX6_best_16 : decode cX6_best 16 = .ok (.iconst 1, 1) := by decide +kernel
theorem dX6_best_17 : decode cX6_best 17 = .ok (.iadd, 1) := by decide +kernel
theorem dX6_best_18 : decode cX6_best 18 = .ok (.istore 4, 2) := by decide +kernel
theorem dX6_best_20 : decode cX6_best 20 = .ok (.iload 4, 2) := by decide +kernel
theorem dX6_best_22 : decode cX6_best 22 = .ok (.aload_n 0, 1) := by decide +kernel
theorem dX6_best_23 : decode cX6_best 23 = .ok (.invokevirtual 26, 3) := by decide +kernel
theorem dX6_best_26 : decode cX6_best 26 = .ok (.if_icmp .ge 92, 3) := by decide +kernel
theorem dX6_best_29 : decode cX6_best 29 = .ok (.aload_n 0, 1) := by decide +kernel
theorem dX6_best_30 : decode cX6_best 30 = .ok (.getfield 7, 3) := by decide +kernel
theorem dX6_best_33 : decode cX6_best 33 = .ok (.bipush 31, 2) := by decide +kernel
theorem dX6_best_35 : decode cX6_best 35 = .ok (.iload_n 3, 1) := by decide +kernel
theorem dX6_best_36 : decode cX6_best 36 = .ok (.iadd, 1) := by decide +kernel
theorem dX6_best_37 : decode cX6_best 37 = .ok (.iaload, 1) := by decide +kernel
theorem dX6_best_38 : decode cX6_best 38 = .ok (.ifCond .ne 74, 3) := by decide +kernel
theorem dX6_best_41 : decode cX6_best 41 = .ok (.aload_n 0, 1) := by decide +kernel
theorem dX6_best_42 : decode cX6_best 42 = .ok (.getfield 7, 3) := by decide +kernel
theorem dX6_best_45 : decode cX6_best 45 = .ok (.bipush 31, 2) := by decide +kernel
theorem dX6_best_47 : decode cX6_best 47 = .ok (.iload 4, 2) := by decide +kernel
theorem dX6_best_49 : decode cX6_best 49 = .ok (.iadd, 1) := by decide +kernel
theorem dX6_best_50 : decode cX6_best 50 = .ok (.iaload, 1) := by decide +kernel
theorem dX6_best_51 : decode cX6_best 51 = .ok (.ifCond .ne 61, 3) := by decide +kernel
theorem dX6_best_54 : decode cX6_best 54 = .ok (.aload_n 0, 1) := by decide +kernel
theorem dX6_best_55 : decode cX6_best 55 = .ok (.iload_n 3, 1) := by decide +kernel
theorem dX6_best_56 : decode cX6_best 56 = .ok (.iload 4, 2) := by decide +kernel
theorem dX6_best_58 : decode cX6_best 58 = .ok (.iconst 0, 1) := by decide +kernel
theorem dX6_best_59 : decode cX6_best 59 = .ok (.invokevirtual 133, 3) := by decide +kernel
theorem dX6_best_62 : decode cX6_best 62 = .ok (.istore 5, 2) := by decide +kernel
theorem dX6_best_64 : decode cX6_best 64 = .ok (.iload_n 1, 1) := by decide +kernel
theorem dX6_best_65 : decode cX6_best 65 = .ok (.bipush (-5), 2) := by decide +kernel
theorem dX6_best_67 : decode cX6_best 67 = .ok (.if_icmp .eq 9, 3) := by decide +kernel
theorem dX6_best_70 : decode cX6_best 70 = .ok (.iload 5, 2) := by decide +kernel
theorem dX6_best_72 : decode cX6_best 72 = .ok (.iload_n 2, 1) := by decide +kernel
theorem dX6_best_73 : decode cX6_best 73 = .ok (.if_icmp .ge 7, 3) := by decide +kernel
theorem dX6_best_76 : decode cX6_best 76 = .ok (.iconst 1, 1) := by decide +kernel
theorem dX6_best_77 : decode cX6_best 77 = .ok (.goto 4, 3) := by decide +kernel
theorem dX6_best_80 : decode cX6_best 80 = .ok (.iconst 0, 1) := by decide +kernel
theorem dX6_best_81 : decode cX6_best 81 = .ok (.istore 6, 2) := by decide +kernel
theorem dX6_best_83 : decode cX6_best 83 = .ok (.iload 6, 2) := by decide +kernel
theorem dX6_best_85 : decode cX6_best 85 = .ok (.ifCond .eq 13, 3) := by decide +kernel
theorem dX6_best_88 : decode cX6_best 88 = .ok (.bipush 100, 2) := by decide +kernel
theorem dX6_best_90 : decode cX6_best 90 = .ok (.iload_n 3, 1) := by decide +kernel
theorem dX6_best_91 : decode cX6_best 91 = .ok (.imul, 1) := by decide +kernel
theorem dX6_best_92 : decode cX6_best 92 = .ok (.iload 4, 2) := by decide +kernel
theorem dX6_best_94 : decode cX6_best 94 = .ok (.iadd, 1) := by decide +kernel
theorem dX6_best_95 : decode cX6_best 95 = .ok (.goto 4, 3) := by decide +kernel
theorem dX6_best_98 : decode cX6_best 98 = .ok (.iload_n 1, 1) := by decide +kernel
theorem dX6_best_99 : decode cX6_best 99 = .ok (.istore_n 1, 1) := by decide +kernel
theorem dX6_best_100 : decode cX6_best 100 = .ok (.iload 6, 2) := by decide +kernel
theorem dX6_best_102 : decode cX6_best 102 = .ok (.ifCond .eq 8, 3) := by decide +kernel
theorem dX6_best_105 : decode cX6_best 105 = .ok (.iload 5, 2) := by decide +kernel
theorem dX6_best_107 : decode cX6_best 107 = .ok (.goto 4, 3) := by decide +kernel
theorem dX6_best_110 : decode cX6_best 110 = .ok (.iload_n 2, 1) := by decide +kernel
theorem dX6_best_111 : decode cX6_best 111 = .ok (.istore_n 2, 1) := by decide +kernel
theorem dX6_best_112 : decode cX6_best 112 = .ok (.iinc 4 1, 3) := by decide +kernel
theorem dX6_best_115 : decode cX6_best 115 = .ok (.goto (-95), 3) := by decide +kernel
theorem dX6_best_118 : decode cX6_best 118 = .ok (.iinc 3 1, 3) := by decide +kernel
theorem dX6_best_121 : decode cX6_best 121 = .ok (.goto (-114), 3) := by decide +kernel
theorem dX6_best_124 : decode cX6_best 124 = .ok (.iload_n 1, 1) := by decide +kernel
